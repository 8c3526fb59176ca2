/-! the two objects are made -/
def putC (f : Nat → mm_C) (o : Nat) : Nat → mm_C := fun k => if k = o then mO 1 [.ref (o + 1), .ref (o + 2), .ref (o + 3), .ref (o + 4), .ref (o + 5), .ref (o + 6), .int 0] else if o + 1 ≤ k ∧ k ≤ o + 6 then mI 9 (fun _ => 0) else f k
def putR (f : Nat → mm_C) (o n : Nat) : Nat → mm_C := fun k => if k = o then mO 3 [.ref (o + 1), .int (-1)] else if k = o + 1 then mI n (fun _ => 0) else f k
def putB (f : Nat → mm_C) : Nat → mm_C := fun k => if k = 23 then mO 0 [.ref 24, .ref 25, .ref 26, .ref 27, .ref 28, .ref 29, .int 0, .int 0] else if 24 ≤ k ∧ k ≤ 29 then mI 9 (fun _ => 0) else f k
def putW (f : Nat → mm_C) : Nat → mm_C := fun k => if k = 30 then mO 4 [.ref 31, .int 0, .int 0, .int 0, .int 0] else if k = 31 then mI 512 (fun _ => 0) else f k
def putD (f : Nat → mm_C) : Nat → mm_C := fun k => if k = 13 then mO 2 [.ref 14, .ref 21, .int 0] else putR (putC f 14) 21 0 k
section XNw
variable {d : Nat} {K : mm_K} {f : Nat → mm_C}
theorem c_court_5 (hk : K none (12, putC f 5)) : mm_call mm_Ex (d + 1) k_X1_init [.ref 5] (6, mU f 5 (mO 1 (mm_def 1))) K := by
  refine mm_run 1 ?_
  show mm_Ex (d + 1) k_X1_init 2 (6, 54) [.ref 5] [] ((6, mU (f) 5 (mO 1 (mm_def 1))) : mm_H) K
  refine mm_run 3 ⟨by show 6 < 93; decide, by decide +kernel, by decide +kernel, by decide +kernel, ?_⟩
  show mm_Ex (d + 1) k_X1_init 6 (5, 45) [.ref 5] [] ((7, mU (mU (mU (f) 5 (mO 1 (mm_def 1))) 6 (mI 9 (fun _ => 0))) 5 (mO 1 [.ref 6, .null, .null, .null, .null, .null, .int 0])) : mm_H) K
  refine mm_run 3 ⟨by show 7 < 93; decide, by decide +kernel, by decide +kernel, by decide +kernel, ?_⟩
  show mm_Ex (d + 1) k_X1_init 10 (4, 36) [.ref 5] [] ((8, mU (mU (mU (mU (mU (f) 5 (mO 1 (mm_def 1))) 6 (mI 9 (fun _ => 0))) 5 (mO 1 [.ref 6, .null, .null, .null, .null, .null, .int 0])) 7 (mI 9 (fun _ => 0))) 5 (mO 1 [.ref 6, .ref 7, .null, .null, .null, .null, .int 0])) : mm_H) K
  refine mm_run 3 ⟨by show 8 < 93; decide, by decide +kernel, by decide +kernel, by decide +kernel, ?_⟩
  show mm_Ex (d + 1) k_X1_init 14 (3, 27) [.ref 5] [] ((9, mU (mU (mU (mU (mU (mU (mU (f) 5 (mO 1 (mm_def 1))) 6 (mI 9 (fun _ => 0))) 5 (mO 1 [.ref 6, .null, .null, .null, .null, .null, .int 0])) 7 (mI 9 (fun _ => 0))) 5 (mO 1 [.ref 6, .ref 7, .null, .null, .null, .null, .int 0])) 8 (mI 9 (fun _ => 0))) 5 (mO 1 [.ref 6, .ref 7, .ref 8, .null, .null, .null, .int 0])) : mm_H) K
  refine mm_run 3 ⟨by show 9 < 93; decide, by decide +kernel, by decide +kernel, by decide +kernel, ?_⟩
  show mm_Ex (d + 1) k_X1_init 18 (2, 18) [.ref 5] [] ((10, mU (mU (mU (mU (mU (mU (mU (mU (mU (f) 5 (mO 1 (mm_def 1))) 6 (mI 9 (fun _ => 0))) 5 (mO 1 [.ref 6, .null, .null, .null, .null, .null, .int 0])) 7 (mI 9 (fun _ => 0))) 5 (mO 1 [.ref 6, .ref 7, .null, .null, .null, .null, .int 0])) 8 (mI 9 (fun _ => 0))) 5 (mO 1 [.ref 6, .ref 7, .ref 8, .null, .null, .null, .int 0])) 9 (mI 9 (fun _ => 0))) 5 (mO 1 [.ref 6, .ref 7, .ref 8, .ref 9, .null, .null, .int 0])) : mm_H) K
  refine mm_run 3 ⟨by show 10 < 93; decide, by decide +kernel, by decide +kernel, by decide +kernel, ?_⟩
  show mm_Ex (d + 1) k_X1_init 22 (1, 9) [.ref 5] [] ((11, mU (mU (mU (mU (mU (mU (mU (mU (mU (mU (mU (f) 5 (mO 1 (mm_def 1))) 6 (mI 9 (fun _ => 0))) 5 (mO 1 [.ref 6, .null, .null, .null, .null, .null, .int 0])) 7 (mI 9 (fun _ => 0))) 5 (mO 1 [.ref 6, .ref 7, .null, .null, .null, .null, .int 0])) 8 (mI 9 (fun _ => 0))) 5 (mO 1 [.ref 6, .ref 7, .ref 8, .null, .null, .null, .int 0])) 9 (mI 9 (fun _ => 0))) 5 (mO 1 [.ref 6, .ref 7, .ref 8, .ref 9, .null, .null, .int 0])) 10 (mI 9 (fun _ => 0))) 5 (mO 1 [.ref 6, .ref 7, .ref 8, .ref 9, .ref 10, .null, .int 0])) : mm_H) K
  refine mm_run 3 ⟨by show 11 < 93; decide, by decide +kernel, by decide +kernel, by decide +kernel, ?_⟩
  show mm_Ex (d + 1) k_X1_init 26 (0, 0) [.ref 5] [] ((12, mU (mU (mU (mU (mU (mU (mU (mU (mU (mU (mU (mU (mU (f) 5 (mO 1 (mm_def 1))) 6 (mI 9 (fun _ => 0))) 5 (mO 1 [.ref 6, .null, .null, .null, .null, .null, .int 0])) 7 (mI 9 (fun _ => 0))) 5 (mO 1 [.ref 6, .ref 7, .null, .null, .null, .null, .int 0])) 8 (mI 9 (fun _ => 0))) 5 (mO 1 [.ref 6, .ref 7, .ref 8, .null, .null, .null, .int 0])) 9 (mI 9 (fun _ => 0))) 5 (mO 1 [.ref 6, .ref 7, .ref 8, .ref 9, .null, .null, .int 0])) 10 (mI 9 (fun _ => 0))) 5 (mO 1 [.ref 6, .ref 7, .ref 8, .ref 9, .ref 10, .null, .int 0])) 11 (mI 9 (fun _ => 0))) 5 (mO 1 [.ref 6, .ref 7, .ref 8, .ref 9, .ref 10, .ref 11, .int 0])) : mm_H) K
  refine mm_run 20 ?_
  show K none ((12, mU (mU (mU (mU (mU (mU (mU (mU (mU (mU (mU (mU (mU (mU (f) 5 (mO 1 (mm_def 1))) 6 (mI 9 (fun _ => 0))) 5 (mO 1 [.ref 6, .null, .null, .null, .null, .null, .int 0])) 7 (mI 9 (fun _ => 0))) 5 (mO 1 [.ref 6, .ref 7, .null, .null, .null, .null, .int 0])) 8 (mI 9 (fun _ => 0))) 5 (mO 1 [.ref 6, .ref 7, .ref 8, .null, .null, .null, .int 0])) 9 (mI 9 (fun _ => 0))) 5 (mO 1 [.ref 6, .ref 7, .ref 8, .ref 9, .null, .null, .int 0])) 10 (mI 9 (fun _ => 0))) 5 (mO 1 [.ref 6, .ref 7, .ref 8, .ref 9, .ref 10, .null, .int 0])) 11 (mI 9 (fun _ => 0))) 5 (mO 1 [.ref 6, .ref 7, .ref 8, .ref 9, .ref 10, .ref 11, .int 0])) 5 (mO 1 [.ref 6, .ref 7, .ref 8, .ref 9, .ref 10, .ref 11, .int 0])) : mm_H)
  have e : mU (mU (mU (mU (mU (mU (mU (mU (mU (mU (mU (mU (mU (mU (f) 5 (mO 1 (mm_def 1))) 6 (mI 9 (fun _ => 0))) 5 (mO 1 [.ref 6, .null, .null, .null, .null, .null, .int 0])) 7 (mI 9 (fun _ => 0))) 5 (mO 1 [.ref 6, .ref 7, .null, .null, .null, .null, .int 0])) 8 (mI 9 (fun _ => 0))) 5 (mO 1 [.ref 6, .ref 7, .ref 8, .null, .null, .null, .int 0])) 9 (mI 9 (fun _ => 0))) 5 (mO 1 [.ref 6, .ref 7, .ref 8, .ref 9, .null, .null, .int 0])) 10 (mI 9 (fun _ => 0))) 5 (mO 1 [.ref 6, .ref 7, .ref 8, .ref 9, .ref 10, .null, .int 0])) 11 (mI 9 (fun _ => 0))) 5 (mO 1 [.ref 6, .ref 7, .ref 8, .ref 9, .ref 10, .ref 11, .int 0])) 5 (mO 1 [.ref 6, .ref 7, .ref 8, .ref 9, .ref 10, .ref 11, .int 0]) = putC f 5 := by
    funext k
    by_cases h5 : k = 5
    · subst h5; rfl
    by_cases h6 : k = 6
    · subst h6; rfl
    by_cases h7 : k = 7
    · subst h7; rfl
    by_cases h8 : k = 8
    · subst h8; rfl
    by_cases h9 : k = 9
    · subst h9; rfl
    by_cases h10 : k = 10
    · subst h10; rfl
    by_cases h11 : k = 11
    · subst h11; rfl
    unfold putC
    rw [if_neg h5, if_neg (by omega)]
    simp only [mU, if_neg h5, if_neg h6, if_neg h7, if_neg h8, if_neg h9, if_neg h10, if_neg h11]
  rw [e]
  exact hk
theorem c_court_14 (hk : K none (21, putC f 14)) : mm_call mm_Ex (d + 1) k_X1_init [.ref 14] (15, mU f 14 (mO 1 (mm_def 1))) K := by
  refine mm_run 1 ?_
  show mm_Ex (d + 1) k_X1_init 2 (6, 54) [.ref 14] [] ((15, mU (f) 14 (mO 1 (mm_def 1))) : mm_H) K
  refine mm_run 3 ⟨by show 15 < 93; decide, by decide +kernel, by decide +kernel, by decide +kernel, ?_⟩
  show mm_Ex (d + 1) k_X1_init 6 (5, 45) [.ref 14] [] ((16, mU (mU (mU (f) 14 (mO 1 (mm_def 1))) 15 (mI 9 (fun _ => 0))) 14 (mO 1 [.ref 15, .null, .null, .null, .null, .null, .int 0])) : mm_H) K
  refine mm_run 3 ⟨by show 16 < 93; decide, by decide +kernel, by decide +kernel, by decide +kernel, ?_⟩
  show mm_Ex (d + 1) k_X1_init 10 (4, 36) [.ref 14] [] ((17, mU (mU (mU (mU (mU (f) 14 (mO 1 (mm_def 1))) 15 (mI 9 (fun _ => 0))) 14 (mO 1 [.ref 15, .null, .null, .null, .null, .null, .int 0])) 16 (mI 9 (fun _ => 0))) 14 (mO 1 [.ref 15, .ref 16, .null, .null, .null, .null, .int 0])) : mm_H) K
  refine mm_run 3 ⟨by show 17 < 93; decide, by decide +kernel, by decide +kernel, by decide +kernel, ?_⟩
  show mm_Ex (d + 1) k_X1_init 14 (3, 27) [.ref 14] [] ((18, mU (mU (mU (mU (mU (mU (mU (f) 14 (mO 1 (mm_def 1))) 15 (mI 9 (fun _ => 0))) 14 (mO 1 [.ref 15, .null, .null, .null, .null, .null, .int 0])) 16 (mI 9 (fun _ => 0))) 14 (mO 1 [.ref 15, .ref 16, .null, .null, .null, .null, .int 0])) 17 (mI 9 (fun _ => 0))) 14 (mO 1 [.ref 15, .ref 16, .ref 17, .null, .null, .null, .int 0])) : mm_H) K
  refine mm_run 3 ⟨by show 18 < 93; decide, by decide +kernel, by decide +kernel, by decide +kernel, ?_⟩
  show mm_Ex (d + 1) k_X1_init 18 (2, 18) [.ref 14] [] ((19, mU (mU (mU (mU (mU (mU (mU (mU (mU (f) 14 (mO 1 (mm_def 1))) 15 (mI 9 (fun _ => 0))) 14 (mO 1 [.ref 15, .null, .null, .null, .null, .null, .int 0])) 16 (mI 9 (fun _ => 0))) 14 (mO 1 [.ref 15, .ref 16, .null, .null, .null, .null, .int 0])) 17 (mI 9 (fun _ => 0))) 14 (mO 1 [.ref 15, .ref 16, .ref 17, .null, .null, .null, .int 0])) 18 (mI 9 (fun _ => 0))) 14 (mO 1 [.ref 15, .ref 16, .ref 17, .ref 18, .null, .null, .int 0])) : mm_H) K
  refine mm_run 3 ⟨by show 19 < 93; decide, by decide +kernel, by decide +kernel, by decide +kernel, ?_⟩
  show mm_Ex (d + 1) k_X1_init 22 (1, 9) [.ref 14] [] ((20, mU (mU (mU (mU (mU (mU (mU (mU (mU (mU (mU (f) 14 (mO 1 (mm_def 1))) 15 (mI 9 (fun _ => 0))) 14 (mO 1 [.ref 15, .null, .null, .null, .null, .null, .int 0])) 16 (mI 9 (fun _ => 0))) 14 (mO 1 [.ref 15, .ref 16, .null, .null, .null, .null, .int 0])) 17 (mI 9 (fun _ => 0))) 14 (mO 1 [.ref 15, .ref 16, .ref 17, .null, .null, .null, .int 0])) 18 (mI 9 (fun _ => 0))) 14 (mO 1 [.ref 15, .ref 16, .ref 17, .ref 18, .null, .null, .int 0])) 19 (mI 9 (fun _ => 0))) 14 (mO 1 [.ref 15, .ref 16, .ref 17, .ref 18, .ref 19, .null, .int 0])) : mm_H) K
  refine mm_run 3 ⟨by show 20 < 93; decide, by decide +kernel, by decide +kernel, by decide +kernel, ?_⟩
  show mm_Ex (d + 1) k_X1_init 26 (0, 0) [.ref 14] [] ((21, mU (mU (mU (mU (mU (mU (mU (mU (mU (mU (mU (mU (mU (f) 14 (mO 1 (mm_def 1))) 15 (mI 9 (fun _ => 0))) 14 (mO 1 [.ref 15, .null, .null, .null, .null, .null, .int 0])) 16 (mI 9 (fun _ => 0))) 14 (mO 1 [.ref 15, .ref 16, .null, .null, .null, .null, .int 0])) 17 (mI 9 (fun _ => 0))) 14 (mO 1 [.ref 15, .ref 16, .ref 17, .null, .null, .null, .int 0])) 18 (mI 9 (fun _ => 0))) 14 (mO 1 [.ref 15, .ref 16, .ref 17, .ref 18, .null, .null, .int 0])) 19 (mI 9 (fun _ => 0))) 14 (mO 1 [.ref 15, .ref 16, .ref 17, .ref 18, .ref 19, .null, .int 0])) 20 (mI 9 (fun _ => 0))) 14 (mO 1 [.ref 15, .ref 16, .ref 17, .ref 18, .ref 19, .ref 20, .int 0])) : mm_H) K
  refine mm_run 20 ?_
  show K none ((21, mU (mU (mU (mU (mU (mU (mU (mU (mU (mU (mU (mU (mU (mU (f) 14 (mO 1 (mm_def 1))) 15 (mI 9 (fun _ => 0))) 14 (mO 1 [.ref 15, .null, .null, .null, .null, .null, .int 0])) 16 (mI 9 (fun _ => 0))) 14 (mO 1 [.ref 15, .ref 16, .null, .null, .null, .null, .int 0])) 17 (mI 9 (fun _ => 0))) 14 (mO 1 [.ref 15, .ref 16, .ref 17, .null, .null, .null, .int 0])) 18 (mI 9 (fun _ => 0))) 14 (mO 1 [.ref 15, .ref 16, .ref 17, .ref 18, .null, .null, .int 0])) 19 (mI 9 (fun _ => 0))) 14 (mO 1 [.ref 15, .ref 16, .ref 17, .ref 18, .ref 19, .null, .int 0])) 20 (mI 9 (fun _ => 0))) 14 (mO 1 [.ref 15, .ref 16, .ref 17, .ref 18, .ref 19, .ref 20, .int 0])) 14 (mO 1 [.ref 15, .ref 16, .ref 17, .ref 18, .ref 19, .ref 20, .int 0])) : mm_H)
  have e : mU (mU (mU (mU (mU (mU (mU (mU (mU (mU (mU (mU (mU (mU (f) 14 (mO 1 (mm_def 1))) 15 (mI 9 (fun _ => 0))) 14 (mO 1 [.ref 15, .null, .null, .null, .null, .null, .int 0])) 16 (mI 9 (fun _ => 0))) 14 (mO 1 [.ref 15, .ref 16, .null, .null, .null, .null, .int 0])) 17 (mI 9 (fun _ => 0))) 14 (mO 1 [.ref 15, .ref 16, .ref 17, .null, .null, .null, .int 0])) 18 (mI 9 (fun _ => 0))) 14 (mO 1 [.ref 15, .ref 16, .ref 17, .ref 18, .null, .null, .int 0])) 19 (mI 9 (fun _ => 0))) 14 (mO 1 [.ref 15, .ref 16, .ref 17, .ref 18, .ref 19, .null, .int 0])) 20 (mI 9 (fun _ => 0))) 14 (mO 1 [.ref 15, .ref 16, .ref 17, .ref 18, .ref 19, .ref 20, .int 0])) 14 (mO 1 [.ref 15, .ref 16, .ref 17, .ref 18, .ref 19, .ref 20, .int 0]) = putC f 14 := by
    funext k
    by_cases h14 : k = 14
    · subst h14; rfl
    by_cases h15 : k = 15
    · subst h15; rfl
    by_cases h16 : k = 16
    · subst h16; rfl
    by_cases h17 : k = 17
    · subst h17; rfl
    by_cases h18 : k = 18
    · subst h18; rfl
    by_cases h19 : k = 19
    · subst h19; rfl
    by_cases h20 : k = 20
    · subst h20; rfl
    unfold putC
    rw [if_neg h14, if_neg (by omega)]
    simp only [mU, if_neg h14, if_neg h15, if_neg h16, if_neg h17, if_neg h18, if_neg h19, if_neg h20]
  rw [e]
  exact hk
theorem c_court_54 (hk : K none (61, putC f 54)) : mm_call mm_Ex (d + 1) k_X1_init [.ref 54] (55, mU f 54 (mO 1 (mm_def 1))) K := by
  refine mm_run 1 ?_
  show mm_Ex (d + 1) k_X1_init 2 (6, 54) [.ref 54] [] ((55, mU (f) 54 (mO 1 (mm_def 1))) : mm_H) K
  refine mm_run 3 ⟨by show 55 < 93; decide, by decide +kernel, by decide +kernel, by decide +kernel, ?_⟩
  show mm_Ex (d + 1) k_X1_init 6 (5, 45) [.ref 54] [] ((56, mU (mU (mU (f) 54 (mO 1 (mm_def 1))) 55 (mI 9 (fun _ => 0))) 54 (mO 1 [.ref 55, .null, .null, .null, .null, .null, .int 0])) : mm_H) K
  refine mm_run 3 ⟨by show 56 < 93; decide, by decide +kernel, by decide +kernel, by decide +kernel, ?_⟩
  show mm_Ex (d + 1) k_X1_init 10 (4, 36) [.ref 54] [] ((57, mU (mU (mU (mU (mU (f) 54 (mO 1 (mm_def 1))) 55 (mI 9 (fun _ => 0))) 54 (mO 1 [.ref 55, .null, .null, .null, .null, .null, .int 0])) 56 (mI 9 (fun _ => 0))) 54 (mO 1 [.ref 55, .ref 56, .null, .null, .null, .null, .int 0])) : mm_H) K
  refine mm_run 3 ⟨by show 57 < 93; decide, by decide +kernel, by decide +kernel, by decide +kernel, ?_⟩
  show mm_Ex (d + 1) k_X1_init 14 (3, 27) [.ref 54] [] ((58, mU (mU (mU (mU (mU (mU (mU (f) 54 (mO 1 (mm_def 1))) 55 (mI 9 (fun _ => 0))) 54 (mO 1 [.ref 55, .null, .null, .null, .null, .null, .int 0])) 56 (mI 9 (fun _ => 0))) 54 (mO 1 [.ref 55, .ref 56, .null, .null, .null, .null, .int 0])) 57 (mI 9 (fun _ => 0))) 54 (mO 1 [.ref 55, .ref 56, .ref 57, .null, .null, .null, .int 0])) : mm_H) K
  refine mm_run 3 ⟨by show 58 < 93; decide, by decide +kernel, by decide +kernel, by decide +kernel, ?_⟩
  show mm_Ex (d + 1) k_X1_init 18 (2, 18) [.ref 54] [] ((59, mU (mU (mU (mU (mU (mU (mU (mU (mU (f) 54 (mO 1 (mm_def 1))) 55 (mI 9 (fun _ => 0))) 54 (mO 1 [.ref 55, .null, .null, .null, .null, .null, .int 0])) 56 (mI 9 (fun _ => 0))) 54 (mO 1 [.ref 55, .ref 56, .null, .null, .null, .null, .int 0])) 57 (mI 9 (fun _ => 0))) 54 (mO 1 [.ref 55, .ref 56, .ref 57, .null, .null, .null, .int 0])) 58 (mI 9 (fun _ => 0))) 54 (mO 1 [.ref 55, .ref 56, .ref 57, .ref 58, .null, .null, .int 0])) : mm_H) K
  refine mm_run 3 ⟨by show 59 < 93; decide, by decide +kernel, by decide +kernel, by decide +kernel, ?_⟩
  show mm_Ex (d + 1) k_X1_init 22 (1, 9) [.ref 54] [] ((60, mU (mU (mU (mU (mU (mU (mU (mU (mU (mU (mU (f) 54 (mO 1 (mm_def 1))) 55 (mI 9 (fun _ => 0))) 54 (mO 1 [.ref 55, .null, .null, .null, .null, .null, .int 0])) 56 (mI 9 (fun _ => 0))) 54 (mO 1 [.ref 55, .ref 56, .null, .null, .null, .null, .int 0])) 57 (mI 9 (fun _ => 0))) 54 (mO 1 [.ref 55, .ref 56, .ref 57, .null, .null, .null, .int 0])) 58 (mI 9 (fun _ => 0))) 54 (mO 1 [.ref 55, .ref 56, .ref 57, .ref 58, .null, .null, .int 0])) 59 (mI 9 (fun _ => 0))) 54 (mO 1 [.ref 55, .ref 56, .ref 57, .ref 58, .ref 59, .null, .int 0])) : mm_H) K
  refine mm_run 3 ⟨by show 60 < 93; decide, by decide +kernel, by decide +kernel, by decide +kernel, ?_⟩
  show mm_Ex (d + 1) k_X1_init 26 (0, 0) [.ref 54] [] ((61, mU (mU (mU (mU (mU (mU (mU (mU (mU (mU (mU (mU (mU (f) 54 (mO 1 (mm_def 1))) 55 (mI 9 (fun _ => 0))) 54 (mO 1 [.ref 55, .null, .null, .null, .null, .null, .int 0])) 56 (mI 9 (fun _ => 0))) 54 (mO 1 [.ref 55, .ref 56, .null, .null, .null, .null, .int 0])) 57 (mI 9 (fun _ => 0))) 54 (mO 1 [.ref 55, .ref 56, .ref 57, .null, .null, .null, .int 0])) 58 (mI 9 (fun _ => 0))) 54 (mO 1 [.ref 55, .ref 56, .ref 57, .ref 58, .null, .null, .int 0])) 59 (mI 9 (fun _ => 0))) 54 (mO 1 [.ref 55, .ref 56, .ref 57, .ref 58, .ref 59, .null, .int 0])) 60 (mI 9 (fun _ => 0))) 54 (mO 1 [.ref 55, .ref 56, .ref 57, .ref 58, .ref 59, .ref 60, .int 0])) : mm_H) K
  refine mm_run 20 ?_
  show K none ((61, mU (mU (mU (mU (mU (mU (mU (mU (mU (mU (mU (mU (mU (mU (f) 54 (mO 1 (mm_def 1))) 55 (mI 9 (fun _ => 0))) 54 (mO 1 [.ref 55, .null, .null, .null, .null, .null, .int 0])) 56 (mI 9 (fun _ => 0))) 54 (mO 1 [.ref 55, .ref 56, .null, .null, .null, .null, .int 0])) 57 (mI 9 (fun _ => 0))) 54 (mO 1 [.ref 55, .ref 56, .ref 57, .null, .null, .null, .int 0])) 58 (mI 9 (fun _ => 0))) 54 (mO 1 [.ref 55, .ref 56, .ref 57, .ref 58, .null, .null, .int 0])) 59 (mI 9 (fun _ => 0))) 54 (mO 1 [.ref 55, .ref 56, .ref 57, .ref 58, .ref 59, .null, .int 0])) 60 (mI 9 (fun _ => 0))) 54 (mO 1 [.ref 55, .ref 56, .ref 57, .ref 58, .ref 59, .ref 60, .int 0])) 54 (mO 1 [.ref 55, .ref 56, .ref 57, .ref 58, .ref 59, .ref 60, .int 0])) : mm_H)
  have e : mU (mU (mU (mU (mU (mU (mU (mU (mU (mU (mU (mU (mU (mU (f) 54 (mO 1 (mm_def 1))) 55 (mI 9 (fun _ => 0))) 54 (mO 1 [.ref 55, .null, .null, .null, .null, .null, .int 0])) 56 (mI 9 (fun _ => 0))) 54 (mO 1 [.ref 55, .ref 56, .null, .null, .null, .null, .int 0])) 57 (mI 9 (fun _ => 0))) 54 (mO 1 [.ref 55, .ref 56, .ref 57, .null, .null, .null, .int 0])) 58 (mI 9 (fun _ => 0))) 54 (mO 1 [.ref 55, .ref 56, .ref 57, .ref 58, .null, .null, .int 0])) 59 (mI 9 (fun _ => 0))) 54 (mO 1 [.ref 55, .ref 56, .ref 57, .ref 58, .ref 59, .null, .int 0])) 60 (mI 9 (fun _ => 0))) 54 (mO 1 [.ref 55, .ref 56, .ref 57, .ref 58, .ref 59, .ref 60, .int 0])) 54 (mO 1 [.ref 55, .ref 56, .ref 57, .ref 58, .ref 59, .ref 60, .int 0]) = putC f 54 := by
    funext k
    by_cases h54 : k = 54
    · subst h54; rfl
    by_cases h55 : k = 55
    · subst h55; rfl
    by_cases h56 : k = 56
    · subst h56; rfl
    by_cases h57 : k = 57
    · subst h57; rfl
    by_cases h58 : k = 58
    · subst h58; rfl
    by_cases h59 : k = 59
    · subst h59; rfl
    by_cases h60 : k = 60
    · subst h60; rfl
    unfold putC
    rw [if_neg h54, if_neg (by omega)]
    simp only [mU, if_neg h54, if_neg h55, if_neg h56, if_neg h57, if_neg h58, if_neg h59, if_neg h60]
  rw [e]
  exact hk
theorem c_court_61 (hk : K none (68, putC f 61)) : mm_call mm_Ex (d + 1) k_X1_init [.ref 61] (62, mU f 61 (mO 1 (mm_def 1))) K := by
  refine mm_run 1 ?_
  show mm_Ex (d + 1) k_X1_init 2 (6, 54) [.ref 61] [] ((62, mU (f) 61 (mO 1 (mm_def 1))) : mm_H) K
  refine mm_run 3 ⟨by show 62 < 93; decide, by decide +kernel, by decide +kernel, by decide +kernel, ?_⟩
  show mm_Ex (d + 1) k_X1_init 6 (5, 45) [.ref 61] [] ((63, mU (mU (mU (f) 61 (mO 1 (mm_def 1))) 62 (mI 9 (fun _ => 0))) 61 (mO 1 [.ref 62, .null, .null, .null, .null, .null, .int 0])) : mm_H) K
  refine mm_run 3 ⟨by show 63 < 93; decide, by decide +kernel, by decide +kernel, by decide +kernel, ?_⟩
  show mm_Ex (d + 1) k_X1_init 10 (4, 36) [.ref 61] [] ((64, mU (mU (mU (mU (mU (f) 61 (mO 1 (mm_def 1))) 62 (mI 9 (fun _ => 0))) 61 (mO 1 [.ref 62, .null, .null, .null, .null, .null, .int 0])) 63 (mI 9 (fun _ => 0))) 61 (mO 1 [.ref 62, .ref 63, .null, .null, .null, .null, .int 0])) : mm_H) K
  refine mm_run 3 ⟨by show 64 < 93; decide, by decide +kernel, by decide +kernel, by decide +kernel, ?_⟩
  show mm_Ex (d + 1) k_X1_init 14 (3, 27) [.ref 61] [] ((65, mU (mU (mU (mU (mU (mU (mU (f) 61 (mO 1 (mm_def 1))) 62 (mI 9 (fun _ => 0))) 61 (mO 1 [.ref 62, .null, .null, .null, .null, .null, .int 0])) 63 (mI 9 (fun _ => 0))) 61 (mO 1 [.ref 62, .ref 63, .null, .null, .null, .null, .int 0])) 64 (mI 9 (fun _ => 0))) 61 (mO 1 [.ref 62, .ref 63, .ref 64, .null, .null, .null, .int 0])) : mm_H) K
  refine mm_run 3 ⟨by show 65 < 93; decide, by decide +kernel, by decide +kernel, by decide +kernel, ?_⟩
  show mm_Ex (d + 1) k_X1_init 18 (2, 18) [.ref 61] [] ((66, mU (mU (mU (mU (mU (mU (mU (mU (mU (f) 61 (mO 1 (mm_def 1))) 62 (mI 9 (fun _ => 0))) 61 (mO 1 [.ref 62, .null, .null, .null, .null, .null, .int 0])) 63 (mI 9 (fun _ => 0))) 61 (mO 1 [.ref 62, .ref 63, .null, .null, .null, .null, .int 0])) 64 (mI 9 (fun _ => 0))) 61 (mO 1 [.ref 62, .ref 63, .ref 64, .null, .null, .null, .int 0])) 65 (mI 9 (fun _ => 0))) 61 (mO 1 [.ref 62, .ref 63, .ref 64, .ref 65, .null, .null, .int 0])) : mm_H) K
  refine mm_run 3 ⟨by show 66 < 93; decide, by decide +kernel, by decide +kernel, by decide +kernel, ?_⟩
  show mm_Ex (d + 1) k_X1_init 22 (1, 9) [.ref 61] [] ((67, mU (mU (mU (mU (mU (mU (mU (mU (mU (mU (mU (f) 61 (mO 1 (mm_def 1))) 62 (mI 9 (fun _ => 0))) 61 (mO 1 [.ref 62, .null, .null, .null, .null, .null, .int 0])) 63 (mI 9 (fun _ => 0))) 61 (mO 1 [.ref 62, .ref 63, .null, .null, .null, .null, .int 0])) 64 (mI 9 (fun _ => 0))) 61 (mO 1 [.ref 62, .ref 63, .ref 64, .null, .null, .null, .int 0])) 65 (mI 9 (fun _ => 0))) 61 (mO 1 [.ref 62, .ref 63, .ref 64, .ref 65, .null, .null, .int 0])) 66 (mI 9 (fun _ => 0))) 61 (mO 1 [.ref 62, .ref 63, .ref 64, .ref 65, .ref 66, .null, .int 0])) : mm_H) K
  refine mm_run 3 ⟨by show 67 < 93; decide, by decide +kernel, by decide +kernel, by decide +kernel, ?_⟩
  show mm_Ex (d + 1) k_X1_init 26 (0, 0) [.ref 61] [] ((68, mU (mU (mU (mU (mU (mU (mU (mU (mU (mU (mU (mU (mU (f) 61 (mO 1 (mm_def 1))) 62 (mI 9 (fun _ => 0))) 61 (mO 1 [.ref 62, .null, .null, .null, .null, .null, .int 0])) 63 (mI 9 (fun _ => 0))) 61 (mO 1 [.ref 62, .ref 63, .null, .null, .null, .null, .int 0])) 64 (mI 9 (fun _ => 0))) 61 (mO 1 [.ref 62, .ref 63, .ref 64, .null, .null, .null, .int 0])) 65 (mI 9 (fun _ => 0))) 61 (mO 1 [.ref 62, .ref 63, .ref 64, .ref 65, .null, .null, .int 0])) 66 (mI 9 (fun _ => 0))) 61 (mO 1 [.ref 62, .ref 63, .ref 64, .ref 65, .ref 66, .null, .int 0])) 67 (mI 9 (fun _ => 0))) 61 (mO 1 [.ref 62, .ref 63, .ref 64, .ref 65, .ref 66, .ref 67, .int 0])) : mm_H) K
  refine mm_run 20 ?_
  show K none ((68, mU (mU (mU (mU (mU (mU (mU (mU (mU (mU (mU (mU (mU (mU (f) 61 (mO 1 (mm_def 1))) 62 (mI 9 (fun _ => 0))) 61 (mO 1 [.ref 62, .null, .null, .null, .null, .null, .int 0])) 63 (mI 9 (fun _ => 0))) 61 (mO 1 [.ref 62, .ref 63, .null, .null, .null, .null, .int 0])) 64 (mI 9 (fun _ => 0))) 61 (mO 1 [.ref 62, .ref 63, .ref 64, .null, .null, .null, .int 0])) 65 (mI 9 (fun _ => 0))) 61 (mO 1 [.ref 62, .ref 63, .ref 64, .ref 65, .null, .null, .int 0])) 66 (mI 9 (fun _ => 0))) 61 (mO 1 [.ref 62, .ref 63, .ref 64, .ref 65, .ref 66, .null, .int 0])) 67 (mI 9 (fun _ => 0))) 61 (mO 1 [.ref 62, .ref 63, .ref 64, .ref 65, .ref 66, .ref 67, .int 0])) 61 (mO 1 [.ref 62, .ref 63, .ref 64, .ref 65, .ref 66, .ref 67, .int 0])) : mm_H)
  have e : mU (mU (mU (mU (mU (mU (mU (mU (mU (mU (mU (mU (mU (mU (f) 61 (mO 1 (mm_def 1))) 62 (mI 9 (fun _ => 0))) 61 (mO 1 [.ref 62, .null, .null, .null, .null, .null, .int 0])) 63 (mI 9 (fun _ => 0))) 61 (mO 1 [.ref 62, .ref 63, .null, .null, .null, .null, .int 0])) 64 (mI 9 (fun _ => 0))) 61 (mO 1 [.ref 62, .ref 63, .ref 64, .null, .null, .null, .int 0])) 65 (mI 9 (fun _ => 0))) 61 (mO 1 [.ref 62, .ref 63, .ref 64, .ref 65, .null, .null, .int 0])) 66 (mI 9 (fun _ => 0))) 61 (mO 1 [.ref 62, .ref 63, .ref 64, .ref 65, .ref 66, .null, .int 0])) 67 (mI 9 (fun _ => 0))) 61 (mO 1 [.ref 62, .ref 63, .ref 64, .ref 65, .ref 66, .ref 67, .int 0])) 61 (mO 1 [.ref 62, .ref 63, .ref 64, .ref 65, .ref 66, .ref 67, .int 0]) = putC f 61 := by
    funext k
    by_cases h61 : k = 61
    · subst h61; rfl
    by_cases h62 : k = 62
    · subst h62; rfl
    by_cases h63 : k = 63
    · subst h63; rfl
    by_cases h64 : k = 64
    · subst h64; rfl
    by_cases h65 : k = 65
    · subst h65; rfl
    by_cases h66 : k = 66
    · subst h66; rfl
    by_cases h67 : k = 67
    · subst h67; rfl
    unfold putC
    rw [if_neg h61, if_neg (by omega)]
    simp only [mU, if_neg h61, if_neg h62, if_neg h63, if_neg h64, if_neg h65, if_neg h66, if_neg h67]
  rw [e]
  exact hk
theorem c_court_68 (hk : K none (75, putC f 68)) : mm_call mm_Ex (d + 1) k_X1_init [.ref 68] (69, mU f 68 (mO 1 (mm_def 1))) K := by
  refine mm_run 1 ?_
  show mm_Ex (d + 1) k_X1_init 2 (6, 54) [.ref 68] [] ((69, mU (f) 68 (mO 1 (mm_def 1))) : mm_H) K
  refine mm_run 3 ⟨by show 69 < 93; decide, by decide +kernel, by decide +kernel, by decide +kernel, ?_⟩
  show mm_Ex (d + 1) k_X1_init 6 (5, 45) [.ref 68] [] ((70, mU (mU (mU (f) 68 (mO 1 (mm_def 1))) 69 (mI 9 (fun _ => 0))) 68 (mO 1 [.ref 69, .null, .null, .null, .null, .null, .int 0])) : mm_H) K
  refine mm_run 3 ⟨by show 70 < 93; decide, by decide +kernel, by decide +kernel, by decide +kernel, ?_⟩
  show mm_Ex (d + 1) k_X1_init 10 (4, 36) [.ref 68] [] ((71, mU (mU (mU (mU (mU (f) 68 (mO 1 (mm_def 1))) 69 (mI 9 (fun _ => 0))) 68 (mO 1 [.ref 69, .null, .null, .null, .null, .null, .int 0])) 70 (mI 9 (fun _ => 0))) 68 (mO 1 [.ref 69, .ref 70, .null, .null, .null, .null, .int 0])) : mm_H) K
  refine mm_run 3 ⟨by show 71 < 93; decide, by decide +kernel, by decide +kernel, by decide +kernel, ?_⟩
  show mm_Ex (d + 1) k_X1_init 14 (3, 27) [.ref 68] [] ((72, mU (mU (mU (mU (mU (mU (mU (f) 68 (mO 1 (mm_def 1))) 69 (mI 9 (fun _ => 0))) 68 (mO 1 [.ref 69, .null, .null, .null, .null, .null, .int 0])) 70 (mI 9 (fun _ => 0))) 68 (mO 1 [.ref 69, .ref 70, .null, .null, .null, .null, .int 0])) 71 (mI 9 (fun _ => 0))) 68 (mO 1 [.ref 69, .ref 70, .ref 71, .null, .null, .null, .int 0])) : mm_H) K
  refine mm_run 3 ⟨by show 72 < 93; decide, by decide +kernel, by decide +kernel, by decide +kernel, ?_⟩
  show mm_Ex (d + 1) k_X1_init 18 (2, 18) [.ref 68] [] ((73, mU (mU (mU (mU (mU (mU (mU (mU (mU (f) 68 (mO 1 (mm_def 1))) 69 (mI 9 (fun _ => 0))) 68 (mO 1 [.ref 69, .null, .null, .null, .null, .null, .int 0])) 70 (mI 9 (fun _ => 0))) 68 (mO 1 [.ref 69, .ref 70, .null, .null, .null, .null, .int 0])) 71 (mI 9 (fun _ => 0))) 68 (mO 1 [.ref 69, .ref 70, .ref 71, .null, .null, .null, .int 0])) 72 (mI 9 (fun _ => 0))) 68 (mO 1 [.ref 69, .ref 70, .ref 71, .ref 72, .null, .null, .int 0])) : mm_H) K
  refine mm_run 3 ⟨by show 73 < 93; decide, by decide +kernel, by decide +kernel, by decide +kernel, ?_⟩
  show mm_Ex (d + 1) k_X1_init 22 (1, 9) [.ref 68] [] ((74, mU (mU (mU (mU (mU (mU (mU (mU (mU (mU (mU (f) 68 (mO 1 (mm_def 1))) 69 (mI 9 (fun _ => 0))) 68 (mO 1 [.ref 69, .null, .null, .null, .null, .null, .int 0])) 70 (mI 9 (fun _ => 0))) 68 (mO 1 [.ref 69, .ref 70, .null, .null, .null, .null, .int 0])) 71 (mI 9 (fun _ => 0))) 68 (mO 1 [.ref 69, .ref 70, .ref 71, .null, .null, .null, .int 0])) 72 (mI 9 (fun _ => 0))) 68 (mO 1 [.ref 69, .ref 70, .ref 71, .ref 72, .null, .null, .int 0])) 73 (mI 9 (fun _ => 0))) 68 (mO 1 [.ref 69, .ref 70, .ref 71, .ref 72, .ref 73, .null, .int 0])) : mm_H) K
  refine mm_run 3 ⟨by show 74 < 93; decide, by decide +kernel, by decide +kernel, by decide +kernel, ?_⟩
  show mm_Ex (d + 1) k_X1_init 26 (0, 0) [.ref 68] [] ((75, mU (mU (mU (mU (mU (mU (mU (mU (mU (mU (mU (mU (mU (f) 68 (mO 1 (mm_def 1))) 69 (mI 9 (fun _ => 0))) 68 (mO 1 [.ref 69, .null, .null, .null, .null, .null, .int 0])) 70 (mI 9 (fun _ => 0))) 68 (mO 1 [.ref 69, .ref 70, .null, .null, .null, .null, .int 0])) 71 (mI 9 (fun _ => 0))) 68 (mO 1 [.ref 69, .ref 70, .ref 71, .null, .null, .null, .int 0])) 72 (mI 9 (fun _ => 0))) 68 (mO 1 [.ref 69, .ref 70, .ref 71, .ref 72, .null, .null, .int 0])) 73 (mI 9 (fun _ => 0))) 68 (mO 1 [.ref 69, .ref 70, .ref 71, .ref 72, .ref 73, .null, .int 0])) 74 (mI 9 (fun _ => 0))) 68 (mO 1 [.ref 69, .ref 70, .ref 71, .ref 72, .ref 73, .ref 74, .int 0])) : mm_H) K
  refine mm_run 20 ?_
  show K none ((75, mU (mU (mU (mU (mU (mU (mU (mU (mU (mU (mU (mU (mU (mU (f) 68 (mO 1 (mm_def 1))) 69 (mI 9 (fun _ => 0))) 68 (mO 1 [.ref 69, .null, .null, .null, .null, .null, .int 0])) 70 (mI 9 (fun _ => 0))) 68 (mO 1 [.ref 69, .ref 70, .null, .null, .null, .null, .int 0])) 71 (mI 9 (fun _ => 0))) 68 (mO 1 [.ref 69, .ref 70, .ref 71, .null, .null, .null, .int 0])) 72 (mI 9 (fun _ => 0))) 68 (mO 1 [.ref 69, .ref 70, .ref 71, .ref 72, .null, .null, .int 0])) 73 (mI 9 (fun _ => 0))) 68 (mO 1 [.ref 69, .ref 70, .ref 71, .ref 72, .ref 73, .null, .int 0])) 74 (mI 9 (fun _ => 0))) 68 (mO 1 [.ref 69, .ref 70, .ref 71, .ref 72, .ref 73, .ref 74, .int 0])) 68 (mO 1 [.ref 69, .ref 70, .ref 71, .ref 72, .ref 73, .ref 74, .int 0])) : mm_H)
  have e : mU (mU (mU (mU (mU (mU (mU (mU (mU (mU (mU (mU (mU (mU (f) 68 (mO 1 (mm_def 1))) 69 (mI 9 (fun _ => 0))) 68 (mO 1 [.ref 69, .null, .null, .null, .null, .null, .int 0])) 70 (mI 9 (fun _ => 0))) 68 (mO 1 [.ref 69, .ref 70, .null, .null, .null, .null, .int 0])) 71 (mI 9 (fun _ => 0))) 68 (mO 1 [.ref 69, .ref 70, .ref 71, .null, .null, .null, .int 0])) 72 (mI 9 (fun _ => 0))) 68 (mO 1 [.ref 69, .ref 70, .ref 71, .ref 72, .null, .null, .int 0])) 73 (mI 9 (fun _ => 0))) 68 (mO 1 [.ref 69, .ref 70, .ref 71, .ref 72, .ref 73, .null, .int 0])) 74 (mI 9 (fun _ => 0))) 68 (mO 1 [.ref 69, .ref 70, .ref 71, .ref 72, .ref 73, .ref 74, .int 0])) 68 (mO 1 [.ref 69, .ref 70, .ref 71, .ref 72, .ref 73, .ref 74, .int 0]) = putC f 68 := by
    funext k
    by_cases h68 : k = 68
    · subst h68; rfl
    by_cases h69 : k = 69
    · subst h69; rfl
    by_cases h70 : k = 70
    · subst h70; rfl
    by_cases h71 : k = 71
    · subst h71; rfl
    by_cases h72 : k = 72
    · subst h72; rfl
    by_cases h73 : k = 73
    · subst h73; rfl
    by_cases h74 : k = 74
    · subst h74; rfl
    unfold putC
    rw [if_neg h68, if_neg (by omega)]
    simp only [mU, if_neg h68, if_neg h69, if_neg h70, if_neg h71, if_neg h72, if_neg h73, if_neg h74]
  rw [e]
  exact hk
theorem c_bench (hk : K none (30, putB f)) : mm_call mm_Ex (d + 1) k_X0_init [.ref 23] (24, mU f 23 (mO 0 (mm_def 0))) K := by
  refine mm_run 1 ?_
  show mm_Ex (d + 1) k_X0_init 2 (6, 54) [.ref 23] [] ((24, mU (f) 23 (mO 0 (mm_def 0))) : mm_H) K
  refine mm_run 3 ⟨by show 24 < 93; decide, by decide +kernel, by decide +kernel, by decide +kernel, ?_⟩
  show mm_Ex (d + 1) k_X0_init 6 (5, 45) [.ref 23] [] ((25, mU (mU (mU (f) 23 (mO 0 (mm_def 0))) 24 (mI 9 (fun _ => 0))) 23 (mO 0 [.ref 24, .null, .null, .null, .null, .null, .int 0, .int 0])) : mm_H) K
  refine mm_run 3 ⟨by show 25 < 93; decide, by decide +kernel, by decide +kernel, by decide +kernel, ?_⟩
  show mm_Ex (d + 1) k_X0_init 10 (4, 36) [.ref 23] [] ((26, mU (mU (mU (mU (mU (f) 23 (mO 0 (mm_def 0))) 24 (mI 9 (fun _ => 0))) 23 (mO 0 [.ref 24, .null, .null, .null, .null, .null, .int 0, .int 0])) 25 (mI 9 (fun _ => 0))) 23 (mO 0 [.ref 24, .ref 25, .null, .null, .null, .null, .int 0, .int 0])) : mm_H) K
  refine mm_run 3 ⟨by show 26 < 93; decide, by decide +kernel, by decide +kernel, by decide +kernel, ?_⟩
  show mm_Ex (d + 1) k_X0_init 14 (3, 27) [.ref 23] [] ((27, mU (mU (mU (mU (mU (mU (mU (f) 23 (mO 0 (mm_def 0))) 24 (mI 9 (fun _ => 0))) 23 (mO 0 [.ref 24, .null, .null, .null, .null, .null, .int 0, .int 0])) 25 (mI 9 (fun _ => 0))) 23 (mO 0 [.ref 24, .ref 25, .null, .null, .null, .null, .int 0, .int 0])) 26 (mI 9 (fun _ => 0))) 23 (mO 0 [.ref 24, .ref 25, .ref 26, .null, .null, .null, .int 0, .int 0])) : mm_H) K
  refine mm_run 3 ⟨by show 27 < 93; decide, by decide +kernel, by decide +kernel, by decide +kernel, ?_⟩
  show mm_Ex (d + 1) k_X0_init 18 (2, 18) [.ref 23] [] ((28, mU (mU (mU (mU (mU (mU (mU (mU (mU (f) 23 (mO 0 (mm_def 0))) 24 (mI 9 (fun _ => 0))) 23 (mO 0 [.ref 24, .null, .null, .null, .null, .null, .int 0, .int 0])) 25 (mI 9 (fun _ => 0))) 23 (mO 0 [.ref 24, .ref 25, .null, .null, .null, .null, .int 0, .int 0])) 26 (mI 9 (fun _ => 0))) 23 (mO 0 [.ref 24, .ref 25, .ref 26, .null, .null, .null, .int 0, .int 0])) 27 (mI 9 (fun _ => 0))) 23 (mO 0 [.ref 24, .ref 25, .ref 26, .ref 27, .null, .null, .int 0, .int 0])) : mm_H) K
  refine mm_run 3 ⟨by show 28 < 93; decide, by decide +kernel, by decide +kernel, by decide +kernel, ?_⟩
  show mm_Ex (d + 1) k_X0_init 22 (1, 9) [.ref 23] [] ((29, mU (mU (mU (mU (mU (mU (mU (mU (mU (mU (mU (f) 23 (mO 0 (mm_def 0))) 24 (mI 9 (fun _ => 0))) 23 (mO 0 [.ref 24, .null, .null, .null, .null, .null, .int 0, .int 0])) 25 (mI 9 (fun _ => 0))) 23 (mO 0 [.ref 24, .ref 25, .null, .null, .null, .null, .int 0, .int 0])) 26 (mI 9 (fun _ => 0))) 23 (mO 0 [.ref 24, .ref 25, .ref 26, .null, .null, .null, .int 0, .int 0])) 27 (mI 9 (fun _ => 0))) 23 (mO 0 [.ref 24, .ref 25, .ref 26, .ref 27, .null, .null, .int 0, .int 0])) 28 (mI 9 (fun _ => 0))) 23 (mO 0 [.ref 24, .ref 25, .ref 26, .ref 27, .ref 28, .null, .int 0, .int 0])) : mm_H) K
  refine mm_run 3 ⟨by show 29 < 93; decide, by decide +kernel, by decide +kernel, by decide +kernel, ?_⟩
  show mm_Ex (d + 1) k_X0_init 26 (0, 0) [.ref 23] [] ((30, mU (mU (mU (mU (mU (mU (mU (mU (mU (mU (mU (mU (mU (f) 23 (mO 0 (mm_def 0))) 24 (mI 9 (fun _ => 0))) 23 (mO 0 [.ref 24, .null, .null, .null, .null, .null, .int 0, .int 0])) 25 (mI 9 (fun _ => 0))) 23 (mO 0 [.ref 24, .ref 25, .null, .null, .null, .null, .int 0, .int 0])) 26 (mI 9 (fun _ => 0))) 23 (mO 0 [.ref 24, .ref 25, .ref 26, .null, .null, .null, .int 0, .int 0])) 27 (mI 9 (fun _ => 0))) 23 (mO 0 [.ref 24, .ref 25, .ref 26, .ref 27, .null, .null, .int 0, .int 0])) 28 (mI 9 (fun _ => 0))) 23 (mO 0 [.ref 24, .ref 25, .ref 26, .ref 27, .ref 28, .null, .int 0, .int 0])) 29 (mI 9 (fun _ => 0))) 23 (mO 0 [.ref 24, .ref 25, .ref 26, .ref 27, .ref 28, .ref 29, .int 0, .int 0])) : mm_H) K
  refine mm_run 20 ?_
  show K none ((30, mU (mU (mU (mU (mU (mU (mU (mU (mU (mU (mU (mU (mU (mU (mU (f) 23 (mO 0 (mm_def 0))) 24 (mI 9 (fun _ => 0))) 23 (mO 0 [.ref 24, .null, .null, .null, .null, .null, .int 0, .int 0])) 25 (mI 9 (fun _ => 0))) 23 (mO 0 [.ref 24, .ref 25, .null, .null, .null, .null, .int 0, .int 0])) 26 (mI 9 (fun _ => 0))) 23 (mO 0 [.ref 24, .ref 25, .ref 26, .null, .null, .null, .int 0, .int 0])) 27 (mI 9 (fun _ => 0))) 23 (mO 0 [.ref 24, .ref 25, .ref 26, .ref 27, .null, .null, .int 0, .int 0])) 28 (mI 9 (fun _ => 0))) 23 (mO 0 [.ref 24, .ref 25, .ref 26, .ref 27, .ref 28, .null, .int 0, .int 0])) 29 (mI 9 (fun _ => 0))) 23 (mO 0 [.ref 24, .ref 25, .ref 26, .ref 27, .ref 28, .ref 29, .int 0, .int 0])) 23 (mO 0 [.ref 24, .ref 25, .ref 26, .ref 27, .ref 28, .ref 29, .int 0, .int 0])) 23 (mO 0 [.ref 24, .ref 25, .ref 26, .ref 27, .ref 28, .ref 29, .int 0, .int 0])) : mm_H)
  have e : mU (mU (mU (mU (mU (mU (mU (mU (mU (mU (mU (mU (mU (mU (mU (f) 23 (mO 0 (mm_def 0))) 24 (mI 9 (fun _ => 0))) 23 (mO 0 [.ref 24, .null, .null, .null, .null, .null, .int 0, .int 0])) 25 (mI 9 (fun _ => 0))) 23 (mO 0 [.ref 24, .ref 25, .null, .null, .null, .null, .int 0, .int 0])) 26 (mI 9 (fun _ => 0))) 23 (mO 0 [.ref 24, .ref 25, .ref 26, .null, .null, .null, .int 0, .int 0])) 27 (mI 9 (fun _ => 0))) 23 (mO 0 [.ref 24, .ref 25, .ref 26, .ref 27, .null, .null, .int 0, .int 0])) 28 (mI 9 (fun _ => 0))) 23 (mO 0 [.ref 24, .ref 25, .ref 26, .ref 27, .ref 28, .null, .int 0, .int 0])) 29 (mI 9 (fun _ => 0))) 23 (mO 0 [.ref 24, .ref 25, .ref 26, .ref 27, .ref 28, .ref 29, .int 0, .int 0])) 23 (mO 0 [.ref 24, .ref 25, .ref 26, .ref 27, .ref 28, .ref 29, .int 0, .int 0])) 23 (mO 0 [.ref 24, .ref 25, .ref 26, .ref 27, .ref 28, .ref 29, .int 0, .int 0]) = putB f := by
    funext k
    by_cases h23 : k = 23
    · subst h23; rfl
    by_cases h24 : k = 24
    · subst h24; rfl
    by_cases h25 : k = 25
    · subst h25; rfl
    by_cases h26 : k = 26
    · subst h26; rfl
    by_cases h27 : k = 27
    · subst h27; rfl
    by_cases h28 : k = 28
    · subst h28; rfl
    by_cases h29 : k = 29
    · subst h29; rfl
    unfold putB
    rw [if_neg h23, if_neg (by omega)]
    simp only [mU, if_neg h23, if_neg h24, if_neg h25, if_neg h26, if_neg h27, if_neg h28, if_neg h29]
  rw [e]
  exact hk
theorem c_row_21 (hk : K none (23, putR f 21 0)) : mm_call mm_Ex (d + 1) k_X3_init [.ref 21, .int 0] (22, mU f 21 (mO 3 (mm_def 3))) K := by
  refine mm_run 60 ⟨by show 22 < 93; decide, by decide +kernel, by decide +kernel, by decide +kernel, ?_⟩
  show K none ((23, mU (mU (mU (mU (f) 21 (mO 3 (mm_def 3))) 21 (mO 3 [.null, .int (-1)])) 22 (mI 0 (fun _ => 0))) 21 (mO 3 [.ref 22, .int (-1)])) : mm_H)
  have e : mU (mU (mU (mU (f) 21 (mO 3 (mm_def 3))) 21 (mO 3 [.null, .int (-1)])) 22 (mI 0 (fun _ => 0))) 21 (mO 3 [.ref 22, .int (-1)]) = putR f 21 0 := by
    funext k
    by_cases h21 : k = 21
    · subst h21; rfl
    by_cases h22 : k = 22
    · subst h22; rfl
    unfold putR
    rw [if_neg h21, if_neg h22]
    simp only [mU, if_neg h21, if_neg h22]
  rw [e]
  exact hk
theorem c_row_34 (hk : K none (36, putR f 34 40)) : mm_call mm_Ex (d + 1) k_X3_init [.ref 34, .int 40] (35, mU f 34 (mO 3 (mm_def 3))) K := by
  refine mm_run 60 ⟨by show 35 < 93; decide, by decide +kernel, by decide +kernel, by decide +kernel, ?_⟩
  show K none ((36, mU (mU (mU (mU (f) 34 (mO 3 (mm_def 3))) 34 (mO 3 [.null, .int (-1)])) 35 (mI 40 (fun _ => 0))) 34 (mO 3 [.ref 35, .int (-1)])) : mm_H)
  have e : mU (mU (mU (mU (f) 34 (mO 3 (mm_def 3))) 34 (mO 3 [.null, .int (-1)])) 35 (mI 40 (fun _ => 0))) 34 (mO 3 [.ref 35, .int (-1)]) = putR f 34 40 := by
    funext k
    by_cases h34 : k = 34
    · subst h34; rfl
    by_cases h35 : k = 35
    · subst h35; rfl
    unfold putR
    rw [if_neg h34, if_neg h35]
    simp only [mU, if_neg h34, if_neg h35]
  rw [e]
  exact hk
theorem c_row_36 (hk : K none (38, putR f 36 40)) : mm_call mm_Ex (d + 1) k_X3_init [.ref 36, .int 40] (37, mU f 36 (mO 3 (mm_def 3))) K := by
  refine mm_run 60 ⟨by show 37 < 93; decide, by decide +kernel, by decide +kernel, by decide +kernel, ?_⟩
  show K none ((38, mU (mU (mU (mU (f) 36 (mO 3 (mm_def 3))) 36 (mO 3 [.null, .int (-1)])) 37 (mI 40 (fun _ => 0))) 36 (mO 3 [.ref 37, .int (-1)])) : mm_H)
  have e : mU (mU (mU (mU (f) 36 (mO 3 (mm_def 3))) 36 (mO 3 [.null, .int (-1)])) 37 (mI 40 (fun _ => 0))) 36 (mO 3 [.ref 37, .int (-1)]) = putR f 36 40 := by
    funext k
    by_cases h36 : k = 36
    · subst h36; rfl
    by_cases h37 : k = 37
    · subst h37; rfl
    unfold putR
    rw [if_neg h36, if_neg h37]
    simp only [mU, if_neg h36, if_neg h37]
  rw [e]
  exact hk
theorem c_row_38 (hk : K none (40, putR f 38 40)) : mm_call mm_Ex (d + 1) k_X3_init [.ref 38, .int 40] (39, mU f 38 (mO 3 (mm_def 3))) K := by
  refine mm_run 60 ⟨by show 39 < 93; decide, by decide +kernel, by decide +kernel, by decide +kernel, ?_⟩
  show K none ((40, mU (mU (mU (mU (f) 38 (mO 3 (mm_def 3))) 38 (mO 3 [.null, .int (-1)])) 39 (mI 40 (fun _ => 0))) 38 (mO 3 [.ref 39, .int (-1)])) : mm_H)
  have e : mU (mU (mU (mU (f) 38 (mO 3 (mm_def 3))) 38 (mO 3 [.null, .int (-1)])) 39 (mI 40 (fun _ => 0))) 38 (mO 3 [.ref 39, .int (-1)]) = putR f 38 40 := by
    funext k
    by_cases h38 : k = 38
    · subst h38; rfl
    by_cases h39 : k = 39
    · subst h39; rfl
    unfold putR
    rw [if_neg h38, if_neg h39]
    simp only [mU, if_neg h38, if_neg h39]
  rw [e]
  exact hk
theorem c_row_40 (hk : K none (42, putR f 40 40)) : mm_call mm_Ex (d + 1) k_X3_init [.ref 40, .int 40] (41, mU f 40 (mO 3 (mm_def 3))) K := by
  refine mm_run 60 ⟨by show 41 < 93; decide, by decide +kernel, by decide +kernel, by decide +kernel, ?_⟩
  show K none ((42, mU (mU (mU (mU (f) 40 (mO 3 (mm_def 3))) 40 (mO 3 [.null, .int (-1)])) 41 (mI 40 (fun _ => 0))) 40 (mO 3 [.ref 41, .int (-1)])) : mm_H)
  have e : mU (mU (mU (mU (f) 40 (mO 3 (mm_def 3))) 40 (mO 3 [.null, .int (-1)])) 41 (mI 40 (fun _ => 0))) 40 (mO 3 [.ref 41, .int (-1)]) = putR f 40 40 := by
    funext k
    by_cases h40 : k = 40
    · subst h40; rfl
    by_cases h41 : k = 41
    · subst h41; rfl
    unfold putR
    rw [if_neg h40, if_neg h41]
    simp only [mU, if_neg h40, if_neg h41]
  rw [e]
  exact hk
theorem c_row_42 (hk : K none (44, putR f 42 40)) : mm_call mm_Ex (d + 1) k_X3_init [.ref 42, .int 40] (43, mU f 42 (mO 3 (mm_def 3))) K := by
  refine mm_run 60 ⟨by show 43 < 93; decide, by decide +kernel, by decide +kernel, by decide +kernel, ?_⟩
  show K none ((44, mU (mU (mU (mU (f) 42 (mO 3 (mm_def 3))) 42 (mO 3 [.null, .int (-1)])) 43 (mI 40 (fun _ => 0))) 42 (mO 3 [.ref 43, .int (-1)])) : mm_H)
  have e : mU (mU (mU (mU (f) 42 (mO 3 (mm_def 3))) 42 (mO 3 [.null, .int (-1)])) 43 (mI 40 (fun _ => 0))) 42 (mO 3 [.ref 43, .int (-1)]) = putR f 42 40 := by
    funext k
    by_cases h42 : k = 42
    · subst h42; rfl
    by_cases h43 : k = 43
    · subst h43; rfl
    unfold putR
    rw [if_neg h42, if_neg h43]
    simp only [mU, if_neg h42, if_neg h43]
  rw [e]
  exact hk
theorem c_row_44 (hk : K none (46, putR f 44 40)) : mm_call mm_Ex (d + 1) k_X3_init [.ref 44, .int 40] (45, mU f 44 (mO 3 (mm_def 3))) K := by
  refine mm_run 60 ⟨by show 45 < 93; decide, by decide +kernel, by decide +kernel, by decide +kernel, ?_⟩
  show K none ((46, mU (mU (mU (mU (f) 44 (mO 3 (mm_def 3))) 44 (mO 3 [.null, .int (-1)])) 45 (mI 40 (fun _ => 0))) 44 (mO 3 [.ref 45, .int (-1)])) : mm_H)
  have e : mU (mU (mU (mU (f) 44 (mO 3 (mm_def 3))) 44 (mO 3 [.null, .int (-1)])) 45 (mI 40 (fun _ => 0))) 44 (mO 3 [.ref 45, .int (-1)]) = putR f 44 40 := by
    funext k
    by_cases h44 : k = 44
    · subst h44; rfl
    by_cases h45 : k = 45
    · subst h45; rfl
    unfold putR
    rw [if_neg h44, if_neg h45]
    simp only [mU, if_neg h44, if_neg h45]
  rw [e]
  exact hk
theorem c_row_46 (hk : K none (48, putR f 46 80)) : mm_call mm_Ex (d + 1) k_X3_init [.ref 46, .int 80] (47, mU f 46 (mO 3 (mm_def 3))) K := by
  refine mm_run 60 ⟨by show 47 < 93; decide, by decide +kernel, by decide +kernel, by decide +kernel, ?_⟩
  show K none ((48, mU (mU (mU (mU (f) 46 (mO 3 (mm_def 3))) 46 (mO 3 [.null, .int (-1)])) 47 (mI 80 (fun _ => 0))) 46 (mO 3 [.ref 47, .int (-1)])) : mm_H)
  have e : mU (mU (mU (mU (f) 46 (mO 3 (mm_def 3))) 46 (mO 3 [.null, .int (-1)])) 47 (mI 80 (fun _ => 0))) 46 (mO 3 [.ref 47, .int (-1)]) = putR f 46 80 := by
    funext k
    by_cases h46 : k = 46
    · subst h46; rfl
    by_cases h47 : k = 47
    · subst h47; rfl
    unfold putR
    rw [if_neg h46, if_neg h47]
    simp only [mU, if_neg h46, if_neg h47]
  rw [e]
  exact hk
theorem c_row_48 (hk : K none (50, putR f 48 80)) : mm_call mm_Ex (d + 1) k_X3_init [.ref 48, .int 80] (49, mU f 48 (mO 3 (mm_def 3))) K := by
  refine mm_run 60 ⟨by show 49 < 93; decide, by decide +kernel, by decide +kernel, by decide +kernel, ?_⟩
  show K none ((50, mU (mU (mU (mU (f) 48 (mO 3 (mm_def 3))) 48 (mO 3 [.null, .int (-1)])) 49 (mI 80 (fun _ => 0))) 48 (mO 3 [.ref 49, .int (-1)])) : mm_H)
  have e : mU (mU (mU (mU (f) 48 (mO 3 (mm_def 3))) 48 (mO 3 [.null, .int (-1)])) 49 (mI 80 (fun _ => 0))) 48 (mO 3 [.ref 49, .int (-1)]) = putR f 48 80 := by
    funext k
    by_cases h48 : k = 48
    · subst h48; rfl
    by_cases h49 : k = 49
    · subst h49; rfl
    unfold putR
    rw [if_neg h48, if_neg h49]
    simp only [mU, if_neg h48, if_neg h49]
  rw [e]
  exact hk
theorem c_row_50 (hk : K none (52, putR f 50 80)) : mm_call mm_Ex (d + 1) k_X3_init [.ref 50, .int 80] (51, mU f 50 (mO 3 (mm_def 3))) K := by
  refine mm_run 60 ⟨by show 51 < 93; decide, by decide +kernel, by decide +kernel, by decide +kernel, ?_⟩
  show K none ((52, mU (mU (mU (mU (f) 50 (mO 3 (mm_def 3))) 50 (mO 3 [.null, .int (-1)])) 51 (mI 80 (fun _ => 0))) 50 (mO 3 [.ref 51, .int (-1)])) : mm_H)
  have e : mU (mU (mU (mU (f) 50 (mO 3 (mm_def 3))) 50 (mO 3 [.null, .int (-1)])) 51 (mI 80 (fun _ => 0))) 50 (mO 3 [.ref 51, .int (-1)]) = putR f 50 80 := by
    funext k
    by_cases h50 : k = 50
    · subst h50; rfl
    by_cases h51 : k = 51
    · subst h51; rfl
    unfold putR
    rw [if_neg h50, if_neg h51]
    simp only [mU, if_neg h50, if_neg h51]
  rw [e]
  exact hk
theorem c_row_52 (hk : K none (54, putR f 52 80)) : mm_call mm_Ex (d + 1) k_X3_init [.ref 52, .int 80] (53, mU f 52 (mO 3 (mm_def 3))) K := by
  refine mm_run 60 ⟨by show 53 < 93; decide, by decide +kernel, by decide +kernel, by decide +kernel, ?_⟩
  show K none ((54, mU (mU (mU (mU (f) 52 (mO 3 (mm_def 3))) 52 (mO 3 [.null, .int (-1)])) 53 (mI 80 (fun _ => 0))) 52 (mO 3 [.ref 53, .int (-1)])) : mm_H)
  have e : mU (mU (mU (mU (f) 52 (mO 3 (mm_def 3))) 52 (mO 3 [.null, .int (-1)])) 53 (mI 80 (fun _ => 0))) 52 (mO 3 [.ref 53, .int (-1)]) = putR f 52 80 := by
    funext k
    by_cases h52 : k = 52
    · subst h52; rfl
    by_cases h53 : k = 53
    · subst h53; rfl
    unfold putR
    rw [if_neg h52, if_neg h53]
    simp only [mU, if_neg h52, if_neg h53]
  rw [e]
  exact hk
theorem c_ways (hk : K none (32, putW f)) : mm_call mm_Ex (d + 1) k_X4_init [.ref 30] (31, mU f 30 (mO 4 (mm_def 4))) K := by
  refine mm_run 5 ⟨by show 31 < 93; decide, by decide +kernel, by decide +kernel, by decide +kernel, ?_⟩
  show mm_Ex (d + 1) k_X4_init 6 (0, 0) [.ref 30] [] ((32, mU (mU (mU (f) 30 (mO 4 (mm_def 4))) 31 (mI 512 (fun _ => 0))) 30 (mO 4 [.ref 31, .int 0, .int 0, .int 0, .int 0])) : mm_H) K
  refine mm_run 20 ?_
  show K none ((32, mU (mU (mU (mU (mU (mU (mU (f) 30 (mO 4 (mm_def 4))) 31 (mI 512 (fun _ => 0))) 30 (mO 4 [.ref 31, .int 0, .int 0, .int 0, .int 0])) 30 (mO 4 [.ref 31, .int 0, .int 0, .int 0, .int 0])) 30 (mO 4 [.ref 31, .int 0, .int 0, .int 0, .int 0])) 30 (mO 4 [.ref 31, .int 0, .int 0, .int 0, .int 0])) 30 (mO 4 [.ref 31, .int 0, .int 0, .int 0, .int 0])) : mm_H)
  have e : mU (mU (mU (mU (mU (mU (mU (f) 30 (mO 4 (mm_def 4))) 31 (mI 512 (fun _ => 0))) 30 (mO 4 [.ref 31, .int 0, .int 0, .int 0, .int 0])) 30 (mO 4 [.ref 31, .int 0, .int 0, .int 0, .int 0])) 30 (mO 4 [.ref 31, .int 0, .int 0, .int 0, .int 0])) 30 (mO 4 [.ref 31, .int 0, .int 0, .int 0, .int 0])) 30 (mO 4 [.ref 31, .int 0, .int 0, .int 0, .int 0]) = putW f := by
    funext k
    by_cases h30 : k = 30
    · subst h30; rfl
    by_cases h31 : k = 31
    · subst h31; rfl
    unfold putW
    rw [if_neg h30, if_neg h31]
    simp only [mU, if_neg h30, if_neg h31]
  rw [e]
  exact hk
def f_one : Nat → Int32 := fun j => if j = 1 then -1 else 0
def f_nin : Nat → Nat → Int32
  | 0 => fun _ => 0
  | n + 1 => upd (f_nin n) n (-9)
def F00 (k : Nat) : Nat → Int32 := bif Nat.beq k 21 then f_one else bif (Nat.ble 34 k && (Nat.ble k 52 && Nat.beq (k % 2) 0)) then f_one else bif Nat.beq k 76 then f_nin 6 else bif Nat.beq k 78 then f_nin 4 else bif Nat.beq k 88 then f_nin 3 else fun _ => 0
def J00 (j : Nat) : Int64 := bif (Nat.beq j 1 || Nat.beq j 3) then 1 else 0
theorem c_reader (hk : K none (23, putD f)) : mm_call mm_Ex (d + 2) k_X2_init [.ref 13] (14, mU f 13 (mO 2 (mm_def 2))) K := by
  refine mm_run 1 ?_
  show mm_Ex (d + 2) k_X2_init 2 (9, 143) [.ref 13] [] ((14, mU (f) 13 (mO 2 (mm_def 2))) : mm_H) K
  refine mm_run 4 ⟨by show 14 < 93; decide, by decide +kernel, by decide +kernel, by decide +kernel, by decide +kernel, c_court_14 (f := mU (f) 13 (mO 2 (mm_def 2))) ?_⟩
  show mm_Ex (d + 2) k_X2_init 7 (2, 82) [.ref 13] [] ((21, mU (putC (mU (f) 13 (mO 2 (mm_def 2))) 14) 13 (mO 2 [.ref 14, .null, .int 0])) : mm_H) K
  refine mm_run 5 ⟨by show 21 < 93; decide, by decide +kernel, by decide +kernel, by decide +kernel, by decide +kernel, c_row_21 (f := mU (putC (mU (f) 13 (mO 2 (mm_def 2))) 14) 13 (mO 2 [.ref 14, .null, .int 0])) ?_⟩
  show mm_Ex (d + 2) k_X2_init 13 (0, 0) [.ref 13] [] ((23, mU (putR (mU (putC (mU (f) 13 (mO 2 (mm_def 2))) 14) 13 (mO 2 [.ref 14, .null, .int 0])) 21 0) 13 (mO 2 [.ref 14, .ref 21, .int 0])) : mm_H) K
  refine mm_run 20 ?_
  show K none ((23, mU (mU (putR (mU (putC (mU (f) 13 (mO 2 (mm_def 2))) 14) 13 (mO 2 [.ref 14, .null, .int 0])) 21 0) 13 (mO 2 [.ref 14, .ref 21, .int 0])) 13 (mO 2 [.ref 14, .ref 21, .int 0])) : mm_H)
  have e : mU (mU (putR (mU (putC (mU (f) 13 (mO 2 (mm_def 2))) 14) 13 (mO 2 [.ref 14, .null, .int 0])) 21 0) 13 (mO 2 [.ref 14, .ref 21, .int 0])) 13 (mO 2 [.ref 14, .ref 21, .int 0]) = putD f := by
    funext k
    by_cases h13 : k = 13
    · subst h13; rfl
    unfold putD
    rw [if_neg h13]
    simp only [mU, if_neg h13]
    unfold putR
    by_cases h21 : k = 21
    · rw [if_pos h21, if_pos h21]
    rw [if_neg h21, if_neg h21]
    by_cases h22 : k = 21 + 1
    · rw [if_pos h22, if_pos h22]
    rw [if_neg h22, if_neg h22]
    simp only [mU, if_neg h13]
    unfold putC
    by_cases h14 : k = 14
    · rw [if_pos h14, if_pos h14]
    rw [if_neg h14, if_neg h14]
    by_cases h15 : 14 + 1 ≤ k ∧ k ≤ 14 + 6
    · rw [if_pos h15, if_pos h15]
    rw [if_neg h15, if_neg h15]
    simp only [mU, if_neg h13]
  rw [e]
  exact hk
end XNw
theorem inv_0 : INV F00 J00 := by
  refine ⟨⟨fun r hr => Or.inl ?_, fun t ht => Or.inl ?_, ⟨0, by decide, rfl, rfl, fun w _ i hi => absurd hi (Nat.not_lt_zero i)⟩, fun k hk => Or.inl ?_, ⟨rfl, rfl, fun f hf => ?_⟩⟩, ⟨0, rfl, by decide, fun i hi => absurd hi (Nat.not_lt_zero i)⟩, fun k hk m hm he => ?_, ⟨0, by decide, rfl⟩, rfl, rfl⟩
  · match r, hr with
    | 0, _ => exact ⟨rfl, rfl⟩
    | 1, _ => exact ⟨rfl, rfl⟩
    | 2, _ => exact ⟨rfl, rfl⟩
    | 3, _ => exact ⟨rfl, rfl⟩
    | 4, _ => exact ⟨rfl, rfl⟩
    | 5, _ => exact ⟨rfl, rfl⟩
  · match t, ht with
    | 0, _ => exact ⟨rfl, rfl⟩
    | 1, _ => exact ⟨rfl, rfl⟩
    | 2, _ => exact ⟨rfl, rfl⟩
    | 3, _ => exact ⟨rfl, rfl⟩
  · match k, hk with
    | 0, _ => exact ⟨rfl, rfl⟩
    | 1, _ => exact ⟨rfl, rfl⟩
    | 2, _ => exact ⟨rfl, rfl⟩
  · rfl
  · have e : F00 88 k = -9 := by
      match k, hk with
      | 0, _ => rfl
      | 1, _ => rfl
      | 2, _ => rfl
    rw [e] at he
    exact absurd he.symm (ne9 (by omega))
