/-! the heap of the two objects: all ints in one function (cell, place), longs, the reader's source -/
def hr3 (j : Nat) : Option Nat := if j < 6 then some (34 + 2 * j) else none
def hr4 (j : Nat) : Option Nat := if j < 4 then some (46 + 2 * j) else none
def hr12 (j : Nat) : Option Nat := if j < 3 then some (54 + 7 * j) else none
def hc (L : Nat) (xs : Nat → Int32) (J : Nat → Int64) (s k : Nat) (f : Nat → Int32) : mm_C :=
  bif Nat.blt k 75 then
    (bif Nat.blt k 34 then
      (bif Nat.blt k 12 then
        (bif Nat.blt k 5 then (match k with | 0 => mE L xs | 1 => mE 6 mm_let | 2 => mO 5 [.ref 3, .ref 4, .ref 5, .ref 12, .ref 13, .ref 23, .ref 30, .ref 32, .ref 33, .int (f 9), .int (f 10), .long (J 0), .long (J 1)] | 3 => mR 3 6 hr3 | _ => mR 3 4 hr4)
          else bif Nat.beq k 5 then mO 1 [.ref 6, .ref 7, .ref 8, .ref 9, .ref 10, .ref 11, .int (f 6)] else mI 9 f)
        else bif Nat.blt k 23 then
          (bif Nat.beq k 12 then mR 1 3 hr12 else bif Nat.beq k 13 then mO 2 [.ref 14, .ref s, .int (f 2)] else bif Nat.beq k 14 then mO 1 [.ref 15, .ref 16, .ref 17, .ref 18, .ref 19, .ref 20, .int (f 6)] else bif Nat.blt k 21 then mI 9 f else bif Nat.beq k 21 then mO 3 [.ref 22, .int (f 1)] else mI 0 f)
          else (bif Nat.beq k 23 then mO 0 [.ref 24, .ref 25, .ref 26, .ref 27, .ref 28, .ref 29, .int (f 6), .int (f 7)] else bif Nat.blt k 30 then mI 9 f else bif Nat.beq k 30 then mO 4 [.ref 31, .int (f 1), .int (f 2), .int (f 3), .int (f 4)] else bif Nat.beq k 31 then mI 512 f else bif Nat.beq k 32 then mI 3 f else mI 6 f))
      else bif Nat.blt k 54 then (bif Nat.beq (k % 2) 0 then mO 3 [.ref (k + 1), .int (f 1)] else bif Nat.blt k 46 then mI 40 f else mI 80 f)
        else (bif Nat.beq ((k - 54) % 7) 0 then mO 1 [.ref (k + 1), .ref (k + 2), .ref (k + 3), .ref (k + 4), .ref (k + 5), .ref (k + 6), .int (f 6)] else mI 9 f))
    else bif Nat.blt k 82 then
      (bif Nat.beq k 75 then mO 6 [.ref 76, .ref 77, .ref 78, .ref 79, .ref 80, .int (f 5), .ref 81, .int (f 7), .long (J 2), .long (J 3), .int (f 10), .ref 82, .ref 83, .ref 84, .ref 85, .ref 86, .ref 87, .ref 88, .ref 89, .int (f 19), .ref 90, .int (f 21), .int (f 22), .ref 91, .ref 92, .int (f 25), .int (f 26)]
        else bif Nat.beq k 76 then mI 6 f else bif Nat.beq k 77 then mI 240 f else bif Nat.beq k 78 then mI 4 f else bif Nat.beq k 79 then mI 320 f else bif Nat.beq k 80 then mI 40 f else mI 6 f)
      else (bif Nat.blt k 88 then mI 9 f else bif Nat.beq k 88 then mI 3 f else bif Nat.beq k 89 then mI 162 f else bif Nat.beq k 90 then mI 9 f else bif Nat.beq k 91 then mI 6 f else bif Nat.beq k 92 then mI 9 f else mO 99 [])
/-- the heap -/
def hH (L : Nat) (xs : Nat → Int32) (J : Nat → Int64) (s : Nat) (F : Nat → Nat → Int32) : mm_H := (93, fun k => hc L xs J s k (F k))
def upF (F : Nat → Nat → Int32) (k : Nat) (g : Nat → Int32) : Nat → Nat → Int32 := fun a => if a = k then g else F a
/-- one int of the heap is another one -/
def up2 (F : Nat → Nat → Int32) (k j : Nat) (x : Int32) : Nat → Nat → Int32 := upF F k (upd (F k) j x)
theorem hp {L : Nat} {xs : Nat → Int32} {J : Nat → Int64} {s k : Nat} {F : Nat → Nat → Int32} {g : Nat → Int32} {c : mm_C} (e : hc L xs J s k g = c) : mU (hH L xs J s F).2 k c = (hH L xs J s (upF F k g)).2 := by
  funext a
  by_cases h : a = k
  · subst h
    simp [mU, hH, upF, e]
  · simp [mU, hH, upF, h]
theorem hp1 {L : Nat} {xs : Nat → Int32} {J : Nat → Int64} {s k : Nat} {F : Nat → Nat → Int32} {g : Nat → Int32} {c : mm_C} (e : hc L xs J s k g = c) : ((93, mU (hH L xs J s F).2 k c) : mm_H) = hH L xs J s (upF F k g) := by rw [hp e]; rfl
theorem hp2 {L : Nat} {xs : Nat → Int32} {J : Nat → Int64} {s k k2 : Nat} {F : Nat → Nat → Int32} {g g2 : Nat → Int32} {c c2 : mm_C} (e : hc L xs J s k g = c) (e2 : hc L xs J s k2 g2 = c2) : ((93, mU (mU (hH L xs J s F).2 k c) k2 c2) : mm_H) = hH L xs J s (upF (upF F k g) k2 g2) := by rw [hp e]; exact hp1 e2
theorem hp3 {L : Nat} {xs : Nat → Int32} {J : Nat → Int64} {s k k2 k3 : Nat} {F : Nat → Nat → Int32} {g g2 g3 : Nat → Int32} {c c2 c3 : mm_C} (e : hc L xs J s k g = c) (e2 : hc L xs J s k2 g2 = c2) (e3 : hc L xs J s k3 g3 = c3) : ((93, mU (mU (mU (hH L xs J s F).2 k c) k2 c2) k3 c3) : mm_H) = hH L xs J s (upF (upF (upF F k g) k2 g2) k3 g3) := by rw [hp e]; exact hp2 e2 e3
/-- a claim of the heap, of an equal heap -/
theorem kh {K : mm_K} {r : Option Value} {h h' : mm_H} (e : h = h') (q : K r h') : K r h := e ▸ q
theorem kx {d μ ip : Nat} {al : Nat × Nat} {ls st : List Value} {h h' : mm_H} {K : mm_K} (e : h = h') (q : mm_Ex d μ ip al ls st h' K) : mm_Ex d μ ip al ls st h K := e ▸ q
def b2i (c : Prop) [Decidable c] : Int32 := if c then 1 else 0
theorem b2i_t {c : Prop} [Decidable c] (h : c) : b2i c = 1 := if_pos h
theorem b2i_f {c : Prop} [Decidable c] (h : ¬ c) : b2i c = 0 := if_neg h
theorem b2i_01 {c : Prop} [Decidable c] : b2i c = 0 ∨ b2i c = 1 := by
  by_cases h : c
  · exact Or.inr (b2i_t h)
  · exact Or.inl (b2i_f h)
theorem b2i_0 {c : Prop} [Decidable c] : b2i c = 0 ↔ ¬ c := by
  by_cases h : c
  · simp [b2i, h]
  · simp [b2i, h]
