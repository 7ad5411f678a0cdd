/-! Truth values and indices as numbers. -/
def bI (b : Bool) : Int32 := if b = true then nI 1 else nI 0
theorem one_ne : (nI 1 = nI 0) = False := eq_false (by decide)
theorem zer_eq : (nI 0 = nI 0) = True := eq_true rfl
theorem ez0 (X : Option pR) : qz (nI 0) X = X := rfl
theorem ez1 (X : Option pR) : qz (nI 1) X = X := rfl
theorem bI_0 (b : Bool) : (bI b = nI 0) = (b = false) := by cases b <;> simp [bI, one_ne]
theorem bI_1 (b : Bool) : (bI b = nI 1) = (b = true) := by
  cases b
  · simp only [bI, Bool.false_eq_true, ↓reduceIte, eq_iff_iff, iff_false]
    decide
  · simp [bI]
theorem bI_t : bI true = nI 1 := rfl
theorem bI_f : bI false = nI 0 := rfl
theorem qz_b (b : Bool) (X : Option pR) : qz (bI b) X = X := by cases b <;> rfl
theorem pin_nI {i n : Nat} (h : i < n) (hn : n < 2 ^ 31) : pin (nI i) n = true := decide_eq_true (nI_in h hn)
