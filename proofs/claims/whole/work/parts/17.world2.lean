/-! The class's World: copies, gusts, days. -/
/-- the first k of ys ahead of the rest of xs -/
def cpL {α : Type} (xs ys : List α) (k : Nat) : List α := ys.take k ++ xs.drop k
theorem cpL_len {α : Type} {xs ys : List α} {n k : Nat} (h1 : xs.length = n) (h2 : ys.length = n) (hk : k ≤ n) : (cpL xs ys k).length = n := by
  unfold cpL
  rw [List.length_append, List.length_take, List.length_drop]
  omega
theorem cpL_0 {α : Type} (xs ys : List α) : cpL xs ys 0 = xs := rfl
theorem cpL_n {α : Type} {xs ys : List α} {n : Nat} (h1 : xs.length = n) (h2 : ys.length = n) : cpL xs ys n = ys := by
  unfold cpL
  rw [List.take_of_length_le (by omega), List.drop_of_length_le (by omega), List.append_nil]
theorem cpL_set {xs ys : List Nat} {n k : Nat} (h1 : xs.length = n) (h2 : ys.length = n) (hk : k < n) : (cpL xs ys k).set k (ys.getD k 0) = cpL xs ys (k + 1) := by
  apply List.ext_getElem?
  intro j
  unfold cpL
  by_cases hj : j = k
  · subst hj
    rw [List.getElem?_set_self (by rw [List.length_append, List.length_take, List.length_drop]; omega), List.getElem?_append_left (by rw [List.length_take]; omega), List.getElem?_take_of_lt (by omega), List.getD_eq_getElem?_getD, List.getElem?_eq_getElem (by omega)]
    rfl
  · rw [List.getElem?_set_ne (Ne.symm hj)]
    by_cases hlt : j < k
    · rw [List.getElem?_append_left (by rw [List.length_take]; omega), List.getElem?_append_left (by rw [List.length_take]; omega), List.getElem?_take_of_lt hlt, List.getElem?_take_of_lt (by omega)]
    · rw [List.getElem?_append_right (by rw [List.length_take]; omega), List.getElem?_append_right (by rw [List.length_take]; omega), List.length_take, List.length_take, List.getElem?_drop, List.getElem?_drop]
      congr 1
      omega
theorem iW_o {hp : pH} {o p : Nat} {y : aW} (hy : iW hp p y) (hd : p + 6 ≤ o ∨ o + 6 ≤ p) (x : aW) : iW (sW hp o x) p y := isAt_other hy hd
/-- all but the foes -/
def cpW (w y : aW) : aW := (y.1, y.2.1, y.2.2.1, y.2.2.2.1, w.2.2.2.2.1, y.2.2.2.2.2)
theorem ok_cpW {w y : aW} (ok : okW y) : okW (cpW w y) := ok
section CP
variable {hp : pH} {o p : Nat} {w y : aW}
theorem s_copyW (hx : iW hp o w) (hy : iW hp p y) (hd : p + 6 ≤ o ∨ o + 6 ≤ p) (lw : w.1.length = 8 ∧ w.2.1.length = 8 ∧ w.2.2.1.length = 8 ∧ w.2.2.2.1.length = 8) (ly : y.1.length = 8 ∧ y.2.1.length = 8 ∧ y.2.2.1.length = 8 ∧ y.2.2.2.1.length = 8) : cl pg 39 [.ref o, .ref p] hp = q_v (sW hp o (cpW w y)) := by
  obtain ⟨n, m, t, f, fo, v, h, d⟩ := w
  obtain ⟨n', m', t', f', fo', v', h', d'⟩ := y
  obtain ⟨a1, a2, a3, a4⟩ := lw
  obtain ⟨b1, b2, b3, b4⟩ := ly
  dsimp only at a1 a2 a3 a4 b1 b2 b3 b4
  rw [E39, B39_0 (nl_ref _)]
  have key : ∀ k i, i + k = 8 → dn pg 39 2 [some (.ref o), some (.ref p), some (.int (nI i))] [] (sW hp o (cpL n n' i, cpL m m' i, cpL t t' i, cpL f f' i, fo, v, h, d)) = q_v (sW hp o (n', m', t', f', fo, v', h', d')) := by
    intro k
    induction k with
    | zero =>
      intro i hi
      have : i = 8 := by omega
      subst this
      rw [B39_2, if_pos (by decide)]
      simp only [cpL_n a1 b1, cpL_n a2 b2, cpL_n a3 b3, cpL_n a4 b4]
      have hq := iW_o hy hd
      rw [gW_5 (hq _), pW_5s hx, gW_6 (hq _), pW_6s hx, gW_7 (hq _), pW_7s hx]
    | succ k ih =>
      intro i hi
      have h8 : i < 8 := by omega
      have hq := iW_o hy hd
      rw [B39_2, if_neg (nI_ge h8 (by omega)), gW_0s hx, gW_0 (hq _), rW_n (hq _) h8, wW_ns hx h8 (cpL_len a1 b1 (by omega)), cpL_set a1 b1 h8,
        gW_1s hx, gW_1 (hq _), rW_m (hq _) h8, wW_ms hx h8 (cpL_len a2 b2 (by omega)), cpL_set a2 b2 h8,
        gW_2s hx, gW_2 (hq _), rW_t (hq _) h8, wW_ts hx h8 (cpL_len a3 b3 (by omega)), cpL_set a3 b3 h8,
        gW_3s hx, gW_3 (hq _), rW_f (hq _) h8, wW_fs hx h8 (cpL_len a4 b4 (by omega)), cpL_set a4 b4 h8, nI_add]
      exact ih (i + 1) (by omega)
  have := key 8 0 rfl
  simp only [cpL_0] at this
  rw [sW_i hx] at this
  exact this
end CP
/-- veils behind a gust, over the first k -/
def gsv (w : aW) (g : Nat) : Nat → Nat
  | 0 => w.2.2.2.2.2.1
  | k + 1 => if thk w k < g then sb (gsv w g k) k false else gsv w g k
theorem gsv_lt {w : aW} (hv : w.2.2.2.2.2.1 < 256) (g : Nat) : ∀ k, k ≤ 8 → gsv w g k < 256
  | 0, _ => hv
  | k + 1, hk => by
    have := gsv_lt hv g k (by omega)
    unfold gsv
    split
    · exact sb_lt' this (by omega) false
    · exact this
theorem gsv_hs {w : aW} (hv : w.2.2.2.2.2.1 < 256) (g : Nat) : ∀ k, k ≤ 8 → ∀ j, j < 8 → hs (gsv w g k) j = (hs w.2.2.2.2.2.1 j && !(decide (j < k) && decide (thk w j < g)))
  | 0, _, j, hj => by simp [gsv]
  | k + 1, hk, j, hj => by
    have ih := gsv_hs hv g k (by omega) j hj
    have hl := gsv_lt hv g k (by omega)
    unfold gsv
    split
    · rename_i ht
      rw [(sb_hs _ hl k (by omega) j hj).2, ih]
      by_cases h1 : j = k
      · subst h1
        simp [ht]
      · have : (decide (j < k + 1)) = decide (j < k) := decide_eq_decide.mpr (by omega)
        rw [this]
        simp [h1]
    · rename_i ht
      rw [ih]
      by_cases h1 : j = k
      · subst h1
        simp [ht]
      · have : (decide (j < k + 1)) = decide (j < k) := decide_eq_decide.mpr (by omega)
        rw [this]
theorem thk_uV {w : aW} {x i : Nat} (h : hs x i = hs w.2.2.2.2.2.1 i) : thk (uV w x) i = thk w i := by
  unfold thk
  show (if hs x i = true then _ else _) = _
  rw [h]
  rfl
section GS
variable {hp : pH} {o : Nat} {w : aW}
theorem thk_lt {w : aW} (ok : okW w) {i : Nat} (hi : i < 8) : thk w i < 10 := by
  have := ok.2.1 i hi
  unfold thk
  split <;> omega
theorem s_blow (hx : iW hp o w) (ok : okW w) {g : Nat} (hg : g < 2 ^ 30) : cl pg 52 [.ref o, .int (nI g)] hp = q_v (sW hp o (uV w (gsv w g 8))) := by
  rw [E52, B52_0 (nl_int _)]
  have key : ∀ k i, i + k = 8 → dn pg 52 2 [some (.ref o), some (.int (nI g)), some (.int (nI i))] [] (sW hp o (uV w (gsv w g i))) = q_v (sW hp o (uV w (gsv w g 8))) := by
    intro k
    induction k with
    | zero =>
      intro i hi
      have : i = 8 := by omega
      subst this
      rw [B52_2, if_pos (by decide)]
    | succ k ih =>
      intro i hi
      have h8 : i < 8 := by omega
      have hl := gsv_lt ok.2.2.1 g i (by omega)
      have hx' : iW (sW hp o (uV w (gsv w g i))) o (uV w (gsv w g i)) := iW_s hx
      have ok' : okW (uV w (gsv w g i)) := ok_uV ok hl
      have ht : thk (uV w (gsv w g i)) i = thk w i := thk_uV (by rw [gsv_hs ok.2.2.1 g i (by omega) i h8]; simp)
      rw [B52_2, if_neg (nI_ge h8 (by omega)), vW_s hx, s_thickOf hx' ok' h8, er_i, ht, B52_14 (nl_int _), nI_add]
      have := thk_lt ok h8
      by_cases hlt : thk w i < g
      · rw [if_neg (nI_ge hlt (by omega)), vW_s hx, show nI 0 = bI false from rfl, s_setVeil hx' hl h8, er_v, B52_14 (nl_int _), nI_add, sW_s]
        have e : uV (uV w (gsv w g i)) (sb (uV w (gsv w g i)).2.2.2.2.2.1 i false) = uV w (gsv w g (i + 1)) := by
          show uV w (sb (gsv w g i) i false) = _
          conv => rhs; unfold gsv
          rw [if_pos hlt]
        rw [e]
        exact ih (i + 1) (by omega)
      · rw [if_pos (nI_le (by omega) (by omega))]
        have e : gsv w g i = gsv w g (i + 1) := by
          conv => rhs; unfold gsv
          rw [if_neg hlt]
        rw [e]
        exact ih (i + 1) (by omega)
  have := key 8 0 rfl
  have e : uV w (gsv w g 0) = w := rfl
  rw [e, sW_i hx] at this
  exact this
end GS
