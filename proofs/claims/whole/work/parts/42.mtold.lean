/-! What is told. -/
def toN (ln : Nat) (w : aW) (c : aC) (cn : Nat) (j : Nat) : Int32 :=
  if 10 ≤ j ∧ j ≤ 17 then nI (w.2.2.2.1.getD (j - 10) 0)
  else if 20 ≤ j ∧ j ≤ 25 then nI (c.1.getD (j - 20) 0)
  else if 30 ≤ j ∧ j ≤ 35 then nI (c.2.getD (j - 30) 0)
  else if 100 ≤ j ∧ j ≤ 179 then (if (j % 10) = 0 then nI (w.1.getD ((j - 100) / 10) 0) else if j % 10 = 1 then nI (w.2.1.getD ((j - 100) / 10) 0) else if j % 10 = 2 then nI (w.2.2.1.getD ((j - 100) / 10) 0) else -2)
  else if j = 0 then nI ln else if j = 1 then nI w.2.2.2.2.2.1 else if j = 2 then nI w.2.2.2.2.2.2.1 else if j = 3 then nI w.2.2.2.2.2.2.2 else if j = 4 then nI cn else -2
theorem rg_far {z : Int32} (h : rg (nI 0) (nI 179) z = false) {a b : Nat} (ha : a ≤ 179) (hb : b ≤ 179) : rg (nI a) (nI b) z = false := by
  cases hr : rg (nI a) (nI b) z with
  | false => rfl
  | true =>
    obtain ⟨j, h1, h2, h3⟩ := rg_of hr rfl rfl (by omega) (by omega)
    rw [h3, rg_nI (by omega) (by omega) (by omega)] at h
    simp at h
    omega
theorem ne_far {z : Int32} (h : rg (nI 0) (nI 179) z = false) {a : Nat} (ha : a ≤ 179) : ¬ z = nI a := by
  intro q
  rw [q, rg_nI (by omega) (by omega) (by omega)] at h
  simp at h
  omega
section MT
variable {hp : pH} {o : Nat} {x : aM}
theorem s_mtoldOne (hx : iM hp o x) {i q : Nat} (hi : i < 8) (hq : q < 10) : cl pg 179 [.ref o, .int (nI i), .int (nI q)] hp = q_i (if q = 0 then nI ((mW x).1.getD i 0) else if q = 1 then nI ((mW x).2.1.getD i 0) else if q = 2 then nI ((mW x).2.2.1.getD i 0) else -2) hp := by
  have key : ∀ c, c < 8 → (nI q = nI c) = (q = c) := fun c hc => propext (nI_eq (by omega) (by omega))
  rw [E179, B179_0, gM_0 hx, gM_1 hx, gM_2 hx, rM_n hx hi, rM_m hx hi, rM_t hx hi]
  simp only [key 0 (by omega), key 1 (by omega), key 2 (by omega), B179_24]
  by_cases q0 : q = 0
  · rw [if_neg (not_not_intro q0), if_pos q0]
    rfl
  rw [if_pos q0, if_neg q0]
  by_cases q1 : q = 1
  · rw [if_neg (not_not_intro q1), if_pos q1]
    rfl
  rw [if_pos q1, if_neg q1]
  by_cases q2 : q = 2
  · rw [if_neg (not_not_intro q2), if_pos q2]
    rfl
  rw [if_pos q2, if_neg q2]
theorem s_mtold (hx : iM hp o x) {j : Nat} (hj : j ≤ 179) : cl pg 178 [.ref o, .int (nI j)] hp = q_i (toN x.2.2.2.1.2 (mW x) x.2.1 x.2.2.1.2.2 j) hp := by
  have key : ∀ c, c < 200 → (nI j = nI c) = (j = c) := fun c hc => propext (nI_eq (by omega) (by omega))
  have ri : ∀ a b : Nat, a < 200 → b < 200 → cl pg 109 [.long (nI j).toInt64, .long (lN a), .long (lN b)] hp = q_i (bI (decide (a ≤ j ∧ j ≤ b))) hp := by
    intro a b ha hb
    rw [s_in _ (by omega) (by omega), rgb (by omega) (by omega) (by omega)]
  rw [E178, B178_0, ri 100 179 (by omega) (by omega), er_i, ri 10 17 (by omega) (by omega), er_i, ri 20 25 (by omega) (by omega), er_i, ri 30 35 (by omega) (by omega), er_i]
  simp only [bI_0, key 0 (by omega), key 1 (by omega), key 2 (by omega), key 3 (by omega), key 4 (by omega), decide_eq_false_iff_not]
  unfold toN
  by_cases c1 : 100 ≤ j ∧ j ≤ 179
  · have d1 : nI j - nI 100 = nI (j - 100) := pk_sub c1.1
    have d2 : nI (j - 100) / nI 10 = nI ((j - 100) / 10) := pk_div (by omega) (by omega) (by omega)
    have d3 : nI j % nI 10 = nI (j % 10) := rem_I (by omega) (by omega) (by omega)
    rw [if_neg (not_not_intro c1), if_neg (by omega), if_neg (by omega), if_neg (by omega), if_pos c1, d1, d2, d3, vM hx, s_mtoldOne hx (by omega) (by omega), er_i]
  rw [if_pos c1]
  by_cases c2 : 10 ≤ j ∧ j ≤ 17
  · rw [if_neg (not_not_intro c2), if_pos c2, pk_sub c2.1, gM_3 hx, rM_f hx (i := j - 10) (by omega)]
    rfl
  rw [if_pos c2, if_neg c2]
  by_cases c3 : 20 ≤ j ∧ j ≤ 25
  · rw [if_neg (not_not_intro c3), if_pos c3, pk_sub c3.1, gM_7 hx, rM_mi hx (i := j - 20) (by omega)]
  rw [if_pos c3, if_neg c3]
  by_cases c4 : 30 ≤ j ∧ j ≤ 35
  · rw [if_neg (not_not_intro c4), if_pos c4, pk_sub c4.1, gM_8 hx, rM_du hx (i := j - 30) (by omega)]
  rw [if_pos c4, if_neg c4, if_neg c1, gM_13 hx, gM_4 hx, gM_5 hx, gM_6 hx, gM_11 hx]
  by_cases h0 : j = 0
  · rw [if_pos h0, if_pos h0]
  rw [if_neg h0, if_neg h0]
  by_cases h1 : j = 1
  · rw [if_pos h1, if_pos h1]
    rfl
  rw [if_neg h1, if_neg h1]
  by_cases h2 : j = 2
  · rw [if_pos h2, if_pos h2]
    rfl
  rw [if_neg h2, if_neg h2]
  by_cases h3 : j = 3
  · rw [if_pos h3, if_pos h3]
    rfl
  rw [if_neg h3, if_neg h3]
  by_cases h4 : j = 4
  · rw [if_pos h4, if_pos h4]
  rw [if_neg h4, if_neg h4]
theorem s_mtoldNo {z : Int32} (h : rg (nI 0) (nI 179) z = false) : cl pg 178 [.ref o, .int z] hp = q_i (-2) hp := by
  rw [E178, B178_0, inF (rg_far h (by omega) (by omega)) (by omega) (by omega), er_i, if_pos rfl, inF (rg_far h (by omega) (by omega)) (by omega) (by omega), er_i, if_pos rfl, inF (rg_far h (by omega) (by omega)) (by omega) (by omega), er_i, if_pos rfl, inF (rg_far h (by omega) (by omega)) (by omega) (by omega), er_i, if_pos rfl, if_neg (ne_far h (by omega)), if_neg (ne_far h (by omega)), if_neg (ne_far h (by omega)), if_neg (ne_far h (by omega)), if_neg (ne_far h (by omega))]
end MT
