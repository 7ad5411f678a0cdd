/-! The reference's fits and ask. -/
theorem s_inN {a b j : Nat} (ha : a < 2 ^ 31) (hb : b < 2 ^ 31) (hj : j < 2 ^ 31) (hp : pH) : cl pg 109 [.long (nI j).toInt64, .long (lN a), .long (nI b).toInt64] hp = q_i (bI (decide (a ≤ j) && decide (j ≤ b))) hp := by
  rw [s_min, ← nI_l ha]
  simp only [i64_le]
  rw [decide_eq_decide.mpr (nI_leI ha hj), decide_eq_decide.mpr (nI_leI hj hb)]
/-- the reference's sights -/
def okT (x : aM) : Prop := x.2.2.1.1.length = 8 ∧ x.2.2.1.2.1.length = 8 ∧ x.2.2.1.2.2 ≤ 8 ∧ (∀ i, i < 8 → x.2.2.1.1.getD i 0 < 61) ∧ ∀ i, i < 8 → x.2.2.1.2.1.getD i 0 < 2
def evM (x : aM) (i : Nat) : Nat := x.2.2.1.1.getD i 0
def sdM (x : aM) (i : Nat) : Bool := decide (x.2.2.1.2.1.getD i 0 = 1)
def fiM (x : aM) (r : Nat) : Bool := okr r && agb (evM x) (sdM x) r x.2.2.1.2.2
abbrev fitM (x : aM) : List Nat := fitL (evM x) (sdM x) x.2.2.1.2.2
theorem fitM_eq (x : aM) : fitM x = (List.range' 200 600).filter (fiM x) := by
  unfold fitM fitL
  rw [RL_eq, List.filter_filter]
  congr 1
  funext r
  exact Bool.and_comm _ _
section FM
variable {hp : pH} {o : Nat} {x : aM}
theorem s_isFit (hx : iM hp o x) (ok : okT x) {r : Nat} (h1 : 200 ≤ r) (h2 : r < 800) : cl pg 163 [.ref o, .int (nI r)] hp = q_i (bI (fiM x r)) hp := by
  obtain ⟨o1, o2, o3, o4, o5⟩ := ok
  obtain ⟨d1, d2, d3⟩ := rh_d (r := r) (by omega)
  have key : ∀ k i b, i + k = x.2.2.1.2.2 → b = (okr r && agb (evM x) (sdM x) r i) → ∀ v2, pm_nl v2 = true → dn pg 163 34 [some (.ref o), some (.int (nI r)), v2, some (.int (bI b)), some (.int (nI i))] [] hp = q_i (bI (fiM x r)) hp := by
    intro k
    induction k with
    | zero =>
      intro i b hi hb v2 hv
      have : i = x.2.2.1.2.2 := by omega
      rw [B163_34, gM_11 hx, if_pos (nI_le (by omega) (by omega)), qz_b, hb, this]
      rfl
    | succ k ih =>
      intro i b hi hb v2 hv
      rw [B163_34, gM_11 hx, if_neg (nI_ge (by omega) (by omega))]
      have e : agb (evM x) (sdM x) r (i + 1) = (agb (evM x) (sdM x) r i && (dnb r (evM x i) == sdM x i)) := rfl
      cases b with
      | false =>
        rw [if_pos (show bI false = nI 0 from rfl), B163_53, B163_54 hv, nI_add]
        refine ih (i + 1) false (by omega) ?_ v2 hv
        rw [e, ← Bool.and_assoc, ← hb, Bool.false_and]
      | true =>
        have he := o4 i (by omega)
        have hd := o5 i (by omega)
        rw [if_neg (by decide), gM_9 hx, rM_ev hx (i := i) (by omega), s_downBy (by omega) (by omega) (by omega), er_i, gM_10 hx, rM_sd hx (i := i) (by omega)]
        have es : nI (x.2.2.1.2.1.getD i 0) = bI (sdM x i) := by
          unfold sdM
          rcases Nat.lt_or_ge (x.2.2.1.2.1.getD i 0) 1 with h | h
          · have : x.2.2.1.2.1.getD i 0 = 0 := by omega
            rw [this]
            rfl
          · have : x.2.2.1.2.1.getD i 0 = 1 := by omega
            rw [this]
            rfl
        rw [es]
        simp only [bI_inj]
        by_cases h : dnb r (x.2.2.1.1.getD i 0) = sdM x i
        · rw [if_neg (not_not_intro h), B163_54 hv, nI_add]
          refine ih (i + 1) true (by omega) ?_ v2 hv
          rw [e, ← Bool.and_assoc, ← hb]
          unfold evM
          rw [h]
          simp
        · rw [if_pos h, B163_53, B163_54 hv, nI_add]
          refine ih (i + 1) false (by omega) ?_ v2 hv
          rw [e, ← Bool.and_assoc, ← hb]
          unfold evM
          have : (dnb r (x.2.2.1.1.getD i 0) == sdM x i) = false := by simpa using h
          rw [this]
          rfl
  have em : nI (r / 100) - nI 1 = nI (r / 100 - 1) := pk_sub (by omega)
  rw [E163, B163_0]
  simp only [d1, d2, d3, em]
  rw [s_inN (by omega) (by omega) (by omega), er_i]
  simp only [bI_0]
  have eo : okr r = ((decide (1 ≤ r / 10 % 10) && decide (r / 10 % 10 ≤ r / 100 - 1)) && decide (r % 10 ≤ r / 100 - 1)) := rfl
  by_cases c1 : (decide (1 ≤ r / 10 % 10) && decide (r / 10 % 10 ≤ r / 100 - 1)) = false
  · rw [if_pos c1, B163_30, B163_31 (nl_int _)]
    exact key _ 0 false (Nat.zero_add _) (by rw [eo, c1]; rfl) _ (nl_int _)
  · rw [if_neg c1, s_inN (by omega) (by omega) (by omega), er_i]
    simp only [bI_0]
    have c1' : (decide (1 ≤ r / 10 % 10) && decide (r / 10 % 10 ≤ r / 100 - 1)) = true := by simpa using c1
    have c3 : (decide (0 ≤ r % 10) && decide (r % 10 ≤ r / 100 - 1)) = decide (r % 10 ≤ r / 100 - 1) := by simp
    rw [c3]
    by_cases c2 : decide (r % 10 ≤ r / 100 - 1) = false
    · rw [if_pos c2, B163_30, B163_31 (nl_int _)]
      exact key _ 0 false (Nat.zero_add _) (by rw [eo, c1', c2]; rfl) _ (nl_int _)
    · rw [if_neg c2, B163_31 (nl_int _)]
      have c2' : decide (r % 10 ≤ r / 100 - 1) = true := by simpa using c2
      exact key _ 0 true (Nat.zero_add _) (by rw [eo, c1', c2']; rfl) _ (nl_int _)
/-- what fits answers -/
def fitA (F : List Nat) (z : Int32) : Int32 := if z = -1 then nI F.length else if z < nI 0 then -6 else if z.toInt.toNat < F.length then nI (F.getD z.toInt.toNat 0) else -6
theorem r_step {c : Nat} : List.range' 200 (c + 1) = List.range' 200 c ++ [200 + c] := by
  have := List.range'_append (s := 200) (m := c) (n := 1) (step := 1)
  rw [← this, Nat.one_mul]
  rfl
theorem r_split {c : Nat} (h : c < 600) : List.range' 200 600 = List.range' 200 c ++ ((200 + c) :: List.range' (201 + c) (599 - c)) := by
  have := List.range'_append (s := 200) (m := c) (n := 600 - c) (step := 1)
  rw [Nat.one_mul, show c + (600 - c) = 600 by omega] at this
  rw [← this]
  congr 1
  rw [show 600 - c = (599 - c) + 1 by omega, List.range'_succ]
  congr 2
  omega
theorem getD_at {A B : List Nat} {r : Nat} : (A ++ r :: B).getD A.length 0 = r := by
  rw [List.getD_eq_getElem?_getD, List.getElem?_append_right (Nat.le_refl _), Nat.sub_self]
  rfl
theorem fc_le (x : aM) {c : Nat} (h : c ≤ 600) : ((List.range' 200 c).filter (fiM x)).length ≤ 600 := by
  have := List.length_filter_le (fiM x) (List.range' 200 c)
  rw [List.length_range'] at this
  omega
theorem s_mfits (hx : iM hp o x) (ok : okT x) (z : Int32) : cl pg 162 [.ref o, .int z] hp = q_i (fitA (fitM x) z) hp := by
  have key : ∀ k c, c + k = 600 → (∀ j, j < ((List.range' 200 c).filter (fiM x)).length → nI j ≠ z) → dn pg 162 4 [some (.ref o), some (.int z), some (.int (nI ((List.range' 200 c).filter (fiM x)).length)), some (.int (nI (200 + c)))] [] hp = q_i (fitA (fitM x) z) hp := by
    intro k
    induction k with
    | zero =>
      intro c hc hn
      have : c = 600 := by omega
      subst this
      rw [← fitM_eq] at hn ⊢
      rw [B162_4, if_pos (by decide)]
      unfold fitA
      by_cases h : z = -1
      · rw [if_neg (not_not_intro h), if_pos h, B162_25]
      · rw [if_pos h, if_neg h, B162_25]
        by_cases h2 : z < nI 0
        · rw [if_pos h2]
        · rw [if_neg h2, if_neg]
          intro h3
          refine hn _ h3 (Int32.toInt_inj.mp ?_)
          have h4 : ¬ z.toInt < 0 := fun q => h2 (Int32.lt_iff_toInt_lt.mpr q)
          have : (fitM x).length ≤ 112 := fitL_le _ _ _
          rw [nI_toInt (by omega)]
          omega
    | succ k ih =>
      intro c hc hn
      have hl := fc_le x (c := c) (by omega)
      rw [B162_4, if_neg (nI_ge (by omega) (by omega)), vM hx, s_isFit hx ok (by omega) (by omega), er_i]
      simp only [bI_0]
      have ef : (List.range' 200 (c + 1)).filter (fiM x) = (List.range' 200 c).filter (fiM x) ++ [200 + c].filter (fiM x) := by
        rw [r_step, List.filter_append]
      by_cases hf : fiM x (200 + c) = false
      · have e2 : (List.range' 200 (c + 1)).filter (fiM x) = (List.range' 200 c).filter (fiM x) := by
          rw [ef]
          simp [hf]
        rw [if_pos hf, B162_17 (nl_int _), nI_add]
        have := ih (c + 1) (by omega) (by rw [e2]; exact hn)
        rw [e2] at this
        exact this
      · have hf' : fiM x (200 + c) = true := by simpa using hf
        have e2 : (List.range' 200 (c + 1)).filter (fiM x) = (List.range' 200 c).filter (fiM x) ++ [200 + c] := by
          rw [ef]
          simp [hf']
        have e3 : ((List.range' 200 (c + 1)).filter (fiM x)).length = ((List.range' 200 c).filter (fiM x)).length + 1 := by
          rw [e2, List.length_append]
          rfl
        rw [if_neg hf]
        by_cases hz : nI ((List.range' 200 c).filter (fiM x)).length = z
        · rw [if_neg (not_not_intro hz)]
          congr 1
          unfold fitA
          have ht : z.toInt = (((List.range' 200 c).filter (fiM x)).length : Int) := by
            rw [← hz, nI_toInt (by omega)]
          have h1 : ¬ z = -1 := by
            intro q
            rw [q] at ht
            have e : (-1 : Int32).toInt = -1 := by decide
            rw [e] at ht
            omega
          have h2 : ¬ z < nI 0 := by
            rw [Int32.lt_iff_toInt_lt, ht]
            have e : (nI 0).toInt = 0 := by decide
            rw [e]
            omega
          have e4 : fitM x = (List.range' 200 c).filter (fiM x) ++ ((200 + c) :: (List.range' (201 + c) (599 - c)).filter (fiM x)) := by
            rw [fitM_eq, r_split (c := c) (by omega), List.filter_append, List.filter_cons_of_pos hf']
          have e5 : z.toInt.toNat = ((List.range' 200 c).filter (fiM x)).length := by
            rw [ht]
            omega
          rw [if_neg h1, if_neg h2, e5, e4, getD_at, if_pos]
          rw [List.length_append, List.length_cons]
          omega
        · rw [if_pos hz, B162_17 (nl_int _), nI_add, nI_add]
          have := ih (c + 1) (by omega) (by
            intro j hj
            rw [e3] at hj
            by_cases hq : j = ((List.range' 200 c).filter (fiM x)).length
            · rw [hq]
              exact hz
            · exact hn j (by omega))
          rw [e3] at this
          exact this
  rw [E162, B162_0 (nl_int _)]
  exact key 600 0 rfl (fun j hj => absurd hj (Nat.not_lt_zero _))
def askA (F : List Nat) (z : Int32) : Int32 := if F.length = 0 then -6 else if z = nI 0 then nI (amn (lvb F) 60) else nI (lvb F (amn (lvb F) 60))
theorem amn_s (L : Nat → Nat) (k : Nat) : amn L (k + 1) = if L (k + 1) < L (amn L k) then k + 1 else amn L k := rfl
theorem s_mask (hx : iM hp o x) (ok : okT x) {z : Int32} (hz : rg (nI 0) (nI 1) z = true) : cl pg 165 [.ref o, .int z] hp = q_i (askA (fitM x) z) hp := by
  have hF := fitL_le (evM x) (sdM x) x.2.2.1.2.2
  have hF' : (fitM x).length ≤ 112 := hF
  have inn : ∀ e, e < 100 → ∀ v3 v4, ∀ k c, c + k = 600 → dn pg 165 29 [some (.ref o), some (.int z), some (.int (nI (fitM x).length)), v3, v4, some (.int (nI e)), some (.int (nI (((List.range' 200 c).filter (fiM x)).countP (fun r => dnb r e)))), some (.int (nI (200 + c)))] [] hp = dn pg 165 56 [some (.ref o), some (.int z), some (.int (nI (fitM x).length)), v3, v4, some (.int (nI e)), some (.int (nI ((fitM x).countP (fun r => dnb r e)))), some (.int (nI 800))] [.int (nI (lvb (fitM x) e))] hp := by
    intro e he v3 v4 k
    induction k with
    | zero =>
      intro c hc
      have : c = 600 := by omega
      subst this
      rw [← fitM_eq]
      have hc := List.countP_le_length (p := fun r => dnb r e) (l := fitM x)
      rw [B165_29, if_pos (by decide), pk_sub hc]
      unfold lvb
      by_cases h : (fitM x).countP (fun r => dnb r e) ≤ (fitM x).length - (fitM x).countP (fun r => dnb r e)
      · rw [if_pos (nI_le h (by omega))]
        by_cases h2 : (fitM x).countP (fun r => dnb r e) < (fitM x).length - (fitM x).countP (fun r => dnb r e)
        · rw [if_pos h2]
        · rw [if_neg h2]
          congr 4
          omega
      · rw [if_neg (nI_ge (by omega) (by omega)), if_neg (by omega)]
    | succ k ih =>
      intro c hc
      have ef : (List.range' 200 (c + 1)).filter (fiM x) = (List.range' 200 c).filter (fiM x) ++ [200 + c].filter (fiM x) := by
        rw [r_step, List.filter_append]
      rw [B165_29, if_neg (nI_ge (by omega) (by omega)), vM hx, s_isFit hx ok (by omega) (by omega), er_i]
      simp only [bI_0]
      rw [← ih (c + 1) (by omega), ef, List.countP_append]
      by_cases hf : fiM x (200 + c) = false
      · rw [if_pos hf, B165_42 (nl_int _), nI_add, nI_add]
        simp [hf, Nat.add_assoc]
      · have hf' : fiM x (200 + c) = true := by simpa using hf
        rw [if_neg hf, s_downBy (by omega) (by omega) (by omega), er_i, B165_42 (nl_int _), nI_add]
        have e1 : List.filter (fiM x) [200 + c] = [200 + c] := by simp [hf']
        rw [e1]
        have e2 : bI (dnb (200 + c) e) = nI (List.countP (fun r => dnb r e) [200 + c]) := by
          simp only [List.countP_cons, List.countP_nil]
          cases dnb (200 + c) e <;> rfl
        rw [e2, nI_add]
        rfl
  rw [E165, B165_0, s_in z (by decide) (by decide), er_i, hz, if_pos (by decide), vM hx, s_mfits hx ok, er_i]
  have e1 : fitA (fitM x) (-1) = nI (fitM x).length := if_pos rfl
  rw [e1]
  unfold askA
  by_cases h0 : (fitM x).length = 0
  · rw [h0, if_pos rfl, B165_20, if_neg (by decide), if_pos (by decide), B165_73, if_pos (by decide), B165_77, B165_80]
  · rw [if_neg h0]
    have fin : ∀ v5 v6 v7, dn pg 165 73 [some (.ref o), some (.int z), some (.int (nI (fitM x).length)), some (.int (nI (amn (lvb (fitM x)) 60))), some (.int (nI (lvb (fitM x) (amn (lvb (fitM x)) 60)))), v5, v6, v7] [] hp = q_i (if z = nI 0 then nI (amn (lvb (fitM x)) 60) else nI (lvb (fitM x) (amn (lvb (fitM x)) 60))) hp := by
      intro v5 v6 v7
      have b1 := amn_le (lvb (fitM x)) 60
      rw [B165_73, if_neg (nI_nlt (by omega) (by omega))]
      by_cases h : z = nI 0
      · rw [if_neg (not_not_intro h), B165_77, B165_80, if_pos h]
      · rw [if_pos h, B165_80, if_neg h]
    have key : ∀ k i, i + k = 60 → ∀ v6 v7, dn pg 165 20 [some (.ref o), some (.int z), some (.int (nI (fitM x).length)), some (.int (nI (amn (lvb (fitM x)) i))), some (.int (nI (lvb (fitM x) (amn (lvb (fitM x)) i)))), some (.int (nI (i + 1))), v6, v7] [] hp = q_i (if z = nI 0 then nI (amn (lvb (fitM x)) 60) else nI (lvb (fitM x) (amn (lvb (fitM x)) 60))) hp := by
      intro k
      induction k with
      | zero =>
        intro i hi v6 v7
        have : i = 60 := by omega
        subst this
        rw [B165_20, if_pos (by decide), fin]
      | succ k ih =>
        intro i hi v6 v7
        have b2 := lvb_le (fitM x) (amn (lvb (fitM x)) i)
        have b3 := lvb_le (fitM x) (i + 1)
        rw [B165_20, if_neg (nI_nlt (by omega) (by omega)), if_neg (nI_ge (by omega) (by omega))]
        have := inn (i + 1) (by omega) (some (.int (nI (amn (lvb (fitM x)) i)))) (some (.int (nI (lvb (fitM x) (amn (lvb (fitM x)) i))))) 600 0 rfl
        rw [show nI (200 + 0) = nI 200 from rfl] at this
        have e0 : List.countP (fun r => dnb r (i + 1)) (List.filter (fiM x) (List.range' 200 0)) = 0 := rfl
        rw [e0] at this
        rw [this, B165_56 (nl_int _)]
        by_cases h : lvb (fitM x) (i + 1) < lvb (fitM x) (amn (lvb (fitM x)) i)
        · have ea : amn (lvb (fitM x)) (i + 1) = i + 1 := by rw [amn_s, if_pos h]
          rw [if_neg (nI_ge h (by omega)), B165_63 (nl_int _), if_neg (nI_ge h (by omega)), B165_70 (nl_int _), nI_add]
          have := ih (i + 1) (by omega) (some (.int (nI ((fitM x).countP (fun r => dnb r (i + 1)))))) (some (.int (nI (lvb (fitM x) (i + 1)))))
          rw [ea] at this
          exact this
        · have ea : amn (lvb (fitM x)) (i + 1) = amn (lvb (fitM x)) i := by rw [amn_s, if_neg h]
          rw [if_pos (nI_le (by omega) (by omega)), B165_63 (nl_int _), if_pos (nI_le (by omega) (by omega)), B165_70 (nl_int _), nI_add]
          have := ih (i + 1) (by omega) (some (.int (nI ((fitM x).countP (fun r => dnb r (i + 1)))))) (some (.int (nI (lvb (fitM x) (i + 1)))))
          rw [ea] at this
          exact this
    have b3 := lvb_le (fitM x) 0
    rw [B165_20, if_neg (by decide), if_neg (nI_ge (by omega) (by omega))]
    have := inn 0 (by omega) (some (.int (-6))) (some (.int (nI (fitM x).length + nI 1))) 600 0 rfl
    rw [show nI (200 + 0) = nI 200 from rfl] at this
    have e0 : List.countP (fun r => dnb r 0) (List.filter (fiM x) (List.range' 200 0)) = 0 := rfl
    rw [e0] at this
    rw [this, nI_add, B165_56 (nl_int _), if_neg (nI_ge (by omega) (by omega)), B165_63 (nl_int _), if_neg (nI_ge (by omega) (by omega)), B165_70 (nl_int _), nI_add]
    exact key 60 0 rfl _ _
end FM
