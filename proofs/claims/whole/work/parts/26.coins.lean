/-! Sums of stamps: how many, in how many ways, and none. -/
def Dw (w : Nat) (f : Nat → Nat) (s : Nat) : Nat := f s + if h : 0 < w ∧ w ≤ s then Dw w f (s - w) else 0
termination_by s
decreasing_by omega
theorem Dw_eq {w : Nat} (hw : 0 < w) (f : Nat → Nat) (s : Nat) : Dw w f s = f s + if w ≤ s then Dw w f (s - w) else 0 := by
  rw [Dw]
  by_cases h : w ≤ s
  · rw [dif_pos ⟨hw, h⟩, if_pos h]
  · rw [dif_neg (fun q => h q.2), if_neg h]
def Shw (w : Nat) (f : Nat → Nat) (s : Nat) : Nat := if w ≤ s then f (s - w) else 0
theorem Dw_uniq {w : Nat} (hw : 0 < w) {f g : Nat → Nat} (h : ∀ s, g s = f s + if w ≤ s then g (s - w) else 0) (s : Nat) : g s = Dw w f s := by
  induction s using Nat.strongRecOn with
  | ind s ih =>
    rw [h, Dw_eq hw]
    by_cases hs : w ≤ s
    · rw [if_pos hs, if_pos hs, ih (s - w) (by omega)]
    · rw [if_neg hs, if_neg hs]
theorem Dw_add {w : Nat} (hw : 0 < w) (f g : Nat → Nat) (s : Nat) : Dw w (fun t => f t + g t) s = Dw w f s + Dw w g s := by
  refine (Dw_uniq hw (f := fun t => f t + g t) (g := fun s => Dw w f s + Dw w g s) (fun s => ?_) s).symm
  rw [Dw_eq hw f, Dw_eq hw g]
  by_cases hs : w ≤ s
  · rw [if_pos hs, if_pos hs, if_pos hs]
    omega
  · rw [if_neg hs, if_neg hs, if_neg hs]
    omega
theorem Dw_Sh {a : Nat} (ha : 0 < a) (b : Nat) (f : Nat → Nat) (s : Nat) : Dw a (Shw b f) s = Shw b (Dw a f) s := by
  refine (Dw_uniq ha (g := Shw b (Dw a f)) (fun s => ?_) s).symm
  unfold Shw
  by_cases h1 : b ≤ s
  · rw [if_pos h1, if_pos h1, Dw_eq ha]
    by_cases h2 : a ≤ s - b
    · rw [if_pos h2, if_pos (by omega), if_pos (by omega), show s - b - a = s - a - b by omega]
    · rw [if_neg h2]
      by_cases h3 : a ≤ s
      · rw [if_pos h3, if_neg (by omega)]
      · rw [if_neg h3]
  · rw [if_neg h1, if_neg h1]
    by_cases h3 : a ≤ s
    · rw [if_pos h3, if_neg (by omega)]
    · rw [if_neg h3]
theorem Dw_comm {a b : Nat} (ha : 0 < a) (hb : 0 < b) (f : Nat → Nat) (s : Nat) : Dw a (Dw b f) s = Dw b (Dw a f) s := by
  refine Dw_uniq hb (g := Dw a (Dw b f)) (fun s => ?_) s
  have e : Dw b f = fun t => f t + Shw b (Dw b f) t := by
    funext t
    exact Dw_eq hb f t
  have : Dw a (Dw b f) s = Dw a (fun t => f t + Shw b (Dw b f) t) s := by rw [← e]
  rw [this, Dw_add ha, Dw_Sh ha]
  rfl
def dlt (s : Nat) : Nat := if s = 0 then 1 else 0
theorem Dw_dlt {c : Nat} (hc : 0 < c) (s : Nat) : (if s % c = 0 then 1 else 0) = Dw c dlt s := by
  refine Dw_uniq hc (g := fun s => if s % c = 0 then 1 else 0) (fun s => ?_) s
  unfold dlt
  by_cases h : c ≤ s
  · have e : s % c = (s - c) % c := Nat.mod_eq_sub_mod h
    rw [if_pos h, e]
    by_cases h1 : (s - c) % c = 0
    · rw [if_pos h1, if_neg (by omega : ¬ s = 0)]
    · rw [if_neg h1, if_neg (by omega : ¬ s = 0)]
  · have e : s % c = s := Nat.mod_eq_of_lt (by omega)
    rw [if_neg h, e, Nat.add_zero]
def wysN (a b c n : Nat) : Nat := Dw c (Dw b (Dw a dlt)) n
theorem wys_eq {a b c : Nat} (ha : 0 < a) (hb : 0 < b) (hc : 0 < c) (n : Nat) : Dw a (Dw b (Dw c dlt)) n = wysN a b c n := by
  have e1 : Dw b (Dw c dlt) = Dw c (Dw b dlt) := funext (Dw_comm hb hc dlt)
  rw [e1, Dw_comm ha hc]
  have e2 : Dw a (Dw b dlt) = Dw b (Dw a dlt) := funext (Dw_comm ha hb dlt)
  rw [e2]
  rfl
/-- one more stamp: 0 is none, k + 1 is k of them -/
def mn (cur bef : Nat) : Nat := if bef = 0 then cur else if cur = 0 ∨ bef + 1 < cur then bef + 1 else cur
theorem mn_le {cur bef k : Nat} (h1 : cur ≤ k) (h2 : bef < k) : mn cur bef ≤ k := by
  unfold mn
  split
  · exact h1
  · split <;> omega
theorem mn_l {cur bef : Nat} (h : cur ≠ 0) : mn cur bef ≠ 0 := by
  unfold mn
  split
  · exact h
  · split <;> omega
theorem mn_r {cur bef : Nat} (h : bef ≠ 0) : mn cur bef ≠ 0 := by
  unfold mn
  rw [if_neg h]
  split <;> omega
def fwN (a b c s : Nat) : Nat :=
  if h0 : s = 0 then 1 else mn (mn (mn 0 (if h : 0 < a ∧ a ≤ s then fwN a b c (s - a) else 0)) (if h : 0 < b ∧ b ≤ s then fwN a b c (s - b) else 0)) (if h : 0 < c ∧ c ≤ s then fwN a b c (s - c) else 0)
termination_by s
decreasing_by all_goals omega
def bfr (f : Nat → Nat) (s w : Nat) : Nat := if w ≤ s then f (s - w) else 0
theorem fwN_0 (a b c : Nat) : fwN a b c 0 = 1 := by
  rw [fwN, dif_pos rfl]
theorem fwN_s {a b c s : Nat} (ha : 0 < a) (hb : 0 < b) (hc : 0 < c) (hs : 0 < s) : fwN a b c s = mn (mn (mn 0 (bfr (fwN a b c) s a)) (bfr (fwN a b c) s b)) (bfr (fwN a b c) s c) := by
  have key : ∀ w, 0 < w → (if h : 0 < w ∧ w ≤ s then fwN a b c (s - w) else 0) = bfr (fwN a b c) s w := by
    intro w hw
    unfold bfr
    by_cases h : w ≤ s
    · rw [dif_pos ⟨hw, h⟩, if_pos h]
    · rw [dif_neg (fun q => h q.2), if_neg h]
  rw [fwN, dif_neg (by omega), key a ha, key b hb, key c hc]
theorem fwN_le {a b c : Nat} (ha : 0 < a) (hb : 0 < b) (hc : 0 < c) (s : Nat) : fwN a b c s ≤ s + 1 := by
  induction s using Nat.strongRecOn with
  | ind s ih =>
    by_cases h0 : s = 0
    · subst h0
      rw [fwN_0]
      omega
    · have key : ∀ w, 0 < w → bfr (fwN a b c) s w < s + 1 := by
        intro w hw
        unfold bfr
        split
        · have := ih (s - w) (by omega)
          omega
        · omega
      rw [fwN_s ha hb hc (by omega)]
      exact mn_le (mn_le (mn_le (by omega) (key a ha)) (key b hb)) (key c hc)
theorem fwN_pos {a b c : Nat} (ha : 0 < a) (hb : 0 < b) (hc : 0 < c) (s : Nat) : ∀ x y z, s = a * x + b * y + c * z → fwN a b c s ≠ 0 := by
  induction s using Nat.strongRecOn with
  | ind s ih =>
    intro x y z hs
    by_cases h0 : s = 0
    · subst h0
      rw [fwN_0]
      omega
    · rw [fwN_s ha hb hc (by omega)]
      cases x with
      | succ x =>
        rw [Nat.mul_succ] at hs
        refine mn_l (mn_l (mn_r ?_))
        unfold bfr
        rw [if_pos (by omega)]
        exact ih _ (by omega) x y z (by omega)
      | zero =>
        cases y with
        | succ y =>
          rw [Nat.mul_succ] at hs
          refine mn_l (mn_r ?_)
          unfold bfr
          rw [if_pos (by omega)]
          exact ih _ (by omega) 0 y z (by omega)
        | zero =>
          cases z with
          | succ z =>
            rw [Nat.mul_succ] at hs
            refine mn_r ?_
            unfold bfr
            rw [if_pos (by omega)]
            exact ih _ (by omega) 0 0 z (by omega)
          | zero =>
            rw [Nat.mul_zero, Nat.mul_zero, Nat.mul_zero] at hs
            omega
-- which sums can be paid, as bits
def mK : Nat := Nat.sub (Nat.pow 2 501) 1
def ms1 (w m i : Nat) : Nat := Nat.land (Nat.lor m (Nat.shiftLeft m (Nat.mul (Nat.pow 2 i) w))) mK
def ms (w m : Nat) : Nat := ms1 w (ms1 w (ms1 w (ms1 w (ms1 w (ms1 w (ms1 w (ms1 w (ms1 w m 0) 1) 2) 3) 4) 5) 6) 7) 8
def mok (m : Nat) : Bool := Nat.beq (Nat.land (Nat.shiftRight m 401) (Nat.sub (Nat.pow 2 100) 1)) (Nat.sub (Nat.pow 2 100) 1)
theorem ms_all : ∀ a, a < 20 → ∀ b, b < 20 → ∀ c, c < 20 → (Nat.beq (Nat.gcd (Nat.gcd (a + 1) (b + 1)) (c + 1)) 1 = false ∨ mok (ms (c + 1) (ms (b + 1) (ms (a + 1) 1))) = true) := by decide +kernel
theorem ms1_ok {P : Nat → Prop} {w : Nat} (hP : ∀ s k, P s → P (s + k * w)) {m : Nat} (h : ∀ s, m.testBit s = true → P s) (i : Nat) : ∀ s, (ms1 w m i).testBit s = true → P s := by
  intro s hs
  have e : ms1 w m i = (m ||| (m <<< (2 ^ i * w))) &&& mK := rfl
  rw [e, Nat.testBit_and, Bool.and_eq_true, Nat.testBit_or, Bool.or_eq_true, Nat.testBit_shiftLeft, Bool.and_eq_true, decide_eq_true_eq] at hs
  rcases hs.1 with h1 | h1
  · exact h s h1
  · have := hP _ (2 ^ i) (h _ h1.2)
    rwa [Nat.sub_add_cancel h1.1] at this
theorem ms_ok {P : Nat → Prop} {w : Nat} (hP : ∀ s k, P s → P (s + k * w)) {m : Nat} (h : ∀ s, m.testBit s = true → P s) : ∀ s, (ms w m).testBit s = true → P s :=
  ms1_ok hP (ms1_ok hP (ms1_ok hP (ms1_ok hP (ms1_ok hP (ms1_ok hP (ms1_ok hP (ms1_ok hP (ms1_ok hP h 0) 1) 2) 3) 4) 5) 6) 7) 8
theorem pay_all {a b c : Nat} (ha : 0 < a) (hb : 0 < b) (hc : 0 < c) (ha2 : a ≤ 20) (hb2 : b ≤ 20) (hc2 : c ≤ 20) (hg : Nat.gcd (Nat.gcd a b) c = 1) {s : Nat} (h1 : 401 ≤ s) (h2 : s ≤ 500) : fwN a b c s ≠ 0 := by
  have hm := ms_all (a - 1) (by omega) (b - 1) (by omega) (c - 1) (by omega)
  rw [Nat.sub_add_cancel ha, Nat.sub_add_cancel hb, Nat.sub_add_cancel hc, hg] at hm
  have hm : mok (ms c (ms b (ms a 1))) = true := hm.resolve_left (by decide)
  have hb1 : (ms c (ms b (ms a 1))).testBit s = true := by
    have e := Nat.eq_of_beq_eq_true hm
    have e2 : ((ms c (ms b (ms a 1))) >>> 401 &&& (2 ^ 100 - 1)).testBit (s - 401) = (2 ^ 100 - 1 : Nat).testBit (s - 401) := congrArg (fun m => Nat.testBit m (s - 401)) e
    rw [Nat.testBit_and, Nat.testBit_two_pow_sub_one, Nat.testBit_shiftRight, show 401 + (s - 401) = s by omega, decide_eq_true (by omega), Bool.and_true] at e2
    exact e2
  have key : ∃ x y z, s = a * x + b * y + c * z := by
    refine ms_ok (P := fun s => ∃ x y z, s = a * x + b * y + c * z) ?_ (ms_ok ?_ (ms_ok ?_ ?_)) s hb1
    · rintro s k ⟨x, y, z, h⟩
      refine ⟨x, y, z + k, ?_⟩
      rw [h, Nat.mul_add, Nat.mul_comm k c]
      omega
    · rintro s k ⟨x, y, z, h⟩
      refine ⟨x, y + k, z, ?_⟩
      rw [h, Nat.mul_add, Nat.mul_comm k b]
      omega
    · rintro s k ⟨x, y, z, h⟩
      refine ⟨x + k, y, z, ?_⟩
      rw [h, Nat.mul_add, Nat.mul_comm k a]
      omega
    · intro s hs
      refine ⟨0, 0, 0, ?_⟩
      rw [Nat.testBit_one_eq_true_iff_self_eq_zero] at hs
      omega
  obtain ⟨x, y, z, h⟩ := key
  exact fwN_pos ha hb hc s x y z h
/-- the last that can not be paid -/
def gpT (f : Nat → Nat) : Nat → Option Nat
  | 0 => none
  | k + 1 => if f (k + 1) = 0 then some (k + 1) else gpT f k
theorem gpT_far {f : Nat → Nat} {m : Nat} : ∀ k, (∀ s, m < s → s ≤ m + k → f s ≠ 0) → gpT f (m + k) = gpT f m
  | 0, _ => rfl
  | k + 1, h => by
    have e : gpT f (m + (k + 1)) = if f (m + k + 1) = 0 then some (m + k + 1) else gpT f (m + k) := rfl
    rw [e, if_neg (h _ (by omega) (by omega)), gpT_far k (fun s h1 h2 => h s h1 (by omega))]
