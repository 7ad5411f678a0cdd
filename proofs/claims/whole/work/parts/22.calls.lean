/-! The class's Calls and Sights. -/
def okC (c : aC) : Prop := (c.1.length = 6 ∧ c.2.length = 6) ∧ ∀ i, i < 6 → c.1.getD i 0 < 10 ∧ c.2.getD i 0 < 100
def okS (s : aS) : Prop := s.1.length = 8 ∧ (∀ i, i < 8 → s.1.getD i 0 < 61) ∧ s.2.2 ≤ 8 ∧ s.2.1 < 2 ^ s.2.2
theorem okS_lt {s : aS} (h : okS s) : s.2.1 < 256 := Nat.lt_of_lt_of_le h.2.2.2 (Nat.pow_le_pow_right (by omega) h.2.2.1)
section CA
variable {hp : pH} {o p i : Nat} {c y : aC}
theorem s_minutesOf (hx : iC hp o c) (hi : i < 6) : cl pg 21 [.ref o, .int (nI i)] hp = q_i (nI (c.1.getD i 0)) hp := by
  rw [E21, B21_0, s_within, er_i, rgb (by omega) (by decide) (by decide)]
  simp only [bI_0]
  rw [if_neg (by simp; omega), gC_0 hx, rC_mi hx hi, B21_11]
theorem s_dueOf (hx : iC hp o c) (hi : i < 6) : cl pg 22 [.ref o, .int (nI i)] hp = q_i (nI (c.2.getD i 0)) hp := by
  rw [E22, B22_0, s_within, er_i, rgb (by omega) (by decide) (by decide)]
  simp only [bI_0]
  rw [if_neg (by simp; omega), gC_1 hx, rC_du hx hi, B22_11]
theorem s_put (hx : iC hp o c) (ok : okC c) (hi : i < 6) (a b : Nat) : cl pg 23 [.ref o, .int (nI i), .int (nI a), .int (nI b)] hp = q_v (sC hp o (c.1.set i a, c.2.set i b)) := by
  obtain ⟨mi, du⟩ := c
  rw [E23, B23_0, s_within, er_i, rgb (by omega) (by decide) (by decide)]
  simp only [bI_0]
  rw [if_neg (by simp; omega), gC_0 hx, wC_mi hx hi ok.1.1, gC_1s hx, wC_dus hx hi ok.1.2, B23_15]
theorem iC_o (hy : iC hp p y) (hd : p + 3 ≤ o ∨ o + 3 ≤ p) (x : aC) : iC (sC hp o x) p y := isAt_other hy hd
theorem s_copyC (hx : iC hp o c) (hy : iC hp p y) (hd : p + 3 ≤ o ∨ o + 3 ≤ p) (lc : c.1.length = 6 ∧ c.2.length = 6) (ly : y.1.length = 6 ∧ y.2.length = 6) : cl pg 100 [.ref o, .ref p] hp = q_v (sC hp o y) := by
  obtain ⟨n, m⟩ := c
  obtain ⟨n', m'⟩ := y
  obtain ⟨a1, a2⟩ := lc
  obtain ⟨b1, b2⟩ := ly
  dsimp only at a1 a2 b1 b2
  rw [E100, B100_0 (nl_ref _)]
  have key : ∀ k i, i + k = 6 → dn pg 100 2 [some (.ref o), some (.ref p), some (.int (nI i))] [] (sC hp o (cpL n n' i, cpL m m' i)) = q_v (sC hp o (n', m')) := by
    intro k
    induction k with
    | zero =>
      intro i hi
      have : i = 6 := by omega
      subst this
      rw [B100_2, if_pos (by decide)]
      simp only [cpL_n a1 b1, cpL_n a2 b2]
    | succ k ih =>
      intro i hi
      have h8 : i < 6 := by omega
      have hq := iC_o hy hd
      rw [B100_2, if_neg (nI_ge h8 (by omega)), gC_0s hx, gC_0 (hq _), rC_mi (hq _) h8, wC_mis hx h8 (cpL_len a1 b1 (by omega)), cpL_set a1 b1 h8,
        gC_1s hx, gC_1 (hq _), rC_du (hq _) h8, wC_dus hx h8 (cpL_len a2 b2 (by omega)), cpL_set a2 b2 h8, nI_add]
      exact ih (i + 1) (by omega)
  have := key 6 0 rfl
  simp only [cpL_0] at this
  rw [sC_i hx] at this
  exact this
/-- minutes of those of a set that are due by d -/
def mdb (c : aC) (d set : Nat) : Nat → Nat := sm (fun i => if hs set i = true ∧ c.2.getD i 0 ≤ d then c.1.getD i 0 else 0)
theorem s_minutesDueBy (hx : iC hp o c) (ok : okC c) {d set : Nat} (hd : d < 2 ^ 30) (hs' : set < 256) : cl pg 71 [.ref o, .int (nI d), .int (nI set)] hp = q_i (nI (mdb c d set 6)) hp := by
  rw [E71, B71_0 (nl_int _)]
  have key : ∀ k i, i + k = 6 → dn pg 71 4 [some (.ref o), some (.int (nI d)), some (.int (nI set)), some (.int (nI (mdb c d set i))), some (.int (nI i))] [] hp = q_i (nI (mdb c d set 6)) hp := by
    intro k
    induction k with
    | zero =>
      intro i hi
      have : i = 6 := by omega
      subst this
      rw [B71_4, if_pos (by decide)]
    | succ k ih =>
      intro i hi
      have h6 : i < 6 := by omega
      have hb := ok.2 i h6
      have e : mdb c d set (i + 1) = mdb c d set i + (if hs set i = true ∧ c.2.getD i 0 ≤ d then c.1.getD i 0 else 0) := rfl
      rw [B71_4, if_neg (nI_ge h6 (by omega)), s_has hs' (by omega), er_i]
      simp only [bI_0, B71_23, B71_24 (nl_int _), nI_add]
      rw [← ih (i + 1) (by omega), e]
      by_cases h1 : hs set i = true
      · rw [if_neg (by rw [h1]; simp), gC_1 hx, rC_du hx h6]
        by_cases h2 : c.2.getD i 0 ≤ d
        · rw [if_neg (nI_nlt h2 (by omega)), gC_0 hx, rC_mi hx h6, if_pos ⟨h1, h2⟩, nI_add]
        · rw [if_pos (nI_lt (by omega) (by omega)), if_neg (fun z => h2 z.2)]
      · rw [if_pos (by simpa using h1), if_neg (fun z => h1 z.1)]
  exact key 6 0 rfl
/-- all of a set can be in time -/
def cbt (c : aC) (set : Nat) : Nat → Bool
  | 0 => true
  | k + 1 => cbt c set k && (!hs set k || decide (mdb c (c.2.getD k 0) set 6 ≤ c.2.getD k 0))
theorem cbt_iff {c : aC} {set : Nat} : ∀ k, cbt c set k = true ↔ ∀ i, i < k → hs set i = true → mdb c (c.2.getD i 0) set 6 ≤ c.2.getD i 0
  | 0 => by simp [cbt]
  | k + 1 => by
    unfold cbt
    rw [Bool.and_eq_true, cbt_iff k]
    constructor
    · rintro ⟨h1, h2⟩ i hi hb
      by_cases hk : i = k
      · subst hk
        simpa [hb] using h2
      · exact h1 i (by omega) hb
    · intro h
      refine ⟨fun i hi hb => h i (by omega) hb, ?_⟩
      cases hb : hs set k
      · rfl
      · simpa using h k (by omega) hb
theorem mdb_le {c : aC} (ok : okC c) (d set : Nat) : mdb c d set 6 ≤ 60 := by
  have := sm_le (f := fun i => if hs set i = true ∧ c.2.getD i 0 ≤ d then c.1.getD i 0 else 0) (b := 10) 6 (fun i hi => by
    have := (ok.2 i hi).1
    split <;> omega)
  exact this
theorem s_canBeInTime (hx : iC hp o c) (ok : okC c) {set : Nat} (hs' : set < 256) : cl pg 70 [.ref o, .int (nI set)] hp = q_i (bI (cbt c set 6)) hp := by
  rw [E70, B70_0 (nl_int _)]
  have key : ∀ k i, i + k = 6 → cbt c set i = true → dn pg 70 2 [some (.ref o), some (.int (nI set)), some (.int (nI i))] [] hp = q_i (bI (cbt c set 6)) hp := by
    intro k
    induction k with
    | zero =>
      intro i hi hc
      have : i = 6 := by omega
      subst this
      rw [B70_2, if_pos (by decide), hc, ez1]
      rfl
    | succ k ih =>
      intro i hi hc
      have h6 : i < 6 := by omega
      have hb := ok.2 i h6
      have hm := mdb_le ok (c.2.getD i 0) set
      rw [B70_2, if_neg (nI_ge h6 (by omega)), s_has hs' (by omega), er_i]
      simp only [bI_0, B70_23 (nl_int _), nI_add]
      by_cases h1 : hs set i = true
      · rw [if_neg (by rw [h1]; simp), gC_1 hx, rC_du hx h6, vC hx, s_minutesDueBy hx ok (by omega) hs', er_i, gC_1 hx, rC_du hx h6]
        by_cases h2 : mdb c (c.2.getD i 0) set 6 ≤ c.2.getD i 0
        · rw [if_pos (nI_le h2 (by omega))]
          exact ih (i + 1) (by omega) (by unfold cbt; rw [hc, h1, decide_eq_true h2]; rfl)
        · rw [if_neg (nI_ge (by omega) (by omega)), ez0]
          have : cbt c set 6 = false := by
            cases hq : cbt c set 6
            · rfl
            · exact absurd ((cbt_iff 6).mp hq i h6 h1) h2
          rw [this]
          rfl
      · rw [if_pos (by simpa using h1)]
        exact ih (i + 1) (by omega) (by unfold cbt; rw [hc]; simp [h1])
  exact key 6 0 rfl rfl
/-- the least of the largest sets that have a property -/
def bst (f : Nat → Bool) : Nat → Nat
  | 0 => 0
  | k + 1 => if pop (bst f k) < pop (k + 1) ∧ f (k + 1) = true then k + 1 else bst f k
theorem bst_le (f : Nat → Bool) : ∀ k, bst f k ≤ k
  | 0 => Nat.le_refl 0
  | k + 1 => by
    have := bst_le f k
    unfold bst
    split <;> omega
theorem bst_ext {f g : Nat → Bool} : ∀ k, (∀ i, 1 ≤ i → i ≤ k → f i = g i) → bst f k = bst g k
  | 0, _ => rfl
  | k + 1, h => by
    unfold bst
    rw [bst_ext k (fun i h1 h2 => h i h1 (by omega)), h (k + 1) (by omega) (Nat.le_refl _)]
theorem s_mostInTime (hx : iC hp o c) (ok : okC c) : cl pg 69 [.ref o] hp = q_i (nI (bst (fun set => cbt c set 6) 63)) hp := by
  rw [E69, B69_0 (nl_ref _)]
  have key : ∀ k i, i + k = 63 → dn pg 69 4 [some (.ref o), some (.int (nI (bst (fun set => cbt c set 6) i))), some (.int (nI (i + 1)))] [] hp = q_i (nI (bst (fun set => cbt c set 6) 63)) hp := by
    intro k
    induction k with
    | zero =>
      intro i hi
      have : i = 63 := by omega
      subst this
      rw [B69_4, if_pos (by decide)]
    | succ k ih =>
      intro i hi
      have hb := bst_le (fun set => cbt c set 6) i
      have p1 := pop_lt (i + 1)
      have p2 := pop_lt (bst (fun set => cbt c set 6) i)
      rw [B69_4, if_neg (nI_ge (by omega) (by omega)), s_bitCount (by omega), er_i, s_bitCount (by omega), er_i]
      simp only [B69_18 (nl_int _), nI_add]
      rw [← ih (i + 1) (by omega)]
      have e : bst (fun set => cbt c set 6) (i + 1) = if pop (bst (fun set => cbt c set 6) i) < pop (i + 1) ∧ cbt c (i + 1) 6 = true then i + 1 else bst (fun set => cbt c set 6) i := rfl
      rw [e]
      by_cases h1 : pop (bst (fun set => cbt c set 6) i) < pop (i + 1)
      · rw [if_neg (nI_ge h1 (by omega)), vC hx, s_canBeInTime hx ok (by omega), er_i]
        simp only [bI_0]
        by_cases h2 : cbt c (i + 1) 6 = true
        · rw [if_neg (by rw [h2]; simp), if_pos ⟨h1, h2⟩]
        · rw [if_pos (by simpa using h2), if_neg (fun z => h2 z.2)]
      · rw [if_pos (nI_le (by omega) (by omega)), if_neg (fun z => h1 z.1)]
  exact key 63 0 rfl
end CA
section SI
variable {hp : pH} {o p i : Nat} {s y : aS}
theorem iS_o (hy : iS hp p y) (hd : p + 2 ≤ o ∨ o + 2 ≤ p) (x : aS) : iS (sS hp o x) p y := isAt_other hy hd
theorem s_copyS (hx : iS hp o s) (hy : iS hp p y) (hd : p + 2 ≤ o ∨ o + 2 ≤ p) (lc : s.1.length = 8) (ly : y.1.length = 8) : cl pg 101 [.ref o, .ref p] hp = q_v (sS hp o y) := by
  obtain ⟨n, a, b⟩ := s
  obtain ⟨n', a', b'⟩ := y
  dsimp only at lc ly
  rw [E101, B101_0 (nl_ref _)]
  have key : ∀ k i, i + k = 8 → dn pg 101 2 [some (.ref o), some (.ref p), some (.int (nI i))] [] (sS hp o (cpL n n' i, a, b)) = q_v (sS hp o (n', a', b')) := by
    intro k
    induction k with
    | zero =>
      intro i hi
      have : i = 8 := by omega
      subst this
      have hq := iS_o hy hd
      rw [B101_2, if_pos (by decide), gS_1 (hq _), pS_1s hx, gS_2 (hq _), pS_2s hx]
      simp only [cpL_n lc ly]
    | succ k ih =>
      intro i hi
      have h8 : i < 8 := by omega
      have hq := iS_o hy hd
      rw [B101_2, if_neg (nI_ge h8 (by omega)), gS_0s hx, gS_0 (hq _), rS_ev (hq _) h8, wS_evs hx h8 (cpL_len lc ly (by omega)), cpL_set lc ly h8, nI_add]
      exact ih (i + 1) (by omega)
  have := key 8 0 rfl
  simp only [cpL_0] at this
  rw [sS_i hx] at this
  exact this
theorem s_clearS (hx : iS hp o s) : cl pg 82 [.ref o] hp = q_v (sS hp o (s.1, 0, 0)) := by
  obtain ⟨n, a, b⟩ := s
  rw [E82, B82_0, pS_1 hx, pS_2s hx]
theorem s_addS (hx : iS hp o s) (ok : okS s) (e : Nat) (b : Bool) : cl pg 80 [.ref o, .int (nI e), .int (bI b)] hp = if s.2.2 < 8 then q_i (nI 1) (sS hp o (s.1.set s.2.2 e, s.2.1 ||| (if b = true then 2 ^ s.2.2 else 0), s.2.2 + 1)) else q_i (nI 0) hp := by
  have hl := okS_lt ok
  obtain ⟨n, a, c⟩ := s
  obtain ⟨h1, -, h3, -⟩ := ok
  dsimp only at h1 h3 hl ⊢
  rw [E80, B80_0, gS_2 hx, s_within, er_i]
  dsimp only
  rw [rgb (by omega) (by decide) (by decide)]
  simp only [bI_0, ez0, ez1]
  by_cases h8 : c < 8
  · rw [if_pos h8, if_pos (by simp; omega), gS_0 hx, gS_2 hx]
    dsimp only
    rw [wS_ev hx h8 h1, gS_1s hx]
    dsimp only
    have e25 : ∀ z, dn pg 80 25 [some (.ref o), some (.int (nI e)), some (.int (bI b))] [.int (nI z), .int (nI a), .ref o] (sS hp o (n.set c e, a, c)) = if nI a ||| nI z = nI (a ||| z) then q_i (nI 1) (sS hp o (n.set c e, a ||| z, c + 1)) else dn pg 80 25 [some (.ref o), some (.int (nI e)), some (.int (bI b))] [.int (nI z), .int (nI a), .ref o] (sS hp o (n.set c e, a, c)) := by
      intro z
      split
      · rename_i hz
        rw [B80_25, hz, pS_1s hx, gS_2s hx, nI_add, pS_2s hx, ez1]
      · rfl
    cases b
    · rw [if_pos rfl, e25 0, if_pos (by rw [or_0 a hl, Nat.or_zero])]
      rfl
    · rw [if_neg (by decide), gS_2s hx]
      dsimp only
      rw [sh_I c h8, e25 (2 ^ c), if_pos (or_I hl h8)]
      rfl
  · rw [if_neg h8, if_neg (by simp; omega)]
end SI
