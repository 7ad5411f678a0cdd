/-! First contracts: numbers, bits, tests. 'cl pg k args hp' is what method k answers, and the heap behind it. -/
/-- lo to hi -/
def rg (lo hi x : Int32) : Bool := decide (lo ≤ x) && decide (x ≤ hi)
theorem i_lt {x y : Int32} : x < y ↔ ¬ y ≤ x := by rw [Int32.lt_iff_toInt_lt, Int32.le_iff_toInt_le]; omega
theorem s_within (x a b : Int32) (hp : pH) : cl pg 11 [.int x, .int a, .int b] hp = q_i (bI (rg a b x)) hp := by
  rw [E11, B11_0]
  simp only [B11_8, B11_9, ez0, ez1]
  unfold rg
  by_cases h1 : a ≤ x
  · by_cases h2 : x ≤ b
    · rw [if_neg (fun z => i_lt.mp z h1), if_neg (fun z => i_lt.mp z h2)]; simp [h1, h2, bI]
    · rw [if_neg (fun z => i_lt.mp z h1), if_pos (i_lt.mpr h2)]; simp [h2, bI]
  · rw [if_pos (i_lt.mpr h1)]; simp [h1, bI]
theorem s_isOne (x : Int32) (hp : pH) : cl pg 10 [.int x] hp = q_i (bI (rg (nI 0) (nI 7) x)) hp := by
  rw [E10, B10_0]
  simp only [B10_7, B10_8, ez0, ez1]
  unfold rg
  have h8 : (nI 8 ≤ x) ↔ ¬ x ≤ nI 7 := by
    rw [Int32.le_iff_toInt_le, Int32.le_iff_toInt_le]
    have e1 : (nI 8).toInt = 8 := rfl
    have e2 : (nI 7).toInt = 7 := rfl
    omega
  by_cases h1 : nI 0 ≤ x
  · by_cases h2 : x ≤ nI 7
    · rw [if_neg (fun z => i_lt.mp z h1), if_neg (fun z => h8.mp z h2)]; simp [h1, h2, bI]
    · rw [if_neg (fun z => i_lt.mp z h1), if_pos (h8.mpr h2)]; simp [h2, bI]
  · rw [if_pos (i_lt.mpr h1)]; simp [h1, bI]
theorem lg_neg (a b : Int64) : (lg_cmp a b < nI 0) ↔ ¬ b ≤ a := by
  rw [nI_0]
  unfold lg_cmp
  have hb : (b < a) ↔ ¬ a ≤ b := by rw [Int64.lt_iff_toInt_lt, Int64.le_iff_toInt_le]; omega
  by_cases h1 : b < a
  · rw [if_pos h1]
    have : b ≤ a := by rw [Int64.le_iff_toInt_le]; have := Int64.lt_iff_toInt_lt.mp h1; omega
    simp [this]
  · rw [if_neg h1]
    by_cases h2 : a = b
    · rw [if_pos h2]; simp [h2, Int64.le_iff_toInt_le]
    · rw [if_neg h2]
      have : ¬ b ≤ a := fun z => h2 (Int64.toInt_inj.mp (by have := Int64.le_iff_toInt_le.mp z; have : ¬ b.toInt < a.toInt := fun q => h1 (Int64.lt_iff_toInt_lt.mpr q); omega))
      simp [this]
theorem lg_pos (a b : Int64) : (nI 0 < lg_cmp a b) ↔ ¬ a ≤ b := by
  rw [nI_0]
  unfold lg_cmp
  by_cases h1 : b < a
  · rw [if_pos h1]
    have : ¬ a ≤ b := by rw [Int64.le_iff_toInt_le]; have := Int64.lt_iff_toInt_lt.mp h1; omega
    simp [this]
  · rw [if_neg h1]
    have h3 : a ≤ b := by rw [Int64.le_iff_toInt_le]; have : ¬ b.toInt < a.toInt := fun q => h1 (Int64.lt_iff_toInt_lt.mpr q); omega
    by_cases h2 : a = b
    · rw [if_pos h2]; simp [h3]
    · rw [if_neg h2]; simp [h3]
theorem s_min (a b c : Int64) (hp : pH) : cl pg 109 [.long a, .long b, .long c] hp = q_i (bI (decide (b ≤ a) && decide (a ≤ c))) hp := by
  rw [E109, B109_0]
  simp only [B109_10, B109_11, ez0, ez1]
  by_cases h1 : b ≤ a
  · by_cases h2 : a ≤ c
    · rw [if_neg (fun z => (lg_neg _ _).mp z h1), if_neg (fun z => (lg_pos _ _).mp z h2)]; simp [h1, h2, bI]
    · rw [if_neg (fun z => (lg_neg _ _).mp z h1), if_pos ((lg_pos _ _).mpr h2)]; simp [h2, bI]
  · rw [if_pos ((lg_neg _ _).mpr h1)]; simp [h1, bI]
theorem i64_le (x y : Int32) : (x.toInt64 ≤ y.toInt64) = (x ≤ y) := by
  rw [Int64.le_iff_toInt_le, Int32.le_iff_toInt_le, Int32.toInt_toInt64, Int32.toInt_toInt64]
theorem s_in (x : Int32) {a b : Nat} (ha : a < 2 ^ 31) (hb : b < 2 ^ 31) (hp : pH) : cl pg 109 [.long x.toInt64, .long (lN a), .long (lN b)] hp = q_i (bI (rg (nI a) (nI b) x)) hp := by
  rw [s_min, ← nI_l ha, ← nI_l hb]
  unfold rg
  simp only [i64_le]
theorem s_misOne (x : Int32) (hp : pH) : cl pg 108 [.int x] hp = q_i (bI (rg (nI 0) (nI 7) x)) hp := by
  rw [E108, B108_0, s_in x (by decide) (by decide), er_i, qz_b]
/-- a number within is a small natural one -/
theorem rg_of {lo hi x : Int32} {a b : Nat} (h : rg lo hi x = true) (ha : lo = nI a) (hb : hi = nI b) (ha2 : a < 2 ^ 31) (hb2 : b < 2 ^ 31) : ∃ j : Nat, a ≤ j ∧ j ≤ b ∧ x = nI j := by
  subst ha
  subst hb
  unfold rg at h
  simp only [Bool.and_eq_true, decide_eq_true_eq] at h
  have h1 := Int32.le_iff_toInt_le.mp h.1
  have h2 := Int32.le_iff_toInt_le.mp h.2
  rw [nI_toInt ha2] at h1
  rw [nI_toInt hb2] at h2
  refine ⟨x.toInt.toNat, by omega, by omega, ?_⟩
  apply Int32.toInt_inj.mp
  rw [nI_toInt (by omega)]
  omega
theorem rg_nI {a b j : Nat} (hj : j < 2 ^ 31) (ha : a < 2 ^ 31) (hb : b < 2 ^ 31) : rg (nI a) (nI b) (nI j) = (decide (a ≤ j) && decide (j ≤ b)) := by
  unfold rg
  rw [decide_eq_decide.mpr (nI_leI ha hj), decide_eq_decide.mpr (nI_leI hj hb)]
/-- bit i of a natural number below 256 -/
def hs (v i : Nat) : Bool := v.testBit i
theorem hs_I : ∀ v, v < 256 → ∀ i, i < 8 → ((nI v >>> (nI i &&& nI 31)) &&& nI 1) = bI (hs v i) := by decide +kernel
theorem s_has {v i : Nat} (hv : v < 256) (hi : i < 8) (hp : pH) : cl pg 45 [.int (nI v), .int (nI i)] hp = q_i (bI (hs v i)) hp := by
  rw [E45, B45_0, hs_I v hv i hi]
  simp only [B45_9, ez0, ez1]
  cases hs v i <;> rfl
theorem s_mhas {v i : Nat} (hv : v < 256) (hi : i < 8) (hp : pH) : cl pg 130 [.int (nI v), .int (nI i)] hp = q_i (bI (hs v i)) hp := by
  rw [E130, B130_0, hs_I v hv i hi]
  simp only [B130_10, ez0, ez1]
  cases hs v i <;> rfl
/-- bit i put or taken -/
def sb (v i : Nat) (b : Bool) : Nat := if b = true then v ||| 2 ^ i else v &&& (255 - 2 ^ i)
theorem sb_lt : ∀ v, v < 256 → ∀ i, i < 8 → sb v i true < 256 ∧ sb v i false < 256 := by decide +kernel
theorem sb_lt' {v i : Nat} (hv : v < 256) (hi : i < 8) (b : Bool) : sb v i b < 256 := by
  cases b
  · exact (sb_lt v hv i hi).2
  · exact (sb_lt v hv i hi).1
theorem sb_I : ∀ v, v < 256 → ∀ i, i < 8 → nI v ||| (nI 1 <<< (nI i &&& nI 31)) = nI (sb v i true) ∧ nI v &&& ((nI 1 <<< (nI i &&& nI 31)) ^^^ (-1)) = nI (sb v i false) := by decide +kernel
theorem sb_hs : ∀ v, v < 256 → ∀ i, i < 8 → ∀ j, j < 8 → hs (sb v i true) j = (decide (j = i) || hs v j) ∧ hs (sb v i false) j = (!decide (j = i) && hs v j) := by decide +kernel
theorem s_mwith {v i : Nat} (hv : v < 256) (hi : i < 8) (b : Bool) (hp : pH) : cl pg 110 [.int (nI v), .int (nI i), .int (bI b)] hp = q_i (nI (sb v i b)) hp := by
  rw [E110, B110_0]
  simp only [B110_15, bI_0]
  cases b
  · rw [if_pos rfl, (sb_I v hv i hi).2]
  · rw [if_neg (by decide), (sb_I v hv i hi).1]
/-- how many bits -/
def pop (v : Nat) : Nat := (List.range 8).countP (fun i => hs v i)
theorem pop_lt (v : Nat) : pop v ≤ 8 := by
  unfold pop
  exact Nat.le_trans List.countP_le_length (by simp)
theorem s_bitCount {v : Nat} (hv : v < 256) (hp : pH) : cl pg 18 [.int (nI v)] hp = q_i (nI (pop v)) hp := by
  rw [E18, B18_0]
  congr 1
  revert v
  decide +kernel
theorem s_ones {v : Nat} (hv : v < 256) (hp : pH) : cl pg 114 [.int (nI v)] hp = q_i (nI (pop v)) hp := by
  rw [E114, B114_0]
  have key : ∀ n, ∀ c v : Nat, v < 256 → v ≤ n → ∀ x : Int32, dn pg 114 4 [some (.int x), some (.int (nI c)), some (.int (nI v))] [] hp = q_i (nI (c + pop v)) hp := by
    intro n
    induction n with
    | zero =>
      intro c v hv hn x
      have : v = 0 := by omega
      subst this
      rw [B114_4 rfl, if_pos rfl]
      rfl
    | succ n ih =>
      intro c v hv hn x
      rw [B114_4 rfl]
      by_cases h0 : v = 0
      · subst h0
        rw [if_pos rfl]
        rfl
      · have e : ∀ v, v < 256 → ¬ v = 0 → ¬ nI v = nI 0 ∧ nI v &&& (nI v - nI 1) = nI (v &&& (v - 1)) ∧ pop v = pop (v &&& (v - 1)) + 1 ∧ v &&& (v - 1) < v := by decide +kernel
        obtain ⟨e1, e2, e3, e4⟩ := e v hv h0
        rw [if_neg e1, e2, nI_add, ih (c + 1) (v &&& (v - 1)) (by omega) (by omega) x, e3]
        congr 2
        omega
  have := key v 0 v hv (Nat.le_refl _) (nI v)
  rw [Nat.zero_add] at this
  exact this
def nz_a (x : Int32) (k : Int32) : Int32 := (x.toUInt32 >>> (k.toUInt32 &&& Int32.toUInt32 31)).toInt32
def nz_4 (x y : Int32) : Int32 := y + nz_a x (nI 1)
def nz_3 (x y : Int32) : Int32 := if x ≤ nI 4 then nz_4 x y else nz_4 (nz_a x (nI 2)) (y + nI 2)
def nz_2 (x y : Int32) : Int32 := if x ≤ nI 16 then nz_3 x y else nz_3 (nz_a x (nI 4)) (y + nI 4)
def nz_1 (x y : Int32) : Int32 := if x ≤ nI 256 then nz_2 x y else nz_2 (nz_a x (nI 8)) (y + nI 8)
def nz_0 (x : Int32) : Int32 := if nI 0 < ((x ^^^ (-1)) &&& (x - nI 1)) then (if ((x ^^^ (-1)) &&& (x - nI 1)) ≤ nI 65536 then nz_1 ((x ^^^ (-1)) &&& (x - nI 1)) (nI 1) else nz_1 (nz_a ((x ^^^ (-1)) &&& (x - nI 1)) (nI 16)) (nI 1 + nI 16)) else ((x ^^^ (-1)) &&& (x - nI 1)) &&& nI 32
theorem nz_e3 (x y : Int32) (hp : pH) : dn pg 56 40 [some (.int x), some (.int y)] [] hp = q_i (nz_3 x y) hp := by
  rw [B56_40]
  unfold nz_3
  split <;> rw [B56_48] <;> rfl
theorem nz_e2 (x y : Int32) (hp : pH) : dn pg 56 32 [some (.int x), some (.int y)] [] hp = q_i (nz_2 x y) hp := by
  rw [B56_32]
  unfold nz_2
  split <;> rw [nz_e3] <;> rfl
theorem nz_e1 (x y : Int32) (hp : pH) : dn pg 56 24 [some (.int x), some (.int y)] [] hp = q_i (nz_1 x y) hp := by
  rw [B56_24]
  unfold nz_1
  split <;> rw [nz_e2] <;> rfl
theorem nz_e0 (x : Int32) (hp : pH) : cl pg 56 [.int x] hp = q_i (nz_0 x) hp := by
  rw [E56, B56_0]
  unfold nz_0
  split
  · split <;> rw [nz_e1] <;> rfl
  · rfl
/-- the least bit -/
def low (v : Nat) : Nat := (List.range 8).findIdx (fun i => hs v i)
theorem s_ntz {v : Nat} (hv : v < 256) (h0 : ¬ v = 0) (hp : pH) : cl pg 56 [.int (nI v)] hp = q_i (nI (low v)) hp := by
  rw [nz_e0]
  congr 1
  revert v
  decide +kernel
theorem ng8 {i : Nat} (h : i < 8) : (nI 8 ≤ nI i) = False := eq_false (nI_ge h (by omega))
theorem ge8 : (nI 8 ≤ nI 8) = True := eq_true (by decide)
theorem rem_I {a d : Nat} (ha : a < 2 ^ 31) (h0 : 0 < d) (hd : d < 2 ^ 31) : nI a % nI d = nI (a % d) := by rw [← irem_eq_mod, pk_rem ha h0 hd]
theorem s_isO {i : Nat} (hi : i < 8) (hp : pH) : cl pg 10 [.int (nI i)] hp = q_i (nI 1) hp := by
  rw [s_isOne, rg_nI (by omega) (by omega) (by omega)]
  simp [bI, show i ≤ 7 by omega]
theorem s_misO {i : Nat} (hi : i < 8) (hp : pH) : cl pg 108 [.int (nI i)] hp = q_i (nI 1) hp := by
  rw [s_misOne, rg_nI (by omega) (by omega) (by omega)]
  simp [bI, show i ≤ 7 by omega]
