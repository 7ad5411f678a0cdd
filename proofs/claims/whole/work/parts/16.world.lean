/-! The class's World: reads. -/
/-- n m t f foes v h d, within their bounds -/
def okW (w : aW) : Prop := (w.1.length = 8 ∧ w.2.1.length = 8 ∧ w.2.2.1.length = 8 ∧ w.2.2.2.1.length = 8) ∧ (∀ i, i < 8 → w.1.getD i 0 < 4 ∧ w.2.1.getD i 0 < 10 ∧ w.2.2.1.getD i 0 < 10 ∧ w.2.2.2.1.getD i 0 < 256) ∧ w.2.2.2.2.2.1 < 256 ∧ w.2.2.2.2.2.2.1 < 100 ∧ w.2.2.2.2.2.2.2 < 100
section WR
variable {hp : pH} {o i : Nat} {w : aW}
theorem s_nationOf (hx : iW hp o w) (hi : i < 8) : cl pg 12 [.ref o, .int (nI i)] hp = q_i (nI (w.1.getD i 0)) hp := by
  rw [E12, B12_0]
  simp only [s_isO hi, er_i, one_ne, ↓reduceIte, gW_0 hx, rW_n hx hi, B12_9]
theorem s_meshOf (hx : iW hp o w) (hi : i < 8) : cl pg 105 [.ref o, .int (nI i)] hp = q_i (nI (w.2.1.getD i 0)) hp := by
  rw [E105, B105_0]
  simp only [s_isO hi, er_i, one_ne, ↓reduceIte, gW_1 hx, rW_m hx hi, B105_9]
theorem s_tearsOf (hx : iW hp o w) (hi : i < 8) : cl pg 48 [.ref o, .int (nI i)] hp = q_i (nI (w.2.2.1.getD i 0)) hp := by
  rw [E48, B48_0]
  simp only [s_isO hi, er_i, one_ne, ↓reduceIte, gW_2 hx, rW_t hx hi, B48_9]
theorem s_friendsOf (hx : iW hp o w) (hi : i < 8) : cl pg 47 [.ref o, .int (nI i)] hp = q_i (nI (w.2.2.2.1.getD i 0)) hp := by
  rw [E47, B47_0]
  simp only [s_isO hi, er_i, one_ne, ↓reduceIte, gW_3 hx, rW_f hx hi, B47_9]
theorem s_isDown (hx : iW hp o w) (hv : w.2.2.2.2.2.1 < 256) (hi : i < 8) : cl pg 44 [.ref o, .int (nI i)] hp = q_i (bI (hs w.2.2.2.2.2.1 i)) hp := by
  rw [E44, B44_0]
  simp only [gW_5 hx, s_has hv hi, er_i, qz_b]
theorem max0 {a b : Nat} (ha : a < 2 ^ 30) (hb : b < 2 ^ 30) : (if nI a - nI b < nI 0 then nI 0 else nI a - nI b) = nI (a - b) := by
  by_cases h : b ≤ a
  · rw [pk_sub h, nI_0, if_neg (nI_pos (by omega))]
  · rw [show a - b = 0 by omega, nI_0, if_pos (pk_sneg hb (by omega))]
/-- how thick her veil is -/
def thk (w : aW) (i : Nat) : Nat := if hs w.2.2.2.2.2.1 i = true then w.2.1.getD i 0 - w.2.2.1.getD i 0 else 0
theorem s_thickOf (hx : iW hp o w) (ok : okW w) (hi : i < 8) : cl pg 53 [.ref o, .int (nI i)] hp = q_i (nI (thk w i)) hp := by
  have h2 := ok.2.1 i hi
  rw [E53, B53_0]
  simp only [s_isO hi, er_i, one_ne, ↓reduceIte, gW_5 hx, s_has ok.2.2.1 hi, bI_0, B53_20, B53_21, gW_1 hx, gW_2 hx, rW_m hx hi, rW_t hx hi]
  rw [max0 (by omega) (by omega)]
  unfold thk
  cases hs w.2.2.2.2.2.1 i <;> rfl
/-- sums over the ring -/
def sm (f : Nat → Nat) : Nat → Nat
  | 0 => 0
  | n + 1 => sm f n + f n
theorem sm_le {f : Nat → Nat} {b : Nat} : ∀ n, (∀ i, i < n → f i ≤ b) → sm f n ≤ n * b
  | 0, _ => by simp [sm]
  | n + 1, h => by
    have := sm_le n (fun i hi => h i (by omega))
    have := h n (by omega)
    unfold sm
    rw [Nat.succ_mul]
    omega
theorem sm_ext {f g : Nat → Nat} : ∀ n, (∀ i, i < n → f i = g i) → sm f n = sm g n
  | 0, _ => rfl
  | n + 1, h => by
    unfold sm
    rw [sm_ext n (fun i hi => h i (by omega)), h n (by omega)]
/-- treaties that are kept -/
def trs (w : aW) : Nat := sm (fun i => pop (w.2.2.2.1.getD i 0)) 8 / 2
theorem s_treaties (hx : iW hp o w) (ok : okW w) : cl pg 17 [.ref o] hp = q_i (nI (trs w)) hp := by
  rw [E17, B17_0 (nl_ref _)]
  have key : ∀ k i, i + k = 8 → dn pg 17 4 [some (.ref o), some (.int (nI (sm (fun i => pop (w.2.2.2.1.getD i 0)) i))), some (.int (nI i))] [] hp = q_i (nI (trs w)) hp := by
    intro k
    induction k with
    | zero =>
      intro i hi
      have : i = 8 := by omega
      subst this
      rw [B17_4, if_pos (by decide)]
      have := sm_le (f := fun i => pop (w.2.2.2.1.getD i 0)) (b := 8) 8 (fun i _ => pop_lt _)
      rw [pk_div (by omega) (by omega) (by omega)]
      rfl
    | succ k ih =>
      intro i hi
      have h8 : i < 8 := by omega
      rw [B17_4, if_neg (nI_ge h8 (by omega))]
      simp only [gW_3 hx, rW_f hx h8, s_bitCount (ok.2.1 i h8).2.2.2, er_i, nI_add]
      exact ih (i + 1) (by omega)
  exact key 8 0 rfl
/-- how many of a nation -/
def ppl (w : aW) (k : Nat) : Nat := sm (fun i => if w.1.getD i 0 = k then 1 else 0) 8
theorem s_peopleOf (hx : iW hp o w) (ok : okW w) {k : Nat} (hk : k < 2 ^ 30) : cl pg 59 [.ref o, .int (nI k)] hp = q_i (nI (ppl w k)) hp := by
  rw [E59, B59_0 (nl_int _)]
  have key : ∀ n i, i + n = 8 → dn pg 59 4 [some (.ref o), some (.int (nI k)), some (.int (nI (sm (fun i => if w.1.getD i 0 = k then 1 else 0) i))), some (.int (nI i))] [] hp = q_i (nI (ppl w k)) hp := by
    intro n
    induction n with
    | zero =>
      intro i hi
      have : i = 8 := by omega
      subst this
      rw [B59_4, if_pos (by decide)]
      rfl
    | succ n ih =>
      intro i hi
      have h8 : i < 8 := by omega
      have h4 := (ok.2.1 i h8).1
      rw [B59_4, if_neg (nI_ge h8 (by omega))]
      simp only [gW_0 hx, rW_n hx h8, B59_17 (nl_int _), nI_add]
      rw [← ih (i + 1) (by omega)]
      by_cases hk2 : w.1.getD i 0 = k
      · rw [if_neg (fun z => z (by rw [hk2]))]
        simp only [sm, hk2, ↓reduceIte]
      · rw [if_pos (fun z => hk2 ((nI_eq (by omega) (by omega)).mp z))]
        simp only [sm, hk2, ↓reduceIte]
  exact key 8 0 rfl
end WR
-- writes
def uN (w : aW) (x : List Nat) : aW := (x, w.2)
def uM (w : aW) (x : List Nat) : aW := (w.1, x, w.2.2)
def uT (w : aW) (x : List Nat) : aW := (w.1, w.2.1, x, w.2.2.2)
def uF (w : aW) (x : List Nat) : aW := (w.1, w.2.1, w.2.2.1, x, w.2.2.2.2)
def uO (w : aW) (x : Nat → Int32) : aW := (w.1, w.2.1, w.2.2.1, w.2.2.2.1, x, w.2.2.2.2.2)
def uV (w : aW) (x : Nat) : aW := (w.1, w.2.1, w.2.2.1, w.2.2.2.1, w.2.2.2.2.1, x, w.2.2.2.2.2.2)
def uH (w : aW) (x : Nat) : aW := (w.1, w.2.1, w.2.2.1, w.2.2.2.1, w.2.2.2.2.1, w.2.2.2.2.2.1, x, w.2.2.2.2.2.2.2)
def uD (w : aW) (x : Nat) : aW := (w.1, w.2.1, w.2.2.1, w.2.2.2.1, w.2.2.2.2.1, w.2.2.2.2.2.1, w.2.2.2.2.2.2.1, x)
theorem ok_uV {w : aW} (ok : okW w) {x : Nat} (h : x < 256) : okW (uV w x) := ⟨ok.1, ok.2.1, h, ok.2.2.2⟩
theorem ok_uH {w : aW} (ok : okW w) {x : Nat} (h : x < 100) : okW (uH w x) := ⟨ok.1, ok.2.1, ok.2.2.1, h, ok.2.2.2.2⟩
theorem ok_uD {w : aW} (ok : okW w) {x : Nat} (h : x < 100) : okW (uD w x) := ⟨ok.1, ok.2.1, ok.2.2.1, ok.2.2.2.1, h⟩
theorem ok_uO {w : aW} (ok : okW w) (x : Nat → Int32) : okW (uO w x) := ok
theorem ok_uN {w : aW} (ok : okW w) {i k : Nat} (hi : i < 8) (hk : k < 4) : okW (uN w (w.1.set i k)) := by
  refine ⟨⟨by show (w.1.set i k).length = 8; rw [List.length_set]; exact ok.1.1, ok.1.2⟩, fun j hj => ⟨?_, (ok.2.1 j hj).2⟩, ok.2.2⟩
  show (w.1.set i k).getD j 0 < 4
  rw [getD_set _ _ _ _ _ (by rw [ok.1.1]; exact hi)]
  split
  · exact hk
  · exact (ok.2.1 j hj).1
theorem ok_uM {w : aW} (ok : okW w) {i k : Nat} (hi : i < 8) (hk : k < 10) : okW (uM w (w.2.1.set i k)) := by
  refine ⟨⟨ok.1.1, by show (w.2.1.set i k).length = 8; rw [List.length_set]; exact ok.1.2.1, ok.1.2.2⟩, fun j hj => ⟨(ok.2.1 j hj).1, ?_, (ok.2.1 j hj).2.2⟩, ok.2.2⟩
  show (w.2.1.set i k).getD j 0 < 10
  rw [getD_set _ _ _ _ _ (by rw [ok.1.2.1]; exact hi)]
  split
  · exact hk
  · exact (ok.2.1 j hj).2.1
theorem ok_uT {w : aW} (ok : okW w) {i k : Nat} (hi : i < 8) (hk : k < 10) : okW (uT w (w.2.2.1.set i k)) := by
  refine ⟨⟨ok.1.1, ok.1.2.1, by show (w.2.2.1.set i k).length = 8; rw [List.length_set]; exact ok.1.2.2.1, ok.1.2.2.2⟩, fun j hj => ⟨(ok.2.1 j hj).1, (ok.2.1 j hj).2.1, ?_, (ok.2.1 j hj).2.2.2⟩, ok.2.2⟩
  show (w.2.2.1.set i k).getD j 0 < 10
  rw [getD_set _ _ _ _ _ (by rw [ok.1.2.2.1]; exact hi)]
  split
  · exact hk
  · exact (ok.2.1 j hj).2.2.1
theorem ok_uF {w : aW} (ok : okW w) {i k : Nat} (hi : i < 8) (hk : k < 256) : okW (uF w (w.2.2.2.1.set i k)) := by
  refine ⟨⟨ok.1.1, ok.1.2.1, ok.1.2.2.1, by show (w.2.2.2.1.set i k).length = 8; rw [List.length_set]; exact ok.1.2.2.2⟩, fun j hj => ⟨(ok.2.1 j hj).1, (ok.2.1 j hj).2.1, (ok.2.1 j hj).2.2.1, ?_⟩, ok.2.2⟩
  show (w.2.2.2.1.set i k).getD j 0 < 256
  rw [getD_set _ _ _ _ _ (by rw [ok.1.2.2.2]; exact hi)]
  split
  · exact hk
  · exact (ok.2.1 j hj).2.2.2
section WW
variable {hp : pH} {o i : Nat} {w : aW}
theorem s_setVeil (hx : iW hp o w) (hv : w.2.2.2.2.2.1 < 256) (hi : i < 8) (b : Bool) : cl pg 14 [.ref o, .int (nI i), .int (bI b)] hp = q_v (sW hp o (uV w (sb w.2.2.2.2.2.1 i b))) := by
  obtain ⟨n, m, t, f, fo, v, h, d⟩ := w
  rw [E14, B14_0]
  simp only [bI_0, gW_5 hx, B14_18]
  cases b
  · rw [if_pos rfl, (sb_I v hv i hi).2, pW_5 hx]
    rfl
  · rw [if_neg (by decide), (sb_I v hv i hi).1, pW_5 hx]
    rfl
theorem sh_I : ∀ i, i < 8 → nI 1 <<< (nI i &&& nI 31) = nI (2 ^ i) := by decide +kernel
/-- whom an annexation takes, as a bit -/
def tkb (w : aW) (i k : Nat) : Nat := if w.1.getD i 0 = k then 0 else 2 ^ i
theorem s_annex (hx : iW hp o w) (ok : okW w) (hi : i < 8) {k : Nat} (hk : k < 4) : cl pg 50 [.ref o, .int (nI i), .int (nI k)] hp = q_i (nI (tkb w i k)) (sW hp o (uN w (w.1.set i k))) := by
  obtain ⟨n, m, t, f, fo, v, h, d⟩ := w
  have h4 : n.getD i 0 < 4 := (ok.2.1 i hi).1
  rw [E50, B50_0]
  simp only [s_isO hi, er_i, one_ne, ↓reduceIte, gW_0 hx, rW_n hx hi, B50_9]
  unfold tkb
  by_cases he : n.getD i 0 = k
  · rw [if_neg (fun z => z (by rw [he])), if_pos he]
    have : n.set i k = n := set_same _ _ _ (by
      have hl : n.length = 8 := ok.1.1
      rw [List.getD_eq_getElem?_getD, List.getElem?_eq_getElem (by omega)] at he
      rw [List.getElem?_eq_getElem (by omega)]
      exact congrArg some he)
    show q_i (nI 0) hp = q_i (nI 0) (sW hp o (n.set i k, m, t, f, fo, v, h, d))
    rw [this, sW_i hx]
  · rw [if_pos (fun z => he ((nI_eq (by omega) (by omega)).mp z)), if_neg he, wW_n hx hi ok.1.1, sh_I i hi]
    rfl
theorem s_tearMore (hx : iW hp o w) (ok : okW w) (hi : i < 8) : cl pg 51 [.ref o, .int (nI i), .int (nI 1)] hp = q_v (sW hp o (uT w (w.2.2.1.set i (w.2.2.1.getD i 0 + 1)))) := by
  obtain ⟨n, m, t, f, fo, v, h, d⟩ := w
  rw [E51, B51_0]
  simp only [s_isO hi, er_i, one_ne, ↓reduceIte, gW_2 hx, rW_t hx hi, B51_11, nI_add]
  rw [wW_t hx hi ok.1.2.2.1]
  rfl
theorem s_tearLess (hx : iW hp o w) (ok : okW w) (hi : i < 8) (h0 : 0 < w.2.2.1.getD i 0) : cl pg 51 [.ref o, .int (nI i), .int (-1)] hp = q_v (sW hp o (uT w (w.2.2.1.set i (w.2.2.1.getD i 0 - 1)))) := by
  obtain ⟨n, m, t, f, fo, v, h, d⟩ := w
  have h0 : 0 < t.getD i 0 := h0
  rw [E51, B51_0]
  simp only [s_isO hi, er_i, one_ne, ↓reduceIte, gW_2 hx, rW_t hx hi, B51_11]
  rw [show t.getD i 0 = (t.getD i 0 - 1) + 1 by omega, pk_m1, wW_t hx hi ok.1.2.2.1]
  rfl
/-- a treaty put or taken, on both sides -/
def trF (w : aW) (a b : Nat) (is : Bool) : List Nat := (w.2.2.2.1.set a (sb (w.2.2.2.1.getD a 0) b is)).set b (sb ((w.2.2.2.1.set a (sb (w.2.2.2.1.getD a 0) b is)).getD b 0) a is)
theorem s_bind (hx : iW hp o w) (ok : okW w) {a b : Nat} (ha : a < 8) (hb : b < 8) (is : Bool) : cl pg 16 [.ref o, .int (nI a), .int (nI b), .int (bI is)] hp = q_v (sW hp o (uF w (trF w a b is))) := by
  obtain ⟨n, m, t, f, fo, v, h, d⟩ := w
  have h1 : f.getD a 0 < 256 := (ok.2.1 a ha).2.2.2
  have hl : f.length = 8 := ok.1.2.2.2
  have h2 : (f.set a (sb (f.getD a 0) b is)).getD b 0 < 256 := by
    rw [getD_set _ _ _ _ _ (by omega)]
    split
    · exact sb_lt' h1 hb is
    · exact (ok.2.1 b hb).2.2.2
  have hl2 : (f.set a (sb (f.getD a 0) b is)).length = 8 := by rw [List.length_set]; exact hl
  rw [E16, B16_0]
  simp only [s_isO ha, s_isO hb, er_i, one_ne, not_false_eq_true, ↓reduceIte, gW_3 hx, rW_f hx ha, bI_0, B16_31]
  cases is
  · simp only [↓reduceIte]
    rw [(sb_I _ h1 b hb).2, wW_f hx ha hl]
    simp only [gW_3s hx, rW_fs hx _ hb, B16_56]
    rw [(sb_I _ h2 a ha).2, wW_fs hx hb hl2]
    rfl
  · simp only [Bool.true_eq_false, ↓reduceIte]
    rw [(sb_I _ h1 b hb).1, wW_f hx ha hl]
    simp only [gW_3s hx, rW_fs hx _ hb, B16_56]
    rw [(sb_I _ h2 a ha).1, wW_fs hx hb hl2]
    rfl
end WW
