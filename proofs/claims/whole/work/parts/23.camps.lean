/-! The class's World: who sees whom; camps. -/
theorem bv_nI (n : Nat) : (nI n).toBitVec = BitVec.ofNat 32 n := rfl
theorem tb_lt {a i : Nat} (ha : a < 256) (hi : 8 ≤ i) : a.testBit i = false := Nat.testBit_lt_two_pow (Nat.lt_of_lt_of_le ha (by
  have : 2 ^ 8 ≤ 2 ^ i := Nat.pow_le_pow_right (by omega) hi
  omega))
theorem tb_255 {i : Nat} (hi : i < 8) : (255 : Nat).testBit i = true := by
  revert i
  decide
theorem and_I (a b : Nat) : nI a &&& nI b = nI (a &&& b) := by
  apply Int32.toBitVec_inj.mp
  rw [Int32.toBitVec_and, bv_nI, bv_nI, bv_nI]
  apply BitVec.eq_of_getLsbD_eq
  intro i hi
  simp [BitVec.getLsbD_ofNat, hi]
theorem or2_I (a b : Nat) : nI a ||| nI b = nI (a ||| b) := by
  apply Int32.toBitVec_inj.mp
  rw [Int32.toBitVec_or, bv_nI, bv_nI, bv_nI]
  apply BitVec.eq_of_getLsbD_eq
  intro i hi
  simp [BitVec.getLsbD_ofNat, hi]
theorem andn_I {a b : Nat} (ha : a < 256) : nI a &&& (nI b ^^^ (-1)) = nI (a &&& (255 ^^^ b)) := by
  apply Int32.toBitVec_inj.mp
  rw [Int32.toBitVec_and, Int32.toBitVec_xor, bv_nI, bv_nI, bv_nI, show (-1 : Int32).toBitVec = BitVec.allOnes 32 from rfl]
  apply BitVec.eq_of_getLsbD_eq
  intro i hi
  simp only [BitVec.getLsbD_and, BitVec.getLsbD_xor, BitVec.getLsbD_ofNat, BitVec.getLsbD_allOnes, hi, decide_true, Bool.true_and, Nat.testBit_and, Nat.testBit_xor]
  by_cases h8 : i < 8
  · rw [tb_255 h8]
    cases a.testBit i <;> cases b.testBit i <;> rfl
  · rw [tb_lt ha (by omega)]
    rfl
theorem and_lt {a b : Nat} (ha : a < 256) : a &&& b < 256 := Nat.lt_of_le_of_lt Nat.and_le_left ha
theorem or_lt2 {a b : Nat} (ha : a < 256) (hb : b < 256) : a ||| b < 256 := Nat.or_lt_two_pow (n := 8) ha hb
/-- who is seen round the ring: the thickness so far, the bits -/
def srs (w : aW) (a st : Nat) : Nat → Nat
  | 0 => thk w a
  | k + 1 => srs w a st k + thk w ((a + (k + 1) * st) % 8)
def srb (w : aW) (a st e : Nat) : Nat → Nat
  | 0 => 0
  | k + 1 => srb w a st e k ||| (if srs w a st (k + 1) ≤ e then 2 ^ ((a + (k + 1) * st) % 8) else 0)
theorem p2_lt {i : Nat} (hi : i < 8) : 2 ^ i < 256 := by
  have : 2 ^ i ≤ 2 ^ 7 := Nat.pow_le_pow_right (by omega) (by omega)
  omega
theorem srb_lt (w : aW) (a st e : Nat) : ∀ k, srb w a st e k < 256
  | 0 => by show 0 < 256; omega
  | k + 1 => by
    unfold srb
    refine or_lt2 (srb_lt w a st e k) ?_
    split
    · exact p2_lt (Nat.mod_lt _ (by omega))
    · omega
theorem srs_lt {w : aW} (ok : okW w) {a : Nat} (ha : a < 8) (st : Nat) : ∀ k, srs w a st k ≤ (k + 1) * 10
  | 0 => by have := thk_lt ok ha; show thk w a ≤ _; omega
  | k + 1 => by
    have := srs_lt ok ha st k
    have := thk_lt ok (i := (a + (k + 1) * st) % 8) (Nat.mod_lt _ (by omega))
    unfold srs
    omega
section SR
variable {hp : pH} {o a st e : Nat} {w : aW}
theorem s_seenRound (hx : iW hp o w) (ok : okW w) (ha : a < 8) (hst : st < 8) (he : e < 100) : cl pg 63 [.ref o, .int (nI a), .int (nI st), .int (nI e)] hp = q_i (nI (srb w a st e 7)) hp := by
  rw [E63, B63_0 (nl_int _), vW hx, s_thickOf hx ok ha, er_i]
  have key : ∀ k i, i + k = 7 → ∀ v7, dn pg 63 8 [some (.ref o), some (.int (nI a)), some (.int (nI st)), some (.int (nI e)), some (.int (nI (srs w a st i))), some (.int (nI (srb w a st e i))), some (.int (nI (i + 1))), v7] [] hp = q_i (nI (srb w a st e 7)) hp := by
    intro k
    induction k with
    | zero =>
      intro i hi v7
      have : i = 7 := by omega
      subst this
      rw [B63_8, if_pos (by decide)]
    | succ k ih =>
      intro i hi v7
      have hat : (a + (i + 1) * st) % 8 < 8 := Nat.mod_lt _ (by omega)
      have hm : (i + 1) * st ≤ 8 * 8 := Nat.mul_le_mul (by omega) (by omega)
      have hs1 := srs_lt ok ha st (i + 1)
      have hsb := srb_lt w a st e i
      have eat : (nI a + nI (i + 1) * nI st) % nI 8 = nI ((a + (i + 1) * st) % 8) := by
        rw [pk_mul, nI_add, rem_I (by omega) (by omega) (by omega)]
      have es : srs w a st i + thk w ((a + (i + 1) * st) % 8) = srs w a st (i + 1) := rfl
      rw [B63_8, if_neg (nI_ge (by omega) (by omega)), eat, vW hx, s_thickOf hx ok hat, er_i, nI_add, es]
      simp only [B63_34 (nl_int _), nI_add]
      rw [← ih (i + 1) (by omega) (some (.int (nI ((a + (i + 1) * st) % 8))))]
      by_cases hle : srs w a st (i + 1) ≤ e
      · rw [if_neg (nI_nlt hle (by omega)), sh_I _ hat, or2_I]
        have : srb w a st e (i + 1) = srb w a st e i ||| 2 ^ ((a + (i + 1) * st) % 8) := by
          show srb w a st e i ||| (if _ then _ else _) = _
          rw [if_pos hle]
        rw [this]
      · rw [if_pos (nI_lt (by omega) (by omega)), or2_I]
        have : srb w a st e (i + 1) = srb w a st e i ||| 0 := by
          show srb w a st e i ||| (if _ then _ else _) = _
          rw [if_neg hle]
        rw [this]
  exact key 7 0 rfl _
/-- of other nations than a -/
def fob (w : aW) (a : Nat) : Nat → Nat
  | 0 => 0
  | k + 1 => fob w a k ||| (if w.1.getD a 0 = w.1.getD k 0 then 0 else 2 ^ k)
theorem fob_lt (w : aW) (a : Nat) : ∀ k, k ≤ 8 → fob w a k < 256
  | 0, _ => by show 0 < 256; omega
  | k + 1, h => by
    unfold fob
    refine or_lt2 (fob_lt w a k (by omega)) ?_
    split
    · omega
    · exact p2_lt (by omega)
def foe (w : aW) (a : Nat) : Nat := fob w a 8 &&& (255 ^^^ w.2.2.2.1.getD a 0)
theorem foe_lt (w : aW) (a : Nat) : foe w a < 256 := and_lt (fob_lt w a 8 (by omega))
theorem s_countFoes (hx : iW hp o w) (ok : okW w) : ∃ fo', cl pg 66 [.ref o] hp = q_v (sW hp o (uO w fo')) ∧ ∀ i, i < 8 → fo' i = nI (foe w i) := by
  have key : ∀ k i, i + k = 8 → ∀ (fo : Nat → Int32) (v2 v3 : pO), (∀ j, j < i → fo j = nI (foe w j)) → ∃ fo', dn pg 66 2 [some (.ref o), some (.int (nI i)), v2, v3] [] (sW hp o (uO w fo)) = q_v (sW hp o (uO w fo')) ∧ ∀ i, i < 8 → fo' i = nI (foe w i) := by
    intro k
    induction k with
    | zero =>
      intro i hi fo v2 v3 hf
      have : i = 8 := by omega
      subst this
      exact ⟨fo, by rw [B66_2, if_pos (by decide)], hf⟩
    | succ k ih =>
      intro i hi fo v2 v3 hf
      have h8 : i < 8 := by omega
      have inner : ∀ n j, j + n = 8 → dn pg 66 9 [some (.ref o), some (.int (nI i)), some (.int (nI (fob w i j))), some (.int (nI j))] [] (sW hp o (uO w fo)) = dn pg 66 9 [some (.ref o), some (.int (nI i)), some (.int (nI (fob w i 8))), some (.int (nI 8))] [] (sW hp o (uO w fo)) := by
        intro n
        induction n with
        | zero =>
          intro j hj
          have : j = 8 := by omega
          subst this
          rfl
        | succ n ihn =>
          intro j hj
          have hj8 : j < 8 := by omega
          have b1 := (ok.2.1 i h8).1
          have b2 := (ok.2.1 j hj8).1
          rw [← ihn (j + 1) (by omega), B66_9, if_neg (nI_ge hj8 (by omega)), gW_0s hx, rW_ns hx _ h8, gW_0s hx, rW_ns hx _ hj8]
          simp only [B66_27 (nl_int _), nI_add]
          show (if nI (w.1.getD i 0) = nI (w.1.getD j 0) then _ else _) = _
          have e : fob w i (j + 1) = fob w i j ||| (if w.1.getD i 0 = w.1.getD j 0 then 0 else 2 ^ j) := rfl
          rw [e]
          by_cases hn : w.1.getD i 0 = w.1.getD j 0
          · rw [if_pos (by rw [hn]), if_pos hn, or2_I]
          · rw [if_neg (fun z => hn ((nI_eq (by omega) (by omega)).mp z)), if_neg hn, sh_I j hj8, or2_I]
      have hin := inner 8 0 rfl
      have hg := (ok.2.1 i h8).2.2.2
      obtain ⟨fo', h1, h2⟩ := ih (i + 1) (by omega) (upd fo i (nI (foe w i))) (some (.int (nI (fob w i 8)))) (some (.int (nI 8))) (fun j hj => by
        by_cases hji : j = i
        · subst hji
          exact pk_us
        · rw [pk_un hji]
          exact hf j (by omega))
      refine ⟨fo', ?_, h2⟩
      rw [B66_2, if_neg (nI_ge h8 (by omega))]
      refine hin.trans ?_
      rw [B66_9, if_pos (by decide), gW_4s hx, gW_3s hx, rW_fs hx _ h8]
      show qx_i _ (o + 5) 0 (nI i) (nI (fob w i 8) &&& (nI (w.2.2.2.1.getD i 0) ^^^ (-1))) _ = _
      rw [andn_I (fob_lt w i 8 (by omega))]
      obtain ⟨n, m, t, f, fo0, v, h, d⟩ := w
      show qx_i (sW hp o (n, m, t, f, fo, v, h, d)) (o + 5) 0 (nI i) _ _ = _
      rw [wW_fos hx h8, nI_add]
      exact h1
  have e : uO w w.2.2.2.2.1 = w := rfl
  obtain ⟨fo', h1, h2⟩ := key 8 0 rfl w.2.2.2.2.1 none none (fun j hj => by omega)
  refine ⟨fo', ?_, h2⟩
  rw [e, sW_i hx] at h1
  rw [E66, B66_0 (nl_ref _)]
  exact h1
def ow (camp i : Nat) : Nat := if hs camp i = true then camp else 255 &&& (255 ^^^ camp)
theorem ow_lt {camp : Nat} (hc : camp < 256) (i : Nat) : ow camp i < 256 := by
  unfold ow
  split
  · exact hc
  · exact and_lt (by omega)
/-- treaties across and foes within -/
def qrl (w : aW) (camp : Nat) : Nat := sm (fun i => pop (w.2.2.2.1.getD i 0 &&& (255 ^^^ ow camp i)) + pop (foe w i &&& ow camp i)) 8 / 2
theorem s_quarrels (hx : iW hp o w) (ok : okW w) (hf : ∀ i, i < 8 → w.2.2.2.2.1 i = nI (foe w i)) {camp : Nat} (hc : camp < 256) : cl pg 67 [.ref o, .int (nI camp)] hp = q_i (nI (qrl w camp)) hp := by
  rw [E67, B67_0 (nl_int _)]
  have key : ∀ k i, i + k = 8 → ∀ v4, dn pg 67 4 [some (.ref o), some (.int (nI camp)), some (.int (nI (sm (fun i => pop (w.2.2.2.1.getD i 0 &&& (255 ^^^ ow camp i)) + pop (foe w i &&& ow camp i)) i))), some (.int (nI i)), v4] [] hp = q_i (nI (qrl w camp)) hp := by
    intro k
    induction k with
    | zero =>
      intro i hi v4
      have : i = 8 := by omega
      subst this
      have hb := sm_le (f := fun i => pop (w.2.2.2.1.getD i 0 &&& (255 ^^^ ow camp i)) + pop (foe w i &&& ow camp i)) (b := 16) 8 (fun i _ => by
        have a1 := pop_lt (w.2.2.2.1.getD i 0 &&& (255 ^^^ ow camp i))
        have a2 := pop_lt (foe w i &&& ow camp i)
        omega)
      rw [B67_4, if_pos (by decide), pk_div (by omega) (by omega) (by omega)]
      rfl
    | succ k ih =>
      intro i hi v4
      have h8 : i < 8 := by omega
      have ho := ow_lt hc i
      have hfi := (ok.2.1 i h8).2.2.2
      have e18 : dn pg 67 18 [some (.ref o), some (.int (nI camp)), some (.int (nI (sm (fun i => pop (w.2.2.2.1.getD i 0 &&& (255 ^^^ ow camp i)) + pop (foe w i &&& ow camp i)) i))), some (.int (nI i)), v4] [.int (nI (ow camp i))] hp = q_i (nI (qrl w camp)) hp := by
        rw [B67_18 (nl_int _), gW_3 hx, rW_f hx h8, andn_I hfi, s_bitCount (and_lt hfi), er_i, gW_4 hx, rW_fo hx h8, hf i h8, and_I, s_bitCount (and_lt (foe_lt w i)), er_i, nI_add, nI_add, nI_add]
        exact ih (i + 1) (by omega) _
      rw [B67_4, if_neg (nI_ge h8 (by omega)), s_has hc h8, er_i]
      simp only [bI_0]
      by_cases hb : hs camp i = true
      · rw [if_neg (by rw [hb]; simp)]
        have : ow camp i = camp := by unfold ow; rw [if_pos hb]
        rw [this] at e18
        exact e18
      · rw [if_pos (by simpa using hb), andn_I (by omega)]
        have : ow camp i = 255 &&& (255 ^^^ camp) := by unfold ow; rw [if_neg hb]
        rw [this] at e18
        exact e18
  exact key 8 0 rfl _
/-- the least of those by which Q is least, among 1, 3, 5 .. -/
def cal (Q : Nat → Nat) : Nat → Nat
  | 0 => 1
  | k + 1 => if Q (2 * k + 3) < Q (cal Q k) then 2 * k + 3 else cal Q k
theorem cal_lt (Q : Nat → Nat) : ∀ k, cal Q k ≤ 2 * k + 1
  | 0 => Nat.le_refl 1
  | k + 1 => by
    have := cal_lt Q k
    unfold cal
    split <;> omega
theorem cal_ext {Q P : Nat → Nat} : ∀ k, (∀ c, c < 2 * k + 2 → Q c = P c) → cal Q k = cal P k
  | 0, _ => rfl
  | k + 1, h => by
    have h1 := cal_ext k (fun c hc => h c (by omega))
    have h2 := cal_lt P k
    unfold cal
    rw [h1, h (2 * k + 3) (by omega), h (cal P k) (by omega)]
theorem qrl_le (w : aW) (camp : Nat) : qrl w camp ≤ 64 := by
  have hb := sm_le (f := fun i => pop (w.2.2.2.1.getD i 0 &&& (255 ^^^ ow camp i)) + pop (foe w i &&& ow camp i)) (b := 16) 8 (fun i _ => by
    have a1 := pop_lt (w.2.2.2.1.getD i 0 &&& (255 ^^^ ow camp i))
    have a2 := pop_lt (foe w i &&& ow camp i)
    omega)
  unfold qrl
  omega
theorem s_calmestCamp (hx : iW hp o w) (ok : okW w) : ∃ fo', cl pg 65 [.ref o] hp = q_i (nI (cal (qrl w) 127)) (sW hp o (uO w fo')) ∧ ∀ i, i < 8 → fo' i = nI (foe w i) := by
  obtain ⟨fo', h1, h2⟩ := s_countFoes hx ok
  refine ⟨fo', ?_, h2⟩
  have hx' : iW (sW hp o (uO w fo')) o (uO w fo') := iW_s hx
  have ok' : okW (uO w fo') := ok_uO ok fo'
  have hq : ∀ c, qrl (uO w fo') c = qrl w c := fun _ => rfl
  have hqs : ∀ camp, camp < 256 → cl pg 67 [.ref o, .int (nI camp)] (sW hp o (uO w fo')) = q_i (nI (qrl w camp)) (sW hp o (uO w fo')) := fun camp hc => s_quarrels hx' ok' h2 hc
  rw [E65, B65_0, vW hx, h1, er_v, vW_s hx, hqs 1 (by omega), er_i]
  have key : ∀ k i, i + k = 127 → ∀ v4, dn pg 65 10 [some (.ref o), some (.int (nI (cal (qrl w) i))), some (.int (nI (qrl w (cal (qrl w) i)))), some (.int (nI (2 * i + 3))), v4] [] (sW hp o (uO w fo')) = q_i (nI (cal (qrl w) 127)) (sW hp o (uO w fo')) := by
    intro k
    induction k with
    | zero =>
      intro i hi v4
      have : i = 127 := by omega
      subst this
      rw [B65_10, if_pos (by decide)]
    | succ k ih =>
      intro i hi v4
      have c1 := qrl_le w (2 * i + 3)
      have c2 := qrl_le w (cal (qrl w) i)
      rw [B65_10, if_neg (nI_nlt (by omega) (by omega)), vW_s hx, hqs _ (by omega), er_i]
      simp only [B65_24 (nl_int _), nI_add]
      have e : cal (qrl w) (i + 1) = if qrl w (2 * i + 3) < qrl w (cal (qrl w) i) then 2 * i + 3 else cal (qrl w) i := rfl
      have := ih (i + 1) (by omega) (some (.int (nI (qrl w (2 * i + 3)))))
      rw [show 2 * (i + 1) + 3 = 2 * i + 3 + 2 by omega, e] at this
      rw [← this]
      by_cases hlt : qrl w (2 * i + 3) < qrl w (cal (qrl w) i)
      · rw [if_neg (nI_ge hlt (by omega)), if_pos hlt]
      · rw [if_pos (nI_le (by omega) (by omega)), if_neg hlt]
  exact key 127 0 rfl _
end SR
