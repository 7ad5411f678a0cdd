/-! The reference: who sees whom; camps. -/
def wyI (st : Nat) : Int32 := if st = 1 then nI 1 else -1
theorem wy_ix : ∀ a, a < 8 → ∀ i, i < 8 → ((nI a + nI i * wyI 1) + nI 64) % nI 8 = nI ((a + i * 1) % 8) ∧ ((nI a + nI i * wyI 7) + nI 64) % nI 8 = nI ((a + i * 7) % 8) := by decide +kernel
theorem wy_ix2 {a i st : Nat} (ha : a < 8) (hi : i < 8) (hs : st = 1 ∨ st = 7) : ((nI a + nI i * wyI st) + nI 64) % nI 8 = nI ((a + i * st) % 8) := by
  rcases hs with h | h
  · rw [h]
    exact (wy_ix a ha i hi).1
  · rw [h]
    exact (wy_ix a ha i hi).2
section MSE
variable {hp : pH} {o a st e : Nat} {x : aM}
theorem s_seenBy (hx : iM hp o x) (ok : okW (mW x)) (ha : a < 8) (hst : st = 1 ∨ st = 7) (he : e < 100) : cl pg 148 [.ref o, .int (nI a), .int (nI e), .int (wyI st)] hp = q_i (nI (srb (mW x) a st e 7)) hp := by
  rw [E148, B148_0 (nl_int _), vM hx, s_mthick hx ok ha, er_i]
  have key : ∀ k i, i + k = 7 → ∀ v7, dn pg 148 8 [some (.ref o), some (.int (nI a)), some (.int (nI e)), some (.int (wyI st)), some (.int (nI (srb (mW x) a st e i))), some (.int (nI (srs (mW x) a st i))), some (.int (nI (i + 1))), v7] [] hp = q_i (nI (srb (mW x) a st e 7)) hp := by
    intro k
    induction k with
    | zero =>
      intro i hi v7
      have : i = 7 := by omega
      subst this
      rw [B148_8, if_pos (by decide)]
    | succ k ih =>
      intro i hi v7
      have hat : (a + (i + 1) * st) % 8 < 8 := Nat.mod_lt _ (by omega)
      have hs1 := srs_lt ok ha st (i + 1)
      have eat := wy_ix2 (a := a) (i := i + 1) ha (by omega) hst
      have es : srs (mW x) a st i + thk (mW x) ((a + (i + 1) * st) % 8) = srs (mW x) a st (i + 1) := rfl
      rw [B148_8, if_neg (nI_ge (by omega) (by omega)), eat, vM hx, s_mthick hx ok hat, er_i, nI_add, es]
      simp only [B148_36 (nl_int _) (nl_int _), nI_add]
      rw [← ih (i + 1) (by omega) (some (.int (nI ((a + (i + 1) * st) % 8))))]
      by_cases hle : srs (mW x) a st (i + 1) ≤ e
      · rw [if_neg (nI_nlt hle (by omega)), sh_I _ hat, or2_I]
        have : srb (mW x) a st e (i + 1) = srb (mW x) a st e i ||| 2 ^ ((a + (i + 1) * st) % 8) := by
          show srb (mW x) a st e i ||| (if _ then _ else _) = _
          rw [if_pos hle]
        rw [this]
      · rw [if_pos (nI_lt (by omega) (by omega)), or2_I]
        have : srb (mW x) a st e (i + 1) = srb (mW x) a st e i ||| 0 := by
          show srb (mW x) a st e i ||| (if _ then _ else _) = _
          rw [if_neg hle]
        rw [this]
  exact key 7 0 rfl _
/-- who is seen -/
def seV (w : aW) (a e : Nat) : Nat := srb w a 1 e 7 ||| srb w a 7 e 7
theorem s_msees (hx : iM hp o x) (ok : okW (mW x)) (ha : a < 8) (he : e ≤ 99) : cl pg 147 [.ref o, .int (nI a), .int (nI e)] hp = q_i (nI (seV (mW x) a e)) hp := by
  rw [E147, B147_0, moT (rgT (Nat.zero_le _) (by omega) (by decide)), er_i, if_pos n10, inT (rgT (Nat.zero_le _) he (by decide)) (by decide) (by decide), er_i, if_neg n10, vM hx, show nI 1 = wyI 1 from rfl, s_seenBy hx ok ha (Or.inl rfl) (by omega), er_i, vM hx, show (-1 : Int32) = wyI 7 from rfl, s_seenBy hx ok ha (Or.inr rfl) (by omega), er_i, B147_24, or2_I]
  rfl
end MSE
-- sums over pairs
theorem sm_add (f g : Nat → Nat) : ∀ n, sm (fun i => f i + g i) n = sm f n + sm g n
  | 0 => rfl
  | n + 1 => by
    show sm (fun i => f i + g i) n + (f n + g n) = sm f n + f n + (sm g n + g n)
    rw [sm_add f g n]
    omega
theorem sm_sq {t : Nat → Nat → Nat} : ∀ n, (∀ i j, i < n → j < n → t i j = t j i) → (∀ i, i < n → t i i = 0) → sm (fun i => sm (t i) n) n = 2 * sm (fun b => sm (fun a => t a b) b) n
  | 0, _, _ => rfl
  | n + 1, h, h0 => by
    have ih := sm_sq (t := t) n (fun i j hi hj => h i j (by omega) (by omega)) (fun i hi => h0 i (by omega))
    have e1 : sm (fun i => sm (t i) (n + 1)) n = sm (fun i => sm (t i) n) n + sm (fun i => t i n) n := sm_add (fun i => sm (t i) n) (fun i => t i n) n
    have e2 : sm (t n) n = sm (fun i => t i n) n := sm_ext n (fun i hi => h n i (by omega) (by omega))
    show sm (fun i => sm (t i) (n + 1)) n + (sm (t n) n + t n n) = 2 * (sm (fun b => sm (fun a => t a b) b) n + sm (fun a => t a n) n)
    rw [e1, e2, ih, h0 n (by omega)]
    omega
theorem cnt_sm (p : Nat → Bool) : ∀ n, (List.range n).countP p = sm (fun i => if p i = true then 1 else 0) n
  | 0 => rfl
  | n + 1 => by
    rw [List.range_succ, List.countP_append, cnt_sm p n]
    show _ = sm _ n + _
    congr 1
    simp only [List.countP_cons, List.countP_nil, Nat.zero_add]
theorem pop_sm (v : Nat) : pop v = sm (fun i => if hs v i = true then 1 else 0) 8 := cnt_sm (fun i => hs v i) 8
theorem hs_and (a b i : Nat) : hs (a &&& b) i = (hs a i && hs b i) := by
  unfold hs
  exact Nat.testBit_and a b i
theorem hs_not (a : Nat) {i : Nat} (hi : i < 8) : hs (255 ^^^ a) i = !hs a i := by
  unfold hs
  rw [Nat.testBit_xor, tb_255 hi]
  cases a.testBit i <;> rfl
theorem hs_255 {i : Nat} (hi : i < 8) : hs 255 i = true := tb_255 hi
theorem hs_p2 {i j : Nat} (hi : i < 8) (hj : j < 8) : hs (2 ^ i) j = decide (j = i) := hs_2 i hi j hj
theorem hs_or (a b i : Nat) : hs (a ||| b) i = (hs a i || hs b i) := by
  unfold hs
  exact Nat.testBit_or a b i
theorem fob_hs (w : aW) (a : Nat) {j : Nat} (hj : j < 8) : ∀ k, k ≤ 8 → hs (fob w a k) j = (decide (j < k) && !decide (w.1.getD a 0 = w.1.getD j 0))
  | 0, _ => by
    show hs 0 j = _
    rw [hs_0]
    rfl
  | k + 1, hk => by
    have ih := fob_hs w a hj k (by omega)
    unfold fob
    rw [hs_or, ih]
    by_cases h1 : w.1.getD a 0 = w.1.getD k 0
    · rw [if_pos h1, hs_0]
      by_cases hjk : j = k
      · subst hjk
        simp only [h1]
        simp
      · have : decide (j < k + 1) = decide (j < k) := decide_eq_decide.mpr (by omega)
        rw [this, Bool.or_false]
    · rw [if_neg h1, hs_p2 (by omega) hj]
      by_cases hjk : j = k
      · subst hjk
        simp
        exact h1
      · have : decide (j < k + 1) = decide (j < k) := decide_eq_decide.mpr (by omega)
        rw [this, decide_eq_false hjk, Bool.or_false]
theorem foe_hs (w : aW) (a : Nat) {j : Nat} (hj : j < 8) : hs (foe w a) j = (!decide (w.1.getD a 0 = w.1.getD j 0) && !hs (w.2.2.2.1.getD a 0) j) := by
  unfold foe
  rw [hs_and, fob_hs w a hj 8 (Nat.le_refl _), hs_not _ hj, decide_eq_true hj, Bool.true_and]
theorem ow_hs (camp i : Nat) {j : Nat} (hj : j < 8) : hs (ow camp i) j = (hs camp j == hs camp i) := by
  unfold ow
  by_cases h : hs camp i = true
  · rw [if_pos h, h]
    cases hs camp j <;> rfl
  · rw [if_neg h, hs_and, hs_255 hj, hs_not _ hj]
    have : hs camp i = false := by simpa using h
    rw [this]
    cases hs camp j <;> rfl
/-- treaties are kept on both sides -/
def symW (w : aW) : Prop := ∀ i j, i < 8 → j < 8 → hs (w.2.2.2.1.getD i 0) j = hs (w.2.2.2.1.getD j 0) i
/-- a quarrel of two -/
def qr2 (w : aW) (camp a b : Nat) : Nat := if ((!(hs camp a == hs camp b)) && hs (w.2.2.2.1.getD a 0) b) = true ∨ ((hs camp a == hs camp b) && (!hs (w.2.2.2.1.getD a 0) b && !decide (w.1.getD a 0 = w.1.getD b 0))) = true then 1 else 0
theorem qr2_sym {w : aW} (hs' : symW w) (camp : Nat) {a b : Nat} (ha : a < 8) (hb : b < 8) : qr2 w camp a b = qr2 w camp b a := by
  unfold qr2
  rw [hs' a b ha hb, Bool.beq_comm (a := hs camp a)]
  have : decide (w.1.getD a 0 = w.1.getD b 0) = decide (w.1.getD b 0 = w.1.getD a 0) := decide_eq_decide.mpr eq_comm
  rw [this]
theorem qr2_0 (w : aW) (camp a : Nat) : qr2 w camp a a = 0 := by
  unfold qr2
  simp
theorem qrl_2 {w : aW} (hs' : symW w) (camp : Nat) : qrl w camp = sm (fun b => sm (fun a => qr2 w camp a b) b) 8 := by
  have e1 : ∀ i, i < 8 → pop (w.2.2.2.1.getD i 0 &&& (255 ^^^ ow camp i)) + pop (foe w i &&& ow camp i) = sm (qr2 w camp i) 8 := by
    intro i hi
    rw [pop_sm, pop_sm, ← sm_add]
    apply sm_ext
    intro j hj
    rw [hs_and, hs_and, hs_not _ hj, ow_hs _ _ hj, foe_hs _ _ hj, Bool.beq_comm (a := hs camp j)]
    unfold qr2
    cases (hs camp i == hs camp j) <;> cases hs (w.2.2.2.1.getD i 0) j <;> cases decide (w.1.getD i 0 = w.1.getD j 0) <;> rfl
  unfold qrl
  rw [sm_ext 8 e1, sm_sq 8 (fun i j hi hj => qr2_sym hs' camp hi hj) (fun i _ => qr2_0 w camp i)]
  omega
section MCA
variable {hp : pH} {o : Nat} {x : aM}
theorem s_mquarrels (hx : iM hp o x) (ok : okW (mW x)) (hsy : symW (mW x)) {camp : Nat} (hc : camp < 256) : cl pg 150 [.ref o, .int (nI camp)] hp = q_i (nI (qrl (mW x) camp)) hp := by
  rw [qrl_2 hsy]
  have bnd : ∀ b, b ≤ 8 → sm (fun b => sm (fun a => qr2 (mW x) camp a b) b) b ≤ 64 := by
    intro b hb
    have := sm_le (f := fun b => sm (fun a => qr2 (mW x) camp a b) b) (b := 8) b (fun i hi => by
      have := sm_le (f := fun a => qr2 (mW x) camp a i) (b := 1) i (fun j _ => by unfold qr2; split <;> omega)
      omega)
    omega
  have out : ∀ k b, b + k = 8 → ∀ v4 v5 v6, dn pg 150 4 [some (.ref o), some (.int (nI camp)), some (.int (nI (sm (fun b => sm (fun a => qr2 (mW x) camp a b) b) b))), some (.int (nI b)), v4, v5, v6] [] hp = q_i (nI (sm (fun b => sm (fun a => qr2 (mW x) camp a b) b) 8)) hp := by
    intro k
    induction k with
    | zero =>
      intro b hb v4 v5 v6
      have : b = 8 := by omega
      subst this
      rw [B150_4, if_pos (by decide)]
    | succ k ih =>
      intro b hb v4 v5 v6
      have h8 : b < 8 := by omega
      have inn : ∀ n a, a + n = b → ∀ v5 v6, dn pg 150 9 [some (.ref o), some (.int (nI camp)), some (.int (nI (sm (fun b => sm (fun a => qr2 (mW x) camp a b) b) b + sm (fun a => qr2 (mW x) camp a b) a))), some (.int (nI b)), some (.int (nI a)), v5, v6] [] hp = q_i (nI (sm (fun b => sm (fun a => qr2 (mW x) camp a b) b) 8)) hp := by
        intro n
        induction n with
        | zero =>
          intro a ha v5 v6
          have : a = b := by omega
          subst this
          rw [B150_9 (nl_int _), if_pos (nI_le (Nat.le_refl _) (by omega)), nI_add]
          exact ih (a + 1) (by omega) _ _ _
        | succ n ihn =>
          intro a ha v5 v6
          have ha8 : a < 8 := by omega
          have hfa : x.1.2.2.2.1.getD a 0 < 256 := (ok.2.1 a ha8).2.2.2
          have b1 := (ok.2.1 a ha8).1
          have b2 := (ok.2.1 b h8).1
          have e51 : ∀ s, s = qr2 (mW x) camp a b → ∀ v5 v6, dn pg 150 51 [some (.ref o), some (.int (nI camp)), some (.int (nI (sm (fun b => sm (fun a => qr2 (mW x) camp a b) b) b + sm (fun a => qr2 (mW x) camp a b) a))), some (.int (nI b)), some (.int (nI a)), v5, v6] [.int (nI s), .int (nI (sm (fun b => sm (fun a => qr2 (mW x) camp a b) b) b + sm (fun a => qr2 (mW x) camp a b) a))] hp = q_i (nI (sm (fun b => sm (fun a => qr2 (mW x) camp a b) b) 8)) hp := by
            intro s hs v5 v6
            have es : sm (fun a => qr2 (mW x) camp a b) (a + 1) = sm (fun a => qr2 (mW x) camp a b) a + qr2 (mW x) camp a b := rfl
            have := ihn (a + 1) (by omega) v5 v6
            rw [es, ← hs] at this
            rw [B150_51 (nl_int _) (nl_int _), nI_add, nI_add, ← this, Nat.add_assoc]
          have e22 : ∀ q : Bool, q = !(hs camp a == hs camp b) → ∀ v5 v6, dn pg 150 22 [some (.ref o), some (.int (nI camp)), some (.int (nI (sm (fun b => sm (fun a => qr2 (mW x) camp a b) b) b + sm (fun a => qr2 (mW x) camp a b) a))), some (.int (nI b)), some (.int (nI a)), v5, v6] [.int (bI q)] hp = q_i (nI (sm (fun b => sm (fun a => qr2 (mW x) camp a b) b) 8)) hp := by
            intro q hq v5 v6
            have e35 : ∀ g : Bool, g = hs ((mW x).2.2.2.1.getD a 0) b → (q && g) = false → dn pg 150 35 [some (.ref o), some (.int (nI camp)), some (.int (nI (sm (fun b => sm (fun a => qr2 (mW x) camp a b) b) b + sm (fun a => qr2 (mW x) camp a b) a))), some (.int (nI b)), some (.int (nI a)), some (.int (bI q)), some (.int (bI g))] [.int (nI (sm (fun b => sm (fun a => qr2 (mW x) camp a b) b) b + sm (fun a => qr2 (mW x) camp a b) a))] hp = q_i (nI (sm (fun b => sm (fun a => qr2 (mW x) camp a b) b) 8)) hp := by
              intro g hg hqg
              have eq : (hs camp a == hs camp b) = !q := by rw [hq, Bool.not_not]
              rw [B150_35, gM_0 hx, rM_n hx ha8, gM_0 hx, rM_n hx h8]
              simp only [bI_0]
              cases q with
              | true =>
                have g0 : g = false := by simpa using hqg
                rw [if_pos (by decide), B150_50]
                exact e51 0 (by unfold qr2; rw [eq, ← hg, g0]; rfl) _ _
              | false =>
                rw [if_neg (by decide)]
                cases g with
                | true =>
                  rw [if_pos (by decide), B150_50]
                  exact e51 0 (by unfold qr2; rw [eq, ← hg]; rfl) _ _
                | false =>
                  rw [if_neg (by decide)]
                  by_cases hn : (mW x).1.getD a 0 = (mW x).1.getD b 0
                  · have hn' : nI (x.1.1.getD a 0) = nI (x.1.1.getD b 0) := congrArg nI hn
                    rw [if_pos hn', B150_50]
                    exact e51 0 (by unfold qr2; rw [eq, ← hg, decide_eq_true hn]; rfl) _ _
                  · have hn' : ¬ nI (x.1.1.getD a 0) = nI (x.1.1.getD b 0) := fun z => hn ((nI_eq (by omega) (by omega)).mp z)
                    rw [if_neg hn', B150_48]
                    exact e51 1 (by unfold qr2; rw [eq, ← hg, decide_eq_false hn]; rfl) _ _
            rw [B150_22, gM_3 hx, rM_f hx ha8, s_mhas hfa h8, er_i]
            simp only [bI_0]
            cases q with
            | false =>
              rw [if_pos rfl]
              exact e35 _ rfl rfl
            | true =>
              rw [if_neg (by decide)]
              by_cases hg : hs ((mW x).2.2.2.1.getD a 0) b = true
              · rw [if_pos (show ¬ hs (x.1.2.2.2.1.getD a 0) b = false from fun z => by
                  rw [show hs (x.1.2.2.2.1.getD a 0) b = true from hg] at z
                  cases z), B150_48]
                refine e51 1 ?_ _ _
                have eq : (hs camp a == hs camp b) = false := by
                  cases hh : (hs camp a == hs camp b)
                  · rfl
                  · rw [hh] at hq
                    cases hq
                unfold qr2
                rw [eq, hg]
                rfl
              · have hg' : hs ((mW x).2.2.2.1.getD a 0) b = false := by simpa using hg
                rw [if_neg (show ¬ ¬ hs (x.1.2.2.2.1.getD a 0) b = false from not_not_intro hg')]
                exact e35 _ rfl ((Bool.true_and _).trans hg')
          rw [B150_9 (nl_int _), if_neg (nI_ge (by omega) (by omega)), s_mhas hc ha8, er_i, s_mhas hc h8, er_i]
          simp only [bI_inj]
          by_cases hq : hs camp a = hs camp b
          · rw [if_pos hq]
            exact e22 false (by rw [hq]; simp) _ _
          · rw [if_neg hq]
            exact e22 true (by simp [hq]) _ _
      rw [B150_4, if_neg (nI_ge (by omega) (by omega))]
      exact inn b 0 (Nat.zero_add _) _ _
  rw [E150, B150_0 (nl_int _)]
  exact out 7 1 rfl _ _ _
/-- what camps answers -/
def caV (w : aW) (z : Nat) : Nat := if z = 0 then qrl w (cal (qrl w) 127) else cal (qrl w) 127
theorem s_mcamps (hx : iM hp o x) (ok : okW (mW x)) (hsy : symW (mW x)) {z : Nat} (hz : z ≤ 1) : cl pg 149 [.ref o, .int (nI z)] hp = q_i (nI (caV (mW x) z)) hp := by
  rw [E149, B149_0, inT (rgT (Nat.zero_le _) hz (by decide)) (by decide) (by decide), er_i, if_pos n10]
  have hq : ∀ c, c < 256 → cl pg 150 [.ref o, .int (nI c)] hp = q_i (nI (qrl (mW x) c)) hp := fun c hc => s_mquarrels hx ok hsy hc
  have key : ∀ k i, i + k = 127 → dn pg 149 12 [some (.ref o), some (.int (nI z)), some (.int (nI (cal (qrl (mW x)) i))), some (.int (nI (2 * i + 3)))] [] hp = q_i (nI (caV (mW x) z)) hp := by
    intro k
    induction k with
    | zero =>
      intro i hi
      have : i = 127 := by omega
      subst this
      have hl := cal_lt (qrl (mW x)) 127
      rw [B149_12, if_pos (by decide), vM hx, hq _ (by omega), er_i]
      unfold caV
      by_cases z0 : z = 0
      · rw [if_neg (not_not_intro (congrArg nI z0)), if_pos z0, B149_35]
      · rw [if_pos (fun q => z0 ((nI_eq (by omega) (by omega)).mp q)), if_neg z0, B149_35]
    | succ k ih =>
      intro i hi
      have hl := cal_lt (qrl (mW x)) i
      have c1 := qrl_le (mW x) (2 * i + 3)
      have c2 := qrl_le (mW x) (cal (qrl (mW x)) i)
      rw [B149_12, if_neg (nI_nlt (by omega) (by omega)), vM hx, hq _ (by omega), er_i, vM hx, hq _ (by omega), er_i]
      simp only [B149_25 (nl_int _), nI_add]
      have e : cal (qrl (mW x)) (i + 1) = if qrl (mW x) (2 * i + 3) < qrl (mW x) (cal (qrl (mW x)) i) then 2 * i + 3 else cal (qrl (mW x)) i := rfl
      have := ih (i + 1) (by omega)
      rw [show 2 * (i + 1) + 3 = 2 * i + 3 + 2 by omega, e] at this
      rw [← this]
      by_cases hlt : qrl (mW x) (2 * i + 3) < qrl (mW x) (cal (qrl (mW x)) i)
      · rw [if_neg (nI_ge hlt (by omega)), if_pos hlt]
      · rw [if_pos (nI_le (by omega) (by omega)), if_neg hlt]
  exact key 127 0 rfl
end MCA
