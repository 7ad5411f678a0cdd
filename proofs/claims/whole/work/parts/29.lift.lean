/-! Lifting by turns: the class's sum and the reference's table. -/
def balN (v : Nat) : Nat → Nat
  | 0 => 0
  | k + 1 => balN v k ^^^ (if hs v k = true then k + 1 else 0)
def fndJ (T : Nat → Nat → Bool) (i : Nat) : Nat → Nat → Option Nat
  | _, 0 => none
  | j, k + 1 => if T i j = true then some (10 * i + j) else fndJ T i (j + 1) k
def fndI (T : Nat → Nat → Bool) (v : Nat) : Nat → Nat → Option Nat
  | _, 0 => none
  | i, k + 1 => (if hs v i = true then fndJ T i 0 (i + 1) else none).elim (fndI T v (i + 1) k) some
theorem fndJ_ext {T T' : Nat → Nat → Bool} {i : Nat} : ∀ k j, (∀ q, j ≤ q → q < j + k → T i q = T' i q) → fndJ T i j k = fndJ T' i j k
  | 0, _, _ => rfl
  | k + 1, j, h => by
    unfold fndJ
    rw [h j (Nat.le_refl _) (by omega), fndJ_ext k (j + 1) (fun q h1 h2 => h q (by omega) (by omega))]
theorem fndI_ext {T T' : Nat → Nat → Bool} {v : Nat} : ∀ k i, (∀ q, i ≤ q → q < i + k → hs v q = true → ∀ j, j ≤ q → T q j = T' q j) → fndI T v i k = fndI T' v i k
  | 0, _, _ => rfl
  | k + 1, i, h => by
    unfold fndI
    rw [fndI_ext k (i + 1) (fun q h1 h2 => h q (by omega) (by omega))]
    by_cases hv : hs v i = true
    · rw [if_pos hv, if_pos hv, fndJ_ext (i + 1) 0 (fun q h1 h2 => h i (Nat.le_refl _) (by omega) hv q (by omega))]
    · rw [if_neg hv, if_neg hv]
def tcN (v i j : Nat) : Bool := decide ((balN v 8 ^^^ (i + 1)) ^^^ (if j = i then 0 else j + 1) = 0)
def mvN (v i j : Nat) : Nat := sb v i false ^^^ (if i ≤ j then 0 else 2 ^ j)
def tmN (wi : Nat → Bool) (v i j : Nat) : Bool := !wi (mvN v i j)
def winN (v : Nat) : Bool := !decide (balN v 8 = 0)
def lftN (v : Nat) : Option Nat := fndI (tcN v) v 0 8
theorem mvN_all : ∀ v, v < 256 → ∀ i, i < 8 → ∀ j, j ≤ i → hs v i = true → (!winN (mvN v i j)) = tcN v i j ∧ mvN v i j < v := by decide +kernel
theorem lft_win : ∀ v, v < 256 → (lftN v).isSome = winN v := by decide +kernel
theorem lft_lt : ∀ v, v < 256 → (lftN v).getD 0 < 78 := by decide +kernel
theorem x16 : ∀ a, a < 16 → ∀ b, b < 16 → nI a ^^^ nI b = nI (a ^^^ b) ∧ a ^^^ b < 16 ∧ ((nI (a ^^^ b) = nI 0) = (a ^^^ b = 0)) := by decide +kernel
theorem x256 : ∀ a, a < 256 → ∀ i, i < 8 → ∀ j, j < 8 → nI (sb a i false) ^^^ nI (2 ^ j) = nI (sb a i false ^^^ 2 ^ j) ∧ nI (sb a i false) ^^^ nI 0 = nI (sb a i false ^^^ 0) ∧ sb a i false ^^^ 2 ^ j < 256 ∧ sb a i false ^^^ 0 < 256 := by decide +kernel
theorem balN_lt (v : Nat) : ∀ k, k ≤ 8 → balN v k < 16
  | 0, _ => by show 0 < 16; omega
  | k + 1, h => by
    have ih := balN_lt v k (by omega)
    unfold balN
    refine (x16 _ ih _ ?_).2.1
    split <;> omega
section LF
variable {hp : pH} {o v : Nat}
theorem s_winningLift (hv : v < 256) (hp : pH) : cl pg 93 [.int (nI v)] hp = q_i (gpI (lftN v)) hp := by
  have hb8 := balN_lt v 8 (Nat.le_refl _)
  -- the search
  have inn : ∀ i, i < 8 → hs v i = true → ∀ Z, (∀ v3 v4, dn pg 93 60 [some (.int (nI v)), some (.int (nI (balN v 8))), some (.int (nI i)), v3, v4] [] hp = Z) → ∀ k j, j + k = i + 1 → ∀ v4, dn pg 93 28 [some (.int (nI v)), some (.int (nI (balN v 8))), some (.int (nI i)), some (.int (nI j)), v4] [] hp = (fndJ (tcN v) i j k).elim Z (fun r => q_i (nI r) hp) := by
    intro i hi hb Z hZ k
    induction k with
    | zero =>
      intro j hj v4
      have : j = i + 1 := by omega
      subst this
      rw [B93_28, s_has hv hi, er_i, hb, if_neg (by decide), if_pos (nI_lt (by omega) (by omega)), hZ]
      rfl
    | succ k ih =>
      intro j hj v4
      have e : fndJ (tcN v) i j (k + 1) = if tcN v i j = true then some (10 * i + j) else fndJ (tcN v) i (j + 1) k := rfl
      rw [B93_28, s_has hv hi, er_i, hb, if_neg (by decide), if_neg (nI_nlt (by omega) (by omega)), e]
      have x1 := x16 (balN v 8) hb8 (i + 1) (by omega)
      have x2 := x16 (balN v 8 ^^^ (i + 1)) x1.2.1
      have st : ∀ l, l < 16 → l = (if j = i then 0 else j + 1) → dn pg 93 43 [some (.int (nI v)), some (.int (nI (balN v 8))), some (.int (nI i)), some (.int (nI j)), v4] [.int (nI l)] hp = (if tcN v i j = true then some (10 * i + j) else fndJ (tcN v) i (j + 1) k).elim Z (fun r => q_i (nI r) hp) := by
        intro l hl hle
        obtain ⟨y1, y2, y3⟩ := x2 l hl
        rw [B93_43, nI_add i 1, x1.1, y1]
        simp only [y3]
        unfold tcN
        rw [← hle]
        by_cases h : (balN v 8 ^^^ (i + 1)) ^^^ l = 0
        · rw [if_neg (not_not_intro h), if_pos (decide_eq_true h), pk_mul, nI_add]
          rfl
        · rw [if_pos h, if_neg (by simpa using h), nI_add]
          exact ih (j + 1) (by omega) _
      by_cases hji : j = i
      · rw [if_neg (not_not_intro (congrArg nI hji))]
        exact st 0 (by omega) (by rw [if_pos hji])
      · rw [if_pos (fun z => hji ((nI_eq (by omega) (by omega)).mp z)), nI_add]
        exact st (j + 1) (by omega) (by rw [if_neg hji])
  have out : ∀ k i, i + k = 8 → ∀ v3 v4, dn pg 93 23 [some (.int (nI v)), some (.int (nI (balN v 8))), some (.int (nI i)), v3, v4] [] hp = q_i (gpI (fndI (tcN v) v i k)) hp := by
    intro k
    induction k with
    | zero =>
      intro i hi v3 v4
      have : i = 8 := by omega
      subst this
      rw [B93_23, if_pos (by decide)]
      rfl
    | succ k ih =>
      intro i hi v3 v4
      have e : fndI (tcN v) v i (k + 1) = (if hs v i = true then fndJ (tcN v) i 0 (i + 1) else none).elim (fndI (tcN v) v (i + 1) k) some := rfl
      rw [B93_23, if_neg (nI_ge (by omega) (by omega)), e]
      have hZ : ∀ v3 v4, dn pg 93 60 [some (.int (nI v)), some (.int (nI (balN v 8))), some (.int (nI i)), v3, v4] [] hp = q_i (gpI (fndI (tcN v) v (i + 1) k)) hp := by
        intro v3 v4
        rw [B93_60 (nl_int _), nI_add]
        exact ih (i + 1) (by omega) _ _
      by_cases hb : hs v i = true
      · rw [if_pos hb, inn i (by omega) hb _ hZ (i + 1) 0 (Nat.zero_add _) v4]
        cases fndJ (tcN v) i 0 (i + 1) <;> rfl
      · have hb' : hs v i = false := by simpa using hb
        rw [if_neg hb, B93_28, s_has hv (by omega), er_i, hb', if_pos (show bI false = nI 0 from rfl), hZ]
        rfl
  have bal : ∀ k i, i + k = 8 → dn pg 93 4 [some (.int (nI v)), some (.int (nI (balN v i))), some (.int (nI i)), none, none] [] hp = q_i (gpI (lftN v)) hp := by
    intro k
    induction k with
    | zero =>
      intro i hi
      have : i = 8 := by omega
      subst this
      rw [B93_4, if_pos (by decide)]
      exact out 8 0 rfl _ _
    | succ k ih =>
      intro i hi
      have hbi := balN_lt v i (by omega)
      have e : balN v (i + 1) = balN v i ^^^ (if hs v i = true then i + 1 else 0) := rfl
      have e3 := ih (i + 1) (by omega)
      rw [B93_4, if_neg (nI_ge (by omega) (by omega)), s_has hv (by omega), er_i]
      simp only [bI_0]
      by_cases hb : hs v i = false
      · rw [if_pos hb, B93_17 (nl_int _), (x16 _ hbi 0 (by omega)).1, nI_add]
        rw [e, if_neg (by rw [hb]; simp)] at e3
        exact e3
      · have hb' : hs v i = true := by simpa using hb
        rw [if_neg hb, B93_17 (nl_int _), nI_add, (x16 _ hbi (i + 1) (by omega)).1]
        rw [e, if_pos hb'] at e3
        exact e3
  rw [E93, B93_0 (nl_int _)]
  exact bal 8 0 rfl
variable {x : aM}
theorem s_leastLift (hx : iM hp o x) (hv : v < 256) : cl pg 167 [.ref o, .int (nI v)] hp = q_i (gpI (fndI (tmN x.2.2.2.2.2.2.2.2.2.2.1 v) v 0 8)) hp := by
  have inn : ∀ i, i < 8 → hs v i = true → ∀ Z, (∀ v3 v4, dn pg 167 44 [some (.ref o), some (.int (nI v)), some (.int (nI i)), v3, v4] [] hp = Z) → ∀ k j, j + k = i + 1 → ∀ v4, dn pg 167 7 [some (.ref o), some (.int (nI v)), some (.int (nI i)), some (.int (nI j)), v4] [] hp = (fndJ (tmN x.2.2.2.2.2.2.2.2.2.2.1 v) i j k).elim Z (fun r => q_i (nI r) hp) := by
    intro i hi hb Z hZ k
    induction k with
    | zero =>
      intro j hj v4
      have : j = i + 1 := by omega
      subst this
      rw [B167_7, if_pos (nI_lt (by omega) (by omega)), hZ]
      rfl
    | succ k ih =>
      intro j hj v4
      have e : fndJ (tmN x.2.2.2.2.2.2.2.2.2.2.1 v) i j (k + 1) = if tmN x.2.2.2.2.2.2.2.2.2.2.1 v i j = true then some (10 * i + j) else fndJ (tmN x.2.2.2.2.2.2.2.2.2.2.1 v) i (j + 1) k := rfl
      rw [B167_7, if_neg (nI_nlt (by omega) (by omega)), s_mhas hv hi, er_i, hb, if_neg (by decide), e]
      have st : ∀ l, nI (sb v i false) ^^^ nI l = nI (sb v i false ^^^ l) → sb v i false ^^^ l < 256 → l = (if i ≤ j then 0 else 2 ^ j) → dn pg 167 29 [some (.ref o), some (.int (nI v)), some (.int (nI i)), some (.int (nI j)), v4] [.int (nI l), .int (nI (sb v i false))] hp = (if tmN x.2.2.2.2.2.2.2.2.2.2.1 v i j = true then some (10 * i + j) else fndJ (tmN x.2.2.2.2.2.2.2.2.2.2.1 v) i (j + 1) k).elim Z (fun r => q_i (nI r) hp) := by
        intro l h1 h2 hle
        rw [B167_29, gM_27 hx, h1, rM_wi hx h2]
        unfold tmN mvN
        rw [← hle]
        simp only [bI_0]
        by_cases h : x.2.2.2.2.2.2.2.2.2.2.1 (sb v i false ^^^ l) = false
        · rw [if_neg (not_not_intro h), if_pos (by rw [h]; rfl), pk_mul, nI_add]
          rfl
        · rw [if_pos h, if_neg (by simpa using h), nI_add]
          exact ih (j + 1) (by omega) _
      rw [(sb_I v hv i hi).2]
      by_cases hji : i ≤ j
      · obtain ⟨_, y2, _, y4⟩ := x256 v hv i hi 0 (by omega)
        rw [if_pos (nI_le hji (by omega))]
        exact st 0 y2 y4 (by rw [if_pos hji])
      · obtain ⟨y1, _, y3, _⟩ := x256 v hv i hi j (by omega)
        rw [if_neg (nI_ge (by omega) (by omega)), sh_I j (by omega)]
        exact st (2 ^ j) y1 y3 (by rw [if_neg hji])
  have out : ∀ k i, i + k = 8 → ∀ v3 v4, dn pg 167 2 [some (.ref o), some (.int (nI v)), some (.int (nI i)), v3, v4] [] hp = q_i (gpI (fndI (tmN x.2.2.2.2.2.2.2.2.2.2.1 v) v i k)) hp := by
    intro k
    induction k with
    | zero =>
      intro i hi v3 v4
      have : i = 8 := by omega
      subst this
      rw [B167_2, if_pos (by decide)]
      rfl
    | succ k ih =>
      intro i hi v3 v4
      have e : fndI (tmN x.2.2.2.2.2.2.2.2.2.2.1 v) v i (k + 1) = (if hs v i = true then fndJ (tmN x.2.2.2.2.2.2.2.2.2.2.1 v) i 0 (i + 1) else none).elim (fndI (tmN x.2.2.2.2.2.2.2.2.2.2.1 v) v (i + 1) k) some := rfl
      rw [B167_2, if_neg (nI_ge (by omega) (by omega)), e]
      have hZ : ∀ v3 v4, dn pg 167 44 [some (.ref o), some (.int (nI v)), some (.int (nI i)), v3, v4] [] hp = q_i (gpI (fndI (tmN x.2.2.2.2.2.2.2.2.2.2.1 v) v (i + 1) k)) hp := by
        intro v3 v4
        rw [B167_44 (nl_int _), nI_add]
        exact ih (i + 1) (by omega) _ _
      by_cases hb : hs v i = true
      · rw [if_pos hb, inn i (by omega) hb _ hZ (i + 1) 0 (Nat.zero_add _) v4]
        cases fndJ (tmN x.2.2.2.2.2.2.2.2.2.2.1 v) i 0 (i + 1) <;> rfl
      · have hb' : hs v i = false := by simpa using hb
        rw [if_neg hb, B167_7, if_neg (nI_nlt (by omega) (by omega)), s_mhas hv (by omega), er_i, hb', if_pos (show bI false = nI 0 from rfl), hZ]
        rfl
  rw [E167, B167_0 (nl_int _)]
  exact out 8 0 rfl _ _
theorem tm_tc {wi : Nat → Bool} (hv : v < 256) (hw : ∀ u, u < v → wi u = winN u) : fndI (tmN wi v) v 0 8 = lftN v := by
  unfold lftN
  refine fndI_ext 8 0 fun q _ hq hb j hj => ?_
  obtain ⟨h1, h2⟩ := mvN_all v hv q (by omega) j hj hb
  unfold tmN
  rw [hw _ h2, h1]
/-- the reference's table of wins, behind a change -/
def mG (x : aM) (wi : Nat → Bool) : aM := (x.1, x.2.1, x.2.2.1, x.2.2.2.1, x.2.2.2.2.1, x.2.2.2.2.2.1, x.2.2.2.2.2.2.1, x.2.2.2.2.2.2.2.1, x.2.2.2.2.2.2.2.2.1, x.2.2.2.2.2.2.2.2.2.1, wi, x.2.2.2.2.2.2.2.2.2.2.2)
theorem gp_neg (v : Nat) (hv : v < 256) : (gpI (lftN v) < nI 0) = (winN v = false) := by
  rw [← lft_win v hv]
  have := lft_lt v hv
  cases h : lftN v with
  | none =>
    simp only [Option.isSome_none, eq_iff_iff, iff_true]
    decide
  | some r =>
    rw [h] at this
    simp only [Option.isSome_some, Bool.true_eq_false, eq_iff_iff, iff_false]
    exact nI_nlt (Nat.zero_le _) (by have : r < 78 := this; omega)
theorem s_mlift (hx : iM hp o x) (hv : x.1.2.2.2.2.1 < 256) {z : Int32} (hz : rg (nI 0) (nI 1) z = true) : ∃ wi, cl pg 166 [.ref o, .int z] hp = q_i (if z = nI 1 then gpI (lftN x.1.2.2.2.2.1) else bI (winN x.1.2.2.2.2.1)) (sM hp o (mG x wi)) := by
  obtain ⟨⟨n, m, t, f, v, h, d⟩, g1, g2, g3, g4, g5, th, ha', we, fe, wi, od, go, ba, bw, am, aa, aw⟩ := x
  dsimp only at hv
  have key : ∀ k u, u + k = 256 → ∀ wi1 : Nat → Bool, (∀ i, i < u → wi1 i = winN i) → ∃ wi', dn pg 166 10 [some (.ref o), some (.int z), some (.int (nI u))] [] (sM hp o ((n, m, t, f, v, h, d), g1, g2, g3, g4, g5, th, ha', we, fe, wi1, od, go, ba, bw, am, aa, aw)) = q_i (if z = nI 1 then gpI (lftN v) else bI (winN v)) (sM hp o ((n, m, t, f, v, h, d), g1, g2, g3, g4, g5, th, ha', we, fe, wi', od, go, ba, bw, am, aa, aw)) := by
    intro k
    induction k with
    | zero =>
      intro u hu wi1 h1
      have : u = 256 := by omega
      subst this
      refine ⟨wi1, ?_⟩
      rw [B166_10, if_pos (by decide)]
      by_cases hz1 : z = nI 1
      · rw [if_neg (not_not_intro hz1), gM_4s hx, vM_s hx, s_leastLift (iM_s hx) hv, er_i, B166_43, if_pos hz1]
        dsimp only
        rw [tm_tc hv (fun u hu => h1 u (by omega))]
      · rw [if_pos hz1, gM_27s hx, gM_4s hx, rM_wis hx _ hv]
        simp only [h1 v hv, bI_0]
        rw [if_neg hz1]
        by_cases hw : winN v = false
        · rw [if_pos hw, B166_43, hw]
          rfl
        · have hw' : winN v = true := by simpa using hw
          rw [if_neg hw, B166_43, hw']
          rfl
    | succ k ih =>
      intro u hu wi1 h1
      have hu' : u < 256 := by omega
      have st : ∀ b, b = winN u → ∃ wi', dn pg 166 23 [some (.ref o), some (.int z), some (.int (nI u))] [.int (bI b), .int (nI u), .ref (o + 17)] (sM hp o ((n, m, t, f, v, h, d), g1, g2, g3, g4, g5, th, ha', we, fe, wi1, od, go, ba, bw, am, aa, aw)) = q_i (if z = nI 1 then gpI (lftN v) else bI (winN v)) (sM hp o ((n, m, t, f, v, h, d), g1, g2, g3, g4, g5, th, ha', we, fe, wi', od, go, ba, bw, am, aa, aw)) := by
        intro b hb
        obtain ⟨wi', e⟩ := ih (u + 1) (by omega) (updZ wi1 u b) (by
          intro i hi
          unfold updZ
          by_cases hq : i = u
          · rw [if_pos hq, hb, hq]
          · rw [if_neg hq]
            exact h1 i (by omega))
        exact ⟨wi', by rw [B166_23 (nl_int _), qz_b, wM_wis hx hu', nI_add, e]⟩
      have e2 : fndI (tmN wi1 u) u 0 8 = lftN u := tm_tc hu' h1
      rw [B166_10, if_neg (nI_nlt (by omega) (by omega)), gM_27s hx, vM_s hx, s_leastLift (iM_s hx) hu', er_i]
      dsimp only
      rw [e2]
      simp only [gp_neg u hu']
      by_cases hw : winN u = false
      · rw [if_pos hw]
        exact st false hw.symm
      · have hw' : winN u = true := by simpa using hw
        rw [if_neg hw]
        exact st true hw'.symm
  obtain ⟨wi', e⟩ := key 256 0 rfl wi (fun i hi => absurd hi (Nat.not_lt_zero _))
  refine ⟨wi', ?_⟩
  rw [sM_i hx] at e
  rw [E166, B166_0, s_in z (by decide) (by decide), er_i, hz, if_pos (by decide)]
  exact e
end LF
