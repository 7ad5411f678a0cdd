section VT
variable {hp : pH} {o a b : Nat} {x : aM}
theorem lg0 (a b : Int64) : (lg_cmp a b = nI 0) = (a = b) := by
  unfold lg_cmp
  by_cases h1 : b < a
  · rw [if_pos h1]
    have : a ≠ b := by
      intro h
      subst h
      exact absurd (Int64.lt_iff_toInt_lt.mp h1) (Int.lt_irrefl _)
    simp only [this, eq_iff_iff, iff_false]
    decide
  · rw [if_neg h1]
    by_cases h2 : a = b
    · rw [if_pos h2]
      exact propext ⟨fun _ => h2, fun _ => rfl⟩
    · rw [if_neg h2]
      simp only [h2, eq_iff_iff, iff_false]
      decide
theorem s_lowest (hp : pH) {u l : Nat} (hu : u < 2 ^ 62) (hl0 : 0 < l) (hl : l < 2 ^ 62) {p : Nat} (hp2 : p < 2) : cl pg 170 [.long (lN u), .long (lN l), .int (nI p)] hp = q_l (lN ((if p = 0 then u else l) / Nat.gcd l u)) hp := by
  rw [E170, B170_0 (nl_int _)]
  have key : ∀ y x, 0 < x → x < 2 ^ 62 → y < 2 ^ 62 → Nat.gcd x y = Nat.gcd l u → ∀ v6 v9 v10, dn pg 170 4 [some (.long (lN u)), none, some (.long (lN l)), none, some (.int (nI p)), some (.long (lN x)), v6, some (.long (lN y)), none, v9, v10] [] hp = q_l (lN ((if p = 0 then u else l) / Nat.gcd l u)) hp := by
    intro y
    induction y using Nat.strongRecOn with
    | ind y ih =>
      intro x hx0 hx hy hg v6 v9 v10
      rw [B170_4 rfl]
      simp only [lg0, pk_lEQ (a := y) (b := 0) (by omega) (by omega), pk_lEQ (a := x) (b := 0) (by omega) (by omega)]
      by_cases hy0 : y = 0
      · rw [if_pos hy0, if_neg (show ¬ x = 0 by omega), if_neg (show ¬ x = 0 by omega)]
        rw [hy0, Nat.gcd_zero_right] at hg
        rw [← hg]
        by_cases hp0 : p = 0
        · rw [if_neg (not_not_intro (congrArg nI hp0)), B170_26, pk_lDiv (by omega) hx0 (by omega), if_pos hp0]
        · rw [if_pos (fun z => hp0 ((nI_eq (by omega) (by omega)).mp z)), B170_26, pk_lDiv (by omega) hx0 (by omega), if_neg hp0]
      · rw [if_neg hy0, if_neg hy0, pk_lRem (by omega) (by omega) (by omega)]
        have hlt : x % y < y := Nat.mod_lt _ (by omega)
        refine ih (x % y) hlt y (by omega) hy (by omega) ?_ _ _ _
        rw [← hg, Nat.gcd_comm x y, Nat.gcd_rec y x, Nat.gcd_comm]
  exact key u l hl0 hl hu rfl _ _ _
theorem s_before {r : Nat} {f : Nat → Int64} (hr : ∀ i, i < 441 → ∀ F : Int64 → Option pR, qa_l hp r (nI i) F = F (f i)) {T : List (List Nat)} {x y : Nat} (hx : x ≤ 20) (hy : y ≤ 20) (h1 : 0 < x → f (21 * (x - 1) + y) = lN (tb T (x - 1) y)) (h2 : 0 < y → f (21 * x + (y - 1)) = lN (tb T x (y - 1))) : cl pg 169 [.ref o, .ref r, .int (nI x), .int (nI y)] hp = q_l (lN (bfV T x y)) hp := by
  have st : ∀ s, s = (if 0 < x then tb T (x - 1) y else 0) → dn pg 169 13 [some (.ref o), some (.ref r), some (.int (nI x)), some (.int (nI y))] [.long (lN s)] hp = q_l (lN (bfV T x y)) hp := by
    intro s hs
    rw [B169_13]
    unfold bfV
    rw [← hs]
    by_cases hy0 : 0 < y
    · rw [if_neg (nI_ge hy0 (by omega)), pk_mul, nI_add, pk_sub (by omega), hr _ (by omega), show 21 * x + y - 1 = 21 * x + (y - 1) by omega, h2 hy0, B169_26, lN_add, if_pos hy0]
    · rw [if_pos (nI_le (by omega) (by omega)), B169_26, lN_add, if_neg hy0]
  rw [E169, B169_0]
  by_cases hx0 : 0 < x
  · rw [if_neg (nI_ge hx0 (by omega)), pk_sub (by omega), pk_mul, nI_add, hr _ (by omega), h1 hx0]
    exact st _ (by rw [if_pos hx0])
  · rw [if_pos (nI_le (by omega) (by omega))]
    exact st 0 (by rw [if_neg hx0])
def mV (x : aM) (od go : Nat → Int64) : aM := (x.1, x.2.1, x.2.2.1, x.2.2.2.1, x.2.2.2.2.1, x.2.2.2.2.2.1, x.2.2.2.2.2.2.1, x.2.2.2.2.2.2.2.1, x.2.2.2.2.2.2.2.2.1, x.2.2.2.2.2.2.2.2.2.1, x.2.2.2.2.2.2.2.2.2.2.1, od, go, x.2.2.2.2.2.2.2.2.2.2.2.2.2)
/-- the row holds the table up to (x, y) -/
def rwV (f : Nat → Int64) (T : List (List Nat)) (b x y : Nat) : Prop := ∀ i j, j ≤ b → i < x ∨ i = x ∧ j < y → f (21 * i + j) = lN (tb T i j)
theorem rwV_up {f : Nat → Int64} {T : List (List Nat)} {b x y : Nat} (hb : b ≤ 20) (hy : y ≤ b) (h : rwV f T b x y) : rwV (vp_updL f (21 * x + y) (lN (tb T x y))) T b x (y + 1) := by
  intro i j hj hi
  by_cases hq : i = x ∧ j = y
  · rw [hq.1, hq.2, pk_uLs]
  · rw [pk_uLn (by omega)]
    exact h i j hj (by omega)
theorem rwV_next {f : Nat → Int64} {T : List (List Nat)} {b x : Nat} (h : rwV f T b x (b + 1)) : rwV f T b (x + 1) 0 := fun i j hj hi => h i j hj (by omega)
theorem s_mvotes (hx : iM hp o x) (ha : a ≤ 20) (hb : b ≤ 20) {w p : Nat} (hw : w < 2) (hp2 : p < 2) : ∃ od go, cl pg 168 [.ref o, .int (nI a), .int (nI b), .int (nI w), .int (nI p)] hp = q_l (lN (vtN a b w p)) (sM hp o (mV x od go)) := by
  obtain ⟨g0, g1, g2, g3, g4, g5, th, ha', we, fe, wi, od, go, ba, bw, am, aa, aw⟩ := x
  have inn : ∀ x, x ≤ a → ∀ k y, y + k = b + 1 → ∀ od1 go1, rwV od1 TO b x y → rwV go1 (TG w) b x y → ∀ v7 v8, ∃ v6 v7' v8' od2 go2, dn pg 168 33 [some (.ref o), some (.int (nI a)), some (.int (nI b)), some (.int (nI w)), some (.int (nI p)), some (.int (nI x)), some (.int (nI y)), v7, v8] [] (sM hp o (g0, g1, g2, g3, g4, g5, th, ha', we, fe, wi, od1, go1, ba, bw, am, aa, aw)) = dn pg 168 28 [some (.ref o), some (.int (nI a)), some (.int (nI b)), some (.int (nI w)), some (.int (nI p)), some (.int (nI (x + 1))), v6, v7', v8'] [] (sM hp o (g0, g1, g2, g3, g4, g5, th, ha', we, fe, wi, od2, go2, ba, bw, am, aa, aw)) ∧ rwV od2 TO b (x + 1) 0 ∧ rwV go2 (TG w) b (x + 1) 0 := by
    intro x hxa k
    induction k with
    | zero =>
      intro y hy od1 go1 h1 h2 v7 v8
      have : y = b + 1 := by omega
      subst this
      exact ⟨_, _, _, od1, go1, by rw [B168_33 (nl_int _), if_pos (nI_lt (by omega) (by omega)), nI_add], rwV_next h1, rwV_next h2⟩
    | succ k ih =>
      intro y hy od1 go1 h1 h2 v7 v8
      obtain ⟨t1, t2, t3⟩ := TO_all x (by omega) y (by omega)
      obtain ⟨t4, t5⟩ := TG_all w hw x (by omega) y (by omega)
      -- the last write
      have at99 : ∀ v7 v8 z, z = tb (TG w) x y → ∃ v6 v7' v8' od2 go2, dn pg 168 99 [some (.ref o), some (.int (nI a)), some (.int (nI b)), some (.int (nI w)), some (.int (nI p)), some (.int (nI x)), some (.int (nI y)), v7, v8] [.long (lN z), .int (nI (21 * x + y)), .ref (o + 19)] (sM hp o (g0, g1, g2, g3, g4, g5, th, ha', we, fe, wi, vp_updL od1 (21 * x + y) (lN (tb TO x y)), go1, ba, bw, am, aa, aw)) = dn pg 168 28 [some (.ref o), some (.int (nI a)), some (.int (nI b)), some (.int (nI w)), some (.int (nI p)), some (.int (nI (x + 1))), v6, v7', v8'] [] (sM hp o (g0, g1, g2, g3, g4, g5, th, ha', we, fe, wi, od2, go2, ba, bw, am, aa, aw)) ∧ rwV od2 TO b (x + 1) 0 ∧ rwV go2 (TG w) b (x + 1) 0 := by
        intro v7 v8 z hz
        obtain ⟨v6, v7', v8', od2, go2, e, r1, r2⟩ := ih (y + 1) (by omega) (vp_updL od1 (21 * x + y) (lN (tb TO x y))) (vp_updL go1 (21 * x + y) (lN (tb (TG w) x y))) (rwV_up hb (by omega) h1) (rwV_up hb (by omega) h2) v7 v8
        exact ⟨v6, v7', v8', od2, go2, by rw [B168_99 (nl_int _), wM_gos hx (by omega), nI_add, hz, e], r1, r2⟩
      -- flag that it goes on, as a number
      have at77 : ∀ z is, z = tb TO x y → (is = true) = (if w = 0 then y < x else y ≤ x) → ∃ v6 v7' v8' od2 go2, dn pg 168 77 [some (.ref o), some (.int (nI a)), some (.int (nI b)), some (.int (nI w)), some (.int (nI p)), some (.int (nI x)), some (.int (nI y)), some (.int (bI (decide (x + y = 0)))), some (.int (bI is))] [.long (lN z), .int (nI (21 * x + y)), .ref (o + 18)] (sM hp o (g0, g1, g2, g3, g4, g5, th, ha', we, fe, wi, od1, go1, ba, bw, am, aa, aw)) = dn pg 168 28 [some (.ref o), some (.int (nI a)), some (.int (nI b)), some (.int (nI w)), some (.int (nI p)), some (.int (nI (x + 1))), v6, v7', v8'] [] (sM hp o (g0, g1, g2, g3, g4, g5, th, ha', we, fe, wi, od2, go2, ba, bw, am, aa, aw)) ∧ rwV od2 TO b (x + 1) 0 ∧ rwV go2 (TG w) b (x + 1) 0 := by
        intro z is hz his
        rw [B168_77, wM_ods hx (by omega), gM_29s hx, gM_29s hx, vM_s hx, hz]
        simp only [bI_0, pk_mul, nI_add]
        by_cases h0 : x + y = 0
        · rw [if_neg (by simpa using h0)]
          exact at99 _ _ 1 (by rw [t4, if_pos h0])
        · rw [if_pos (by simpa using h0)]
          rw [if_neg h0] at t4
          by_cases hi : is = false
          · rw [if_pos hi]
            refine at99 _ _ 0 ?_
            rw [t4, if_neg]
            intro q
            rw [← his, hi] at q
            exact absurd q (by decide)
          · have hi' : is = true := by simpa using hi
            have hq : if w = 0 then y < x else y ≤ x := by
              rw [← his]
              exact hi'
            rw [if_neg hi, s_before (f := go1) (T := TG w) (fun i hi F => rM_gos hx _ hi F) (by omega) (by omega) (fun q => h2 (x - 1) y (by omega) (by omega)) (fun q => h2 x (y - 1) (by omega) (by omega))]
            rw [if_pos hq] at t4
            exact at99 _ _ _ t4.symm
      have at59 : ∀ is, (is = true) = (if w = 0 then y < x else y ≤ x) → ∃ v6 v7' v8' od2 go2, dn pg 168 59 [some (.ref o), some (.int (nI a)), some (.int (nI b)), some (.int (nI w)), some (.int (nI p)), some (.int (nI x)), some (.int (nI y)), some (.int (bI (decide (x + y = 0)))), v8] [.int (bI is)] (sM hp o (g0, g1, g2, g3, g4, g5, th, ha', we, fe, wi, od1, go1, ba, bw, am, aa, aw)) = dn pg 168 28 [some (.ref o), some (.int (nI a)), some (.int (nI b)), some (.int (nI w)), some (.int (nI p)), some (.int (nI (x + 1))), v6, v7', v8'] [] (sM hp o (g0, g1, g2, g3, g4, g5, th, ha', we, fe, wi, od2, go2, ba, bw, am, aa, aw)) ∧ rwV od2 TO b (x + 1) 0 ∧ rwV go2 (TG w) b (x + 1) 0 := by
        intro is his
        rw [B168_59, gM_28s hx, gM_28s hx, vM_s hx]
        simp only [bI_0, pk_mul, nI_add]
        by_cases h0 : x + y = 0
        · rw [if_neg (by simpa using h0)]
          exact at77 1 is (by rw [t1, if_pos h0]) his
        · rw [if_pos (by simpa using h0), s_before (f := od1) (T := TO) (fun i hi F => rM_ods hx _ hi F) (by omega) (by omega) (fun q => h1 (x - 1) y (by omega) (by omega)) (fun q => h1 x (y - 1) (by omega) (by omega))]
          rw [if_neg h0] at t1
          exact at77 _ is t1.symm his
      have at43 : ∃ v6 v7' v8' od2 go2, dn pg 168 43 [some (.ref o), some (.int (nI a)), some (.int (nI b)), some (.int (nI w)), some (.int (nI p)), some (.int (nI x)), some (.int (nI y)), v7, v8] [.int (bI (decide (x + y = 0)))] (sM hp o (g0, g1, g2, g3, g4, g5, th, ha', we, fe, wi, od1, go1, ba, bw, am, aa, aw)) = dn pg 168 28 [some (.ref o), some (.int (nI a)), some (.int (nI b)), some (.int (nI w)), some (.int (nI p)), some (.int (nI (x + 1))), v6, v7', v8'] [] (sM hp o (g0, g1, g2, g3, g4, g5, th, ha', we, fe, wi, od2, go2, ba, bw, am, aa, aw)) ∧ rwV od2 TO b (x + 1) 0 ∧ rwV go2 (TG w) b (x + 1) 0 := by
        rw [B168_43]
        by_cases hw0 : w = 0
        · rw [if_neg (not_not_intro (congrArg nI hw0))]
          by_cases hxy : y < x
          · rw [if_neg (nI_ge hxy (by omega))]
            exact at59 true (by rw [if_pos hw0]; exact propext ⟨fun _ => hxy, fun _ => rfl⟩)
          · rw [if_pos (nI_le (by omega) (by omega))]
            exact at59 false (by rw [if_pos hw0]; exact propext ⟨fun z => absurd z (by decide), fun z => absurd z hxy⟩)
        · rw [if_pos (fun z => hw0 ((nI_eq (by omega) (by omega)).mp z))]
          by_cases hxy : y ≤ x
          · rw [if_neg (nI_nlt hxy (by omega))]
            exact at59 true (by rw [if_neg hw0]; exact propext ⟨fun _ => hxy, fun _ => rfl⟩)
          · rw [if_pos (nI_lt (by omega) (by omega))]
            exact at59 false (by rw [if_neg hw0]; exact propext ⟨fun z => absurd z (by decide), fun z => absurd z hxy⟩)
      rw [B168_33 (nl_int _), if_neg (nI_nlt (by omega) (by omega)), nI_add]
      by_cases h0 : x + y = 0
      · rw [if_neg (not_not_intro (congrArg nI h0))]
        rw [decide_eq_true h0] at at43
        exact at43
      · rw [if_pos (fun z => h0 ((nI_eq (by omega) (by omega)).mp z))]
        rw [decide_eq_false h0] at at43
        exact at43
  have out : ∀ k x, x + k = a + 1 → ∀ od1 go1, rwV od1 TO b x 0 → rwV go1 (TG w) b x 0 → ∀ v6 v7 v8, ∃ od2 go2, dn pg 168 28 [some (.ref o), some (.int (nI a)), some (.int (nI b)), some (.int (nI w)), some (.int (nI p)), some (.int (nI x)), v6, v7, v8] [] (sM hp o (g0, g1, g2, g3, g4, g5, th, ha', we, fe, wi, od1, go1, ba, bw, am, aa, aw)) = q_l (lN (vtN a b w p)) (sM hp o (g0, g1, g2, g3, g4, g5, th, ha', we, fe, wi, od2, go2, ba, bw, am, aa, aw)) := by
    intro k
    induction k with
    | zero =>
      intro x hxk od1 go1 h1 h2 v6 v7 v8
      have : x = a + 1 := by omega
      subst this
      obtain ⟨t1, t2, t3⟩ := TO_all a (by omega) b (by omega)
      obtain ⟨t4, t5⟩ := TG_all w hw a (by omega) b (by omega)
      refine ⟨od1, go1, ?_⟩
      rw [B168_28, if_pos (nI_lt (by omega) (by omega)), gM_29s hx, pk_mul, nI_add, rM_gos hx _ (i := 21 * a + b) (by omega), gM_28s hx, rM_ods hx _ (i := 21 * a + b) (by omega)]
      dsimp only
      rw [h1 a b (Nat.le_refl _) (by omega), h2 a b (Nat.le_refl _) (by omega), s_lowest _ t5 t2 t3 hp2, er_l, vt_all w hw a (by omega) b (by omega) p hp2]
    | succ k ih =>
      intro x hxk od1 go1 h1 h2 v6 v7 v8
      obtain ⟨v6', v7', v8', od2, go2, e, r1, r2⟩ := inn x (by omega) (b + 1) 0 (by omega) od1 go1 h1 h2 v7 v8
      obtain ⟨od3, go3, e3⟩ := ih (x + 1) (by omega) od2 go2 r1 r2 v6' v7' v8'
      refine ⟨od3, go3, ?_⟩
      rw [B168_28, if_neg (nI_nlt (by omega) (by omega)), e, e3]
  obtain ⟨od', go', e⟩ := out (a + 1) 0 (Nat.zero_add _) od go (fun i j _ hi => by omega) (fun i j _ hi => by omega) none none none
  refine ⟨od', go', ?_⟩
  have r1 : ∀ c, c ≤ 20 → rg (nI 0) (nI 20) (nI c) = true := by
    intro c hc
    rw [rg_nI (by omega) (by decide) (by decide)]
    simp
    omega
  have r2 : ∀ c, c < 2 → rg (nI 0) (nI 1) (nI c) = true := by
    intro c hc
    rw [rg_nI (by omega) (by decide) (by decide)]
    simp
    omega
  rw [sM_i hx] at e
  rw [E168, B168_0]
  simp only [s_in _ (show 0 < 2 ^ 31 by decide) (show 20 < 2 ^ 31 by decide), s_in _ (show 0 < 2 ^ 31 by decide) (show 1 < 2 ^ 31 by decide), er_i, r1 a ha, r1 b hb, r2 w hw, r2 p hp2, bI_t, one_ne, if_false, not_false_eq_true, if_true]
  exact e
def rgV (x1 x2 x3 x4 : Int32) : Bool := rg (nI 0) (nI 20) x1 && (rg (nI 0) (nI 20) x2 && (rg (nI 0) (nI 1) x3 && rg (nI 0) (nI 1) x4))
theorem s_mvotesNo (hp : pH) {x1 x2 x3 x4 : Int32} (h : rgV x1 x2 x3 x4 = false) : cl pg 168 [.ref o, .int x1, .int x2, .int x3, .int x4] hp = q_l (-1000000000000000002) hp := by
  unfold rgV at h
  rw [E168, B168_0]
  simp only [s_in _ (show 0 < 2 ^ 31 by decide) (show 20 < 2 ^ 31 by decide), s_in _ (show 0 < 2 ^ 31 by decide) (show 1 < 2 ^ 31 by decide), er_i, bI_0, B168_24]
  by_cases h1 : rg (nI 0) (nI 20) x1 = false
  · rw [if_pos h1]
  · rw [if_neg h1]
    by_cases h2 : rg (nI 0) (nI 20) x2 = false
    · rw [if_pos h2]
    · rw [if_neg h2]
      by_cases h3 : rg (nI 0) (nI 1) x3 = false
      · rw [if_pos h3]
      · have h4 : rg (nI 0) (nI 1) x4 = false := by
          simp only [Bool.not_eq_false] at h1 h2 h3
          rw [h1, h2, h3] at h
          simpa using h
        rw [if_neg h3, if_neg (not_not_intro h4)]
-- the class's
theorem s_lowTerms (hp : pH) {u l : Nat} (hu : u < 100) (hl0 : 0 < l) (hl : l < 100) {p : Nat} (hp2 : p < 2) : cl pg 95 [.int (nI u), .int (nI l), .int (nI p)] hp = q_i (nI ((if p = 0 then u else l) / Nat.gcd u l)) hp := by
  have hgp : 0 < Nat.gcd u l := Nat.gcd_pos_of_pos_right _ hl0
  have hgl : Nat.gcd u l ≤ l := Nat.le_of_dvd hl0 (Nat.gcd_dvd_right _ _)
  have key : ∀ t, t < 100 → t / 1 < 100 → ∀ d, Nat.gcd u l ≤ d → d ≤ l → dn pg 95 8 [some (.int (nI u)), some (.int (nI l)), some (.int (nI p)), some (.int (nI t)), some (.int (nI d))] [] hp = q_i (nI (t / Nat.gcd u l)) hp := by
    intro t ht _ d
    induction d with
    | zero =>
      intro h1 h2
      omega
    | succ d ih =>
      intro h1 h2
      rw [B95_8]
      by_cases hd0 : d = 0
      · have : Nat.gcd u l = 1 := by omega
        rw [if_pos (nI_le (by omega) (by omega)), this, Nat.div_one]
      · have hn : ¬ nI (d + 1) = nI 0 := fun z => absurd ((nI_eq (by omega) (by omega)).mp z) (by omega)
        have hm : ∀ t, t % (d + 1) < 2 ^ 31 := fun t => Nat.lt_trans (Nat.mod_lt t (by omega)) (by omega)
        rw [if_neg (nI_ge (by omega) (by omega)), if_neg hn, if_neg hn, if_neg hn, rem_I (by omega) (by omega) (by omega), rem_I (by omega) (by omega) (by omega)]
        have nxt : ¬ (u % (d + 1) = 0 ∧ l % (d + 1) = 0) → dn pg 95 23 [some (.int (nI u)), some (.int (nI l)), some (.int (nI p)), some (.int (nI t)), some (.int (nI (d + 1)))] [] hp = q_i (nI (t / Nat.gcd u l)) hp := by
          intro hq
          rw [B95_23 (nl_int _), pk_m1]
          refine ih ?_ (by omega)
          rcases Nat.lt_or_ge d (Nat.gcd u l) with h | h
          · have : Nat.gcd u l = d + 1 := by omega
            exact absurd ⟨Nat.mod_eq_zero_of_dvd (this ▸ Nat.gcd_dvd_left u l), Nat.mod_eq_zero_of_dvd (this ▸ Nat.gcd_dvd_right u l)⟩ hq
          · exact h
        by_cases cu : u % (d + 1) = 0
        · rw [if_neg (not_not_intro (congrArg nI cu))]
          by_cases cl' : l % (d + 1) = 0
          · have g1 : d + 1 ∣ Nat.gcd u l := Nat.dvd_gcd (Nat.dvd_of_mod_eq_zero cu) (Nat.dvd_of_mod_eq_zero cl')
            have g2 := Nat.le_of_dvd hgp g1
            have : Nat.gcd u l = d + 1 := by omega
            rw [if_neg (not_not_intro (congrArg nI cl')), this, pk_div (by omega) (by omega) (by omega)]
          · rw [if_pos (fun z => cl' ((nI_eq (hm l) (by omega)).mp z)), nxt (fun q => cl' q.2)]
        · rw [if_pos (fun z => cu ((nI_eq (hm u) (by omega)).mp z)), nxt (fun q => cu q.1)]
  rw [E95, B95_0]
  by_cases hp0 : p = 0
  · rw [if_neg (not_not_intro (congrArg nI hp0)), B95_5 (nl_int _), if_pos hp0]
    exact key u hu (by rw [Nat.div_one]; exact hu) l hgl (Nat.le_refl _)
  · rw [if_pos (fun z => hp0 ((nI_eq (by omega) (by omega)).mp z)), B95_5 (nl_int _), if_neg hp0]
    exact key l hl (by rw [Nat.div_one]; exact hl) l hgl (Nat.le_refl _)
theorem s_votes (hp : pH) (ha : a ≤ 20) (hb : b ≤ 20) {w p : Nat} (hw : w < 2) (hp2 : p < 2) : cl pg 94 [.ref o, .int (nI a), .int (nI b), .int (nI w), .int (nI p)] hp = q_l (lN (vtN a b w p)) hp := by
  have r1 : ∀ c, c ≤ 20 → rg (nI 0) (nI 20) (nI c) = true := by
    intro c hc
    rw [rg_nI (by omega) (by decide) (by decide)]
    simp
    omega
  have r2 : ∀ c, c < 2 → rg (nI 0) (nI 1) (nI c) = true := by
    intro c hc
    rw [rg_nI (by omega) (by decide) (by decide)]
    simp
    omega
  rw [E94, B94_0]
  simp only [s_within, er_i, r1 a ha, r1 b hb, r2 w hw, r2 p hp2, bI_t, one_ne, if_false, not_false_eq_true, if_true]
  have fin : ∀ u' v6, (if u' < nI 0 then nI 0 else u') = nI (vtU a b w) → dn pg 94 43 [some (.ref o), some (.int (nI a)), some (.int (nI b)), some (.int (nI w)), some (.int (nI p)), some (.int u'), v6] [.int (nI (vtL a b w))] hp = q_l (lN (vtN a b w p)) hp := by
    intro u' v6 hu
    have hvl : vtL a b w ≤ 40 := by
      unfold vtL
      split <;> omega
    have hvu : vtU a b w ≤ 40 := by
      unfold vtU
      split <;> omega
    rw [B94_43, hu]
    unfold vtN
    by_cases h0 : vtL a b w = 0
    · rw [if_neg (not_not_intro (congrArg nI h0)), B94_55, if_pos h0]
    · rw [if_pos (fun z => h0 ((nI_eq (by omega) (by omega)).mp z)), s_lowTerms hp (by omega) (by omega) (by omega) hp2, er_i, B94_55, if_neg h0, nI_l]
      refine Nat.lt_of_le_of_lt (Nat.div_le_self _ _) ?_
      split <;> omega
  by_cases hw0 : w = 0
  · have e1 : vtU a b w = a - b := if_pos hw0
    have e2 : vtL a b w = a + b := if_pos hw0
    rw [if_neg (not_not_intro (congrArg nI hw0)), B94_33 (nl_int _), if_neg (not_not_intro (congrArg nI hw0)), nI_add, ← e2]
    exact fin _ _ (by rw [max0 (by omega) (by omega), e1])
  · have e1 : vtU a b w = a + 1 - b := if_neg hw0
    have e2 : vtL a b w = a + 1 := if_neg hw0
    rw [if_pos (fun z => hw0 ((nI_eq (by omega) (by omega)).mp z)), B94_33 (nl_int _), if_pos (fun z => hw0 ((nI_eq (by omega) (by omega)).mp z)), nI_add, ← e2]
    exact fin _ _ (by rw [e2, max0 (by omega) (by omega), e1])
theorem s_votesNo (hp : pH) {x1 x2 x3 x4 : Int32} (h : rgV x1 x2 x3 x4 = false) : cl pg 94 [.ref o, .int x1, .int x2, .int x3, .int x4] hp = q_l (-1000000000000000002) hp := by
  unfold rgV at h
  rw [E94, B94_0]
  simp only [s_within, er_i, bI_0, B94_20]
  by_cases h1 : rg (nI 0) (nI 20) x1 = false
  · rw [if_pos h1]
  · rw [if_neg h1]
    by_cases h2 : rg (nI 0) (nI 20) x2 = false
    · rw [if_pos h2]
    · rw [if_neg h2]
      by_cases h3 : rg (nI 0) (nI 1) x3 = false
      · rw [if_pos h3]
      · have h4 : rg (nI 0) (nI 1) x4 = false := by
          simp only [Bool.not_eq_false] at h1 h2 h3
          rw [h1, h2, h3] at h
          simpa using h
        rw [if_neg h3, if_neg (not_not_intro h4)]
end VT
