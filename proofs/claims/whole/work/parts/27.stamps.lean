/-! Stamps: the class's book and the reference's. -/
/-- 0 is none, k + 1 is k -/
def fI (v : Nat) : Int32 := if v = 0 then -6 else nI (v - 1)
theorem fI_6 {v : Nat} (h : v < 2 ^ 30) : (fI v = -6) = (v = 0) := by
  unfold fI
  by_cases h0 : v = 0
  · simp [h0]
  · rw [if_neg h0]
    simp only [h0, eq_iff_iff, iff_false]
    exact nI_ne6 (by omega)
theorem fI_neg {v : Nat} (h : v < 2 ^ 30) : (fI v < nI 0) = (v = 0) := by
  unfold fI
  by_cases h0 : v = 0
  · simp only [h0, if_true, eq_iff_iff, iff_true]
    decide
  · rw [if_neg h0]
    simp only [h0, eq_iff_iff, iff_false]
    exact nI_nlt (by omega) (by omega)
theorem fI_0 : fI 0 = -6 := rfl
theorem fI_p {v : Nat} (h : v ≠ 0) : fI v = nI (v - 1) := if_neg h
/-- three worths -/
def wOK (a b c : Nat) : Prop := (0 < a ∧ a ≤ 20) ∧ (0 < b ∧ b ≤ 20) ∧ 0 < c ∧ c ≤ 20
theorem lB_wo {hp : pH} {o : Nat} {x : aB} (hx : iB hp o x) (F : Int32 → Option pR) : qn_a hp (o + 1) 0 F = F (nI 3) := en_a (hx 1 (Nat.le_of_ble_eq_true rfl)) F
theorem lB_wos {hp : pH} {o : Nat} {x : aB} (hx : iB hp o x) (y : aB) (F : Int32 → Option pR) : qn_a (sB hp o y) (o + 1) 0 F = F (nI 3) := lB_wo (iB_s hx) F
section BK
variable {hp : pH} {o a b c : Nat} {ro : Nat → Int32}
theorem s_open {x : aB} (hx : iB hp o x) (hl : x.1.length = 3) (a b c : Nat) : cl pg 73 [.ref o, .int (nI a), .int (nI b), .int (nI c)] hp = q_v (sB hp o ([a, b, c], x.2)) := by
  obtain ⟨wo, ro⟩ := x
  dsimp only at hl
  rw [E73, B73_0, gB_0 hx, wB_wo hx (by omega) hl, gB_0s hx, wB_wos hx (by omega) (by simpa using hl), gB_0s hx, wB_wos hx (by omega) (by simpa using hl)]
  match wo, hl with
  | [_, _, _], _ => rfl
theorem wo_3 {i : Nat} (h : i < 3) : [a, b, c].getD i 0 = if i = 0 then a else if i = 1 then b else c := by
  match i, h with
  | 0, _ => rfl
  | 1, _ => rfl
  | 2, _ => rfl
/-- the value of the row at s, over the first j worths -/
def cur3 (a b c s : Nat) : Nat → Nat
  | 0 => 0
  | 1 => mn 0 (bfr (fwN a b c) s a)
  | 2 => mn (mn 0 (bfr (fwN a b c) s a)) (bfr (fwN a b c) s b)
  | _ => mn (mn (mn 0 (bfr (fwN a b c) s a)) (bfr (fwN a b c) s b)) (bfr (fwN a b c) s c)
theorem cur3_s (a b c s j : Nat) (h : j < 3) : cur3 a b c s (j + 1) = mn (cur3 a b c s j) (bfr (fwN a b c) s ([a, b, c].getD j 0)) := by
  match j, h with
  | 0, _ => rfl
  | 1, _ => rfl
  | 2, _ => rfl
theorem bfr_le (ha : 0 < a) (hb : 0 < b) (hc : 0 < c) {s w : Nat} : bfr (fwN a b c) s w ≤ s + 1 := by
  unfold bfr
  split
  · have := fwN_le ha hb hc (s - w)
    omega
  · omega
theorem mn_le2 {cur bef k : Nat} (h1 : cur ≤ k) (h2 : bef ≤ k) : mn cur bef ≤ k + 1 := by
  unfold mn
  split
  · omega
  · split <;> omega
theorem cur3_le (ha : 0 < a) (hb : 0 < b) (hc : 0 < c) (s : Nat) : ∀ j, j ≤ 3 → cur3 a b c s j ≤ s + 1 + j
  | 0, _ => Nat.zero_le _
  | j + 1, h => by
    rw [cur3_s a b c s j (by omega)]
    have := cur3_le ha hb hc s j (by omega)
    have h3 : bfr (fwN a b c) s ([a, b, c].getD j 0) ≤ s + 1 + j := Nat.le_trans (bfr_le ha hb hc) (by omega)
    have := mn_le2 this h3
    omega
/-- what the rows hold after the sums up to k -/
def fwR (a b c : Nat) (k : Nat) (ro : Nat → Int32) : Prop := ∀ s, s ≤ k → ro s = fI (fwN a b c s)
theorem s_countFewest (hx : iB hp o ([a, b, c], ro)) (hW : wOK a b c) {m : Nat} (hm : m ≤ 400) : ∃ ro', cl pg 75 [.ref o, .int (nI m)] hp = q_v (sB hp o ([a, b, c], ro')) ∧ fwR a b c m ro' := by
  obtain ⟨⟨ha, ha2⟩, ⟨hb, hb2⟩, hc, hc2⟩ := hW
  -- over the worths
  have inn : ∀ k j, j + k = 3 → ∀ s, 0 < s → s ≤ m → ∀ ro1 : Nat → Int32, (∀ i, i < s → ro1 i = fI (fwN a b c i)) → ro1 s = fI (cur3 a b c s j) → ∀ v6 v7, ∃ v4 v5 v6' v7' ro2, dn pg 75 26 [some (.ref o), some (.int (nI m)), some (.int (nI s)), some (.ref (o + 1)), some (.int (nI 3)), some (.int (nI j)), v6, v7] [] (sB hp o ([a, b, c], ro1)) = dn pg 75 7 [some (.ref o), some (.int (nI m)), some (.int (nI (s + 1))), some (.ref (o + 1)), v4, v5, v6', v7'] [] (sB hp o ([a, b, c], ro2)) ∧ (∀ i, i < s → ro2 i = fI (fwN a b c i)) ∧ ro2 s = fI (cur3 a b c s 3) := by
    intro k
    induction k with
    | zero =>
      intro j hj s hs hsm ro1 h1 h2 v6 v7
      have : j = 3 := by omega
      subst this
      refine ⟨some (.int (nI 3)), some (.int (nI 3)), v6, v7, ro1, ?_, h1, h2⟩
      rw [B75_26 (nl_int _), if_pos (by decide), nI_add]
    | succ k ih =>
      intro j hj s hs hsm ro1 h1 h2 v6 v7
      have hw : 0 < [a, b, c].getD j 0 ∧ [a, b, c].getD j 0 ≤ 20 := by
        rw [wo_3 (by omega)]
        split
        · exact ⟨ha, ha2⟩
        · split
          · exact ⟨hb, hb2⟩
          · exact ⟨hc, hc2⟩
      have es := cur3_s a b c s j (by omega)
      have hcl := cur3_le ha hb hc s j (by omega)
      have hbl := bfr_le ha hb hc (s := s) (w := [a, b, c].getD j 0)
      generalize hwe : [a, b, c].getD j 0 = w at hw es hbl
      generalize hbe : bfr (fwN a b c) s w = be at es hbl
      have body : ∀ ro3 v6 v7, ro3 = (if be ≠ 0 ∧ (cur3 a b c s j = 0 ∨ be + 1 < cur3 a b c s j) then upd ro1 s (nI be) else ro1) → pm_nl v6 = true → ∃ v4 v5 v6' v7' ro2, dn pg 75 71 [some (.ref o), some (.int (nI m)), some (.int (nI s)), some (.ref (o + 1)), some (.int (nI 3)), some (.int (nI j)), v6, v7] [] (sB hp o ([a, b, c], ro3)) = dn pg 75 7 [some (.ref o), some (.int (nI m)), some (.int (nI (s + 1))), some (.ref (o + 1)), v4, v5, v6', v7'] [] (sB hp o ([a, b, c], ro2)) ∧ (∀ i, i < s → ro2 i = fI (fwN a b c i)) ∧ ro2 s = fI (cur3 a b c s 3) := by
        intro ro3 v6 v7 hro hv
        rw [B75_71 (nl_int _), nI_add]
        refine ih (j + 1) (by omega) s hs hsm ro3 ?_ ?_ v6 v7
        · intro i hi
          rw [hro]
          split
          · rw [pk_un (by omega)]
            exact h1 i hi
          · exact h1 i hi
        · rw [hro, es]
          unfold mn
          by_cases hb0 : be = 0
          · rw [if_neg (by omega), if_pos hb0, h2]
          · by_cases hc0 : cur3 a b c s j = 0 ∨ be + 1 < cur3 a b c s j
            · rw [if_pos ⟨hb0, hc0⟩, if_neg hb0, if_pos hc0, pk_us, fI_p (by omega)]
              rfl
            · rw [if_neg (fun q => hc0 q.2), if_neg hb0, if_neg hc0, h2]
      have at46 : ∀ v6, pm_nl v6 = true → ∃ v4 v5 v6' v7' ro2, dn pg 75 46 [some (.ref o), some (.int (nI m)), some (.int (nI s)), some (.ref (o + 1)), some (.int (nI 3)), some (.int (nI j)), v6, v7] [.int (fI be)] (sB hp o ([a, b, c], ro1)) = dn pg 75 7 [some (.ref o), some (.int (nI m)), some (.int (nI (s + 1))), some (.ref (o + 1)), v4, v5, v6', v7'] [] (sB hp o ([a, b, c], ro2)) ∧ (∀ i, i < s → ro2 i = fI (fwN a b c i)) ∧ ro2 s = fI (cur3 a b c s 3) := by
        intro v6 hv
        rw [B75_46 hv, gB_1s hx, rB_ros hx _ (i := s) (by omega), gB_1s hx, rB_ros hx _ (i := s) (by omega)]
        dsimp only
        simp only [h2, fI_6 (v := be) (by omega), fI_6 (v := cur3 a b c s j) (by omega)]
        by_cases hb0 : be = 0
        · rw [if_pos hb0]
          exact body ro1 _ _ (by rw [if_neg (by omega)]) hv
        · have ebe : fI be + nI 1 = nI be := by
            rw [fI_p hb0, nI_add, Nat.sub_add_cancel (by omega)]
          rw [if_neg hb0]
          by_cases hc0 : cur3 a b c s j = 0
          · rw [if_pos hc0, B75_64, gB_1s hx, ebe, wB_ros hx (by omega)]
            exact body _ _ _ (by rw [if_pos ⟨hb0, Or.inl hc0⟩]) hv
          · rw [if_neg hc0, ebe, fI_p hc0]
            by_cases hlt : be + 1 < cur3 a b c s j
            · rw [if_neg (nI_ge (by omega) (by omega)), B75_64, gB_1s hx, ebe, wB_ros hx (by omega)]
              exact body _ _ _ (by rw [if_pos ⟨hb0, Or.inr hlt⟩]) hv
            · rw [if_pos (nI_le (by omega) (by omega))]
              exact body ro1 _ _ (by rw [if_neg (fun q => by omega)]) hv
      rw [B75_26 (nl_int _), if_neg (nI_ge (by omega) (by omega)), rB_wos hx _ (i := j) (by omega)]
      dsimp only
      rw [hwe]
      by_cases hsw : w ≤ s
      · have hbe' : be = fwN a b c (s - w) := by
          rw [← hbe]
          exact if_pos hsw
        rw [if_neg (nI_nlt hsw (by omega)), if_neg (nI_ge (by omega) (by omega)), gB_1s hx, pk_sub hsw, rB_ros hx _ (i := s - w) (by omega)]
        dsimp only
        rw [h1 (s - w) (by omega), ← hbe']
        exact at46 _ (nl_int _)
      · have hbe' : be = 0 := by
          rw [← hbe]
          exact if_neg hsw
        have h46 := at46 (some (.int (nI w))) (nl_int _)
        rw [if_pos (nI_lt (by omega) (by omega)), B75_45]
        rw [hbe', fI_0] at h46
        exact h46
  have key : ∀ k s, s + k = m + 1 → 0 < s → ∀ ro1 : Nat → Int32, (∀ i, i < s → ro1 i = fI (fwN a b c i)) → ∀ v3 v4 v5 v6 v7, ∃ ro', dn pg 75 7 [some (.ref o), some (.int (nI m)), some (.int (nI s)), v3, v4, v5, v6, v7] [] (sB hp o ([a, b, c], ro1)) = q_v (sB hp o ([a, b, c], ro')) ∧ fwR a b c m ro' := by
    intro k
    induction k with
    | zero =>
      intro s hs h0 ro1 h1 v3 v4 v5 v6 v7
      exact ⟨ro1, by rw [B75_7, if_pos (nI_lt (by omega) (by omega)), B75_75], fun i hi => h1 i (by omega)⟩
    | succ k ih =>
      intro s hs h0 ro1 h1 v3 v4 v5 v6 v7
      obtain ⟨v4', v5', v6', v7', ro2, e, h2, h3⟩ := inn 3 0 rfl s h0 (by omega) (upd ro1 s (-6)) (fun i hi => by rw [pk_un (by omega)]; exact h1 i hi) pk_us v6 v7
      obtain ⟨ro', e', h'⟩ := ih (s + 1) (by omega) (by omega) ro2 (by
        intro i hi
        by_cases hq : i = s
        · subst hq
          rw [h3, fwN_s ha hb hc h0]
          rfl
        · exact h2 i (by omega)) (some (.ref (o + 1))) v4' v5' v6' v7'
      refine ⟨ro', ?_, h'⟩
      rw [B75_7, if_neg (nI_nlt (by omega) (by omega)), if_neg (nI_ge (by omega) (by omega)), gB_1s hx, wB_ros hx (by omega), gB_0s hx, lB_wos hx, e, e']
  rw [E75, B75_0 (nl_int _), gB_1 hx, wB_ro hx (by omega)]
  exact key m 1 (by omega) (by omega) _ (fun i hi => by
    have : i = 0 := by omega
    subst this
    rw [pk_us, fwN_0]
    rfl) _ _ _ _ _
theorem s_fewestFor (hx : iB hp o ([a, b, c], ro)) (hW : wOK a b c) {n : Nat} (hn : n ≤ 200) : ∃ ro', cl pg 74 [.ref o, .int (nI n)] hp = q_i (fI (fwN a b c n)) (sB hp o ([a, b, c], ro')) := by
  obtain ⟨ro', e, h⟩ := s_countFewest hx hW (m := n) (by omega)
  refine ⟨ro', ?_⟩
  rw [E74, B74_0, vB hx, e, er_v, s_within, er_i, rgb (by omega) (by decide) (by decide)]
  simp only [bI_0]
  rw [if_neg (by simp; omega), gB_1s hx, rB_ros hx _ (i := n) (by omega), B74_14]
  dsimp only
  rw [h n (Nat.le_refl _)]
theorem s_haveCommon (hx : iB hp o ([a, b, c], ro)) (hW : wOK a b c) : cl pg 78 [.ref o] hp = q_i (bI (decide (1 < Nat.gcd (Nat.gcd a b) c))) hp := by
  obtain ⟨⟨ha, ha2⟩, ⟨hb, hb2⟩, hc, hc2⟩ := hW
  rw [E78, B78_0 (nl_ref _)]
  have key : ∀ k d, d + k = 21 → 2 ≤ d → (∀ e, 2 ≤ e → e < d → ¬ (a % e = 0 ∧ b % e = 0 ∧ c % e = 0)) → dn pg 78 2 [some (.ref o), some (.int (nI d))] [] hp = q_i (bI (decide (1 < Nat.gcd (Nat.gcd a b) c))) hp := by
    intro k
    induction k with
    | zero =>
      intro d hd h2 hn
      have : d = 21 := by omega
      subst this
      rw [B78_2, if_pos (by decide), ez0, decide_eq_false]
      · rfl
      · intro hg
        have d1 : Nat.gcd (Nat.gcd a b) c ∣ Nat.gcd a b := Nat.gcd_dvd_left _ _
        have d2 : Nat.gcd (Nat.gcd a b) c ∣ c := Nat.gcd_dvd_right _ _
        have d3 : Nat.gcd (Nat.gcd a b) c ∣ a := Nat.dvd_trans d1 (Nat.gcd_dvd_left _ _)
        have d4 : Nat.gcd (Nat.gcd a b) c ∣ b := Nat.dvd_trans d1 (Nat.gcd_dvd_right _ _)
        have := Nat.le_of_dvd ha d3
        exact hn _ hg (by omega) ⟨Nat.mod_eq_zero_of_dvd d3, Nat.mod_eq_zero_of_dvd d4, Nat.mod_eq_zero_of_dvd d2⟩
    | succ k ih =>
      intro d hd h2 hn
      have hd0 : ¬ nI d = nI 0 := fun z => absurd ((nI_eq (by omega) (by omega)).mp z) (by omega)
      have hm : ∀ t, t % d < 2 ^ 31 := fun t => Nat.lt_trans (Nat.mod_lt t (by omega)) (by omega)
      rw [B78_2, if_neg (nI_nlt (by omega) (by omega)), gB_0 hx, rB_wo hx (i := 0) (by omega), gB_0 hx, rB_wo hx (i := 1) (by omega), gB_0 hx, rB_wo hx (i := 2) (by omega)]
      simp only [wo_3 (show (0 : Nat) < 3 by omega), wo_3 (show (1 : Nat) < 3 by omega), wo_3 (show (2 : Nat) < 3 by omega), if_true, if_neg (show ¬ (1 : Nat) = 0 by omega), if_neg (show ¬ (2 : Nat) = 0 by omega), if_neg (show ¬ (2 : Nat) = 1 by omega), if_neg hd0]
      rw [rem_I (a := a) (by omega) (by omega) (by omega), rem_I (a := b) (by omega) (by omega) (by omega), rem_I (a := c) (by omega) (by omega) (by omega)]
      have nxt : ¬ (a % d = 0 ∧ b % d = 0 ∧ c % d = 0) → dn pg 78 28 [some (.ref o), some (.int (nI d))] [] hp = q_i (bI (decide (1 < Nat.gcd (Nat.gcd a b) c))) hp := by
        intro hq
        rw [B78_28 (nl_ref _), nI_add]
        refine ih (d + 1) (by omega) (by omega) fun e h1 h3 => ?_
        by_cases he : e = d
        · rw [he]
          exact hq
        · exact hn e h1 (by omega)
      by_cases ca : a % d = 0
      · rw [if_neg (not_not_intro (congrArg nI ca))]
        by_cases cb : b % d = 0
        · rw [if_neg (not_not_intro (congrArg nI cb))]
          by_cases cc : c % d = 0
          · rw [if_neg (not_not_intro (congrArg nI cc)), ez1]
            have g1 : d ∣ Nat.gcd (Nat.gcd a b) c := Nat.dvd_gcd (Nat.dvd_gcd (Nat.dvd_of_mod_eq_zero ca) (Nat.dvd_of_mod_eq_zero cb)) (Nat.dvd_of_mod_eq_zero cc)
            have g2 := Nat.le_of_dvd (Nat.gcd_pos_of_pos_right _ hc) g1
            rw [decide_eq_true (by omega)]
            rfl
          · rw [if_pos (fun z => cc ((nI_eq (hm c) (by omega)).mp z)), nxt (fun q => cc q.2.2)]
        · rw [if_pos (fun z => cb ((nI_eq (hm b) (by omega)).mp z)), nxt (fun q => cb q.2.1)]
      · rw [if_pos (fun z => ca ((nI_eq (hm a) (by omega)).mp z)), nxt (fun q => ca q.1)]
  exact key 19 2 rfl (by omega) (fun e h1 h2 => by omega)
def gpI (z : Option Nat) : Int32 := z.elim (-6) nI
theorem s_greatestGap (hx : iB hp o ([a, b, c], ro)) (hW : wOK a b c) : ∃ ro', cl pg 77 [.ref o] hp = q_i (if 1 < Nat.gcd (Nat.gcd a b) c then -6 else gpI (gpT (fwN a b c) 400)) (sB hp o ([a, b, c], ro')) := by
  by_cases hg : 1 < Nat.gcd (Nat.gcd a b) c
  · refine ⟨ro, ?_⟩
    rw [E77, B77_0, vB hx, s_haveCommon hx hW, er_i, decide_eq_true hg, if_neg (by decide), if_pos hg, sB_i hx]
  · obtain ⟨ro', e, h⟩ := s_countFewest hx hW (m := 400) (Nat.le_refl _)
    refine ⟨ro', ?_⟩
    obtain ⟨⟨ha, ha2⟩, ⟨hb, hb2⟩, hc, hc2⟩ := hW
    rw [E77, B77_0, vB hx, s_haveCommon hx ⟨⟨ha, ha2⟩, ⟨hb, hb2⟩, hc, hc2⟩, er_i, decide_eq_false hg, if_pos (show bI false = nI 0 from rfl), vB hx, e, er_v, if_neg hg]
    have key : ∀ s, s ≤ 400 → dn pg 77 10 [some (.ref o), some (.int (nI s))] [] (sB hp o ([a, b, c], ro')) = q_i (gpI (gpT (fwN a b c) s)) (sB hp o ([a, b, c], ro')) := by
      intro s
      induction s with
      | zero =>
        intro _
        rw [B77_10, if_pos (by decide)]
        rfl
      | succ s ih =>
        intro hs
        have hl := fwN_le ha hb hc (s + 1)
        rw [B77_10, if_neg (nI_ge (by omega) (by omega)), gB_1s hx, rB_ros hx _ (i := s + 1) (by omega)]
        dsimp only
        simp only [h (s + 1) hs, fI_6 (v := fwN a b c (s + 1)) (by omega)]
        have e2 : gpT (fwN a b c) (s + 1) = if fwN a b c (s + 1) = 0 then some (s + 1) else gpT (fwN a b c) s := rfl
        rw [e2]
        by_cases h0 : fwN a b c (s + 1) = 0
        · rw [if_neg (not_not_intro h0), if_pos h0]
          rfl
        · rw [if_pos h0, if_neg h0, pk_m1, ih (by omega)]
    exact key 400 (Nat.le_refl _)
theorem s_bWays (hx : iB hp o ([a, b, c], ro)) (hW : wOK a b c) {n : Nat} (hn : n ≤ 200) : ∃ ro', cl pg 76 [.ref o, .int (nI n)] hp = q_i (nI (wysN a b c n)) (sB hp o ([a, b, c], ro')) := by
  obtain ⟨⟨ha, ha2⟩, ⟨hb, hb2⟩, hc, hc2⟩ := hW
  have zer : ∀ k s, s + k = 401 → ∀ ro1 : Nat → Int32, (∀ i, i < s → ro1 i = nI (dlt i)) → ∀ v3 v4 v5 v6, ∃ ro', dn pg 76 2 [some (.ref o), some (.int (nI n)), some (.int (nI s)), v3, v4, v5, v6] [] (sB hp o ([a, b, c], ro1)) = dn pg 76 24 [some (.ref o), some (.int (nI n)), some (.ref (o + 1)), some (.int (nI 3)), some (.int (nI 0)), v5, v6] [] (sB hp o ([a, b, c], ro')) ∧ ∀ i, i < 401 → ro' i = nI (dlt i) := by
    intro k
    induction k with
    | zero =>
      intro s hs ro1 h1 v3 v4 v5 v6
      have : s = 401 := by omega
      subst this
      exact ⟨ro1, by rw [B76_2 (nl_int _), if_pos (by decide), gB_0s hx, lB_wos hx], h1⟩
    | succ k ih =>
      intro s hs ro1 h1 v3 v4 v5 v6
      have st : ∀ v, v = nI (dlt s) → ∃ ro', dn pg 76 13 [some (.ref o), some (.int (nI n)), some (.int (nI s)), v3, v4, v5, v6] [.int v, .int (nI s), .ref (o + 2)] (sB hp o ([a, b, c], ro1)) = dn pg 76 24 [some (.ref o), some (.int (nI n)), some (.ref (o + 1)), some (.int (nI 3)), some (.int (nI 0)), v5, v6] [] (sB hp o ([a, b, c], ro')) ∧ ∀ i, i < 401 → ro' i = nI (dlt i) := by
        intro v hv
        obtain ⟨ro', e, h⟩ := ih (s + 1) (by omega) (upd ro1 s v) (by
          intro i hi
          by_cases hq : i = s
          · rw [hq, pk_us, hv]
          · rw [pk_un hq]
            exact h1 i (by omega)) v3 v4 v5 v6
        refine ⟨ro', ?_, h⟩
        rw [B76_13 (nl_int _), wB_ros hx (by omega), nI_add, e]
      rw [B76_2 (nl_int _), if_neg (nI_ge (by omega) (by omega)), gB_1s hx]
      by_cases h0 : s = 0
      · subst h0
        rw [if_neg (not_not_intro rfl)]
        exact st _ rfl
      · rw [if_pos (fun z => absurd ((nI_eq (by omega) (by omega)).mp z) (by omega))]
        refine st _ ?_
        unfold dlt
        rw [if_neg h0]
  have one' : ∀ w, 0 < w → w ≤ 20 → ∀ f : Nat → Nat, ∀ ro1 : Nat → Int32, (∀ i, i ≤ n → ro1 i = nI (f i)) → ∀ j v6, j < 3 → [a, b, c].getD j 0 = w → ∀ v5, ∃ v5' v6' ro', dn pg 76 24 [some (.ref o), some (.int (nI n)), some (.ref (o + 1)), some (.int (nI 3)), some (.int (nI j)), v5, v6] [] (sB hp o ([a, b, c], ro1)) = dn pg 76 24 [some (.ref o), some (.int (nI n)), some (.ref (o + 1)), some (.int (nI 3)), some (.int (nI (j + 1))), v5', v6'] [] (sB hp o ([a, b, c], ro')) ∧ ∀ i, i ≤ n → ro' i = nI (Dw w f i) := by
    intro w hw hw2 f ro1 h1 j v6 hj hjw v5
    have hlo : ∀ i, i < w → Dw w f i = f i := by
      intro i hi
      rw [Dw_eq hw, if_neg (by omega), Nat.add_zero]
    rw [B76_24, if_neg (nI_ge (by omega) (by omega)), rB_wos hx _ (i := j) hj]
    dsimp only
    rw [hjw]
    by_cases hwn : w ≤ n
    · -- over the row
      have hrow : ∀ k s, s + k = n + 1 → w ≤ s → ∀ ro1 : Nat → Int32, (∀ i, i < s → ro1 i = nI (Dw w f i)) → (∀ i, s ≤ i → i ≤ n → ro1 i = nI (f i)) → ∃ v6' ro', dn pg 76 33 [some (.ref o), some (.int (nI n)), some (.ref (o + 1)), some (.int (nI 3)), some (.int (nI j)), some (.int (nI w)), some (.int (nI s))] [] (sB hp o ([a, b, c], ro1)) = dn pg 76 24 [some (.ref o), some (.int (nI n)), some (.ref (o + 1)), some (.int (nI 3)), some (.int (nI (j + 1))), some (.int (nI w)), v6'] [] (sB hp o ([a, b, c], ro')) ∧ ∀ i, i ≤ n → ro' i = nI (Dw w f i) := by
        intro k
        induction k with
        | zero =>
          intro s hs hws ro1 h1 h2
          refine ⟨some (.int (nI s)), ro1, ?_, fun i hi => h1 i (by omega)⟩
          rw [B76_33, if_neg (nI_ge (by omega) (by omega)), if_pos (nI_lt (by omega) (by omega)), B76_56 (nl_int _), nI_add]
        | succ k ih =>
          intro s hs hws ro1 h1 h2
          obtain ⟨v6', ro', e, h⟩ := ih (s + 1) (by omega) (by omega) (upd ro1 s (nI (f s) + nI (Dw w f (s - w)))) (by
            intro i hi
            by_cases hq : i = s
            · rw [hq, pk_us, nI_add, Dw_eq hw f s, if_pos hws]
            · rw [pk_un hq]
              exact h1 i (by omega)) (by
            intro i hi hi2
            rw [pk_un (by omega)]
            exact h2 i (by omega) hi2)
          refine ⟨v6', ro', ?_, h⟩
          rw [B76_33, if_neg (nI_ge (by omega) (by omega)), if_neg (nI_nlt (by omega) (by omega)), if_neg (nI_ge (by omega) (by omega)), gB_1s hx, rB_ros hx _ (i := s) (by omega), gB_1s hx, pk_sub hws, rB_ros hx _ (i := s - w) (by omega)]
          dsimp only
          rw [h2 s (Nat.le_refl _) (by omega), h1 (s - w) (by omega), wB_ros hx (by omega), nI_add s 1, e]
      obtain ⟨v6', ro', e, h⟩ := hrow (n + 1 - w) w (by omega) (Nat.le_refl _) ro1 (fun i hi => by rw [hlo i hi]; exact h1 i (by omega)) (fun i _ hi => h1 i hi)
      exact ⟨_, v6', ro', e, h⟩
    · refine ⟨some (.int (nI w)), some (.int (nI w)), ro1, ?_, fun i hi => by rw [hlo i (by omega)]; exact h1 i hi⟩
      rw [B76_33, if_neg (nI_ge (by omega) (by omega)), if_pos (nI_lt (by omega) (by omega)), B76_56 (nl_int _), nI_add]
  obtain ⟨ro1, e1, h1⟩ := zer 401 0 rfl ro (fun i hi => absurd hi (Nat.not_lt_zero _)) none none none none
  obtain ⟨v5, v6, ro2, e2, h2⟩ := one' a ha ha2 dlt ro1 (fun i hi => h1 i (by omega)) 0 none (by omega) rfl none
  obtain ⟨v5', v6', ro3, e3, h3⟩ := one' b hb hb2 _ ro2 h2 1 v6 (by omega) rfl v5
  obtain ⟨v5'', v6'', ro4, e4, h4⟩ := one' c hc hc2 _ ro3 h3 2 v6' (by omega) rfl v5'
  refine ⟨ro4, ?_⟩
  rw [sB_i hx] at e1
  rw [E76, B76_0 (nl_int _), e1, e2, e3, e4, B76_24, if_pos (by decide), s_within, er_i, rgb (by omega) (by decide) (by decide)]
  simp only [bI_0]
  rw [if_neg (by simp; omega), gB_1s hx, rB_ros hx _ (i := n) (by omega), B76_69]
  dsimp only
  rw [h4 n (Nat.le_refl _)]
  rfl
end BK
