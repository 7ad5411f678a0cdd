/-! The class: stamps, years, images, what is told. -/
section VM
variable {hp : pH} {o a b c : Nat} {x : aX}
theorem s_stampsNo (hp : pH) {x1 x2 x3 x4 x5 : Int32} (h : rgM x1 x2 x3 x4 x5 = false) : cl pg 72 [.ref o, .int x1, .int x2, .int x3, .int x4, .int x5] hp = q_i (-2) hp := by
  rw [E72, B72_0]
  simp only [s_within, er_i, bI_0, B72_25]
  unfold rgM at h
  by_cases h1 : rg (nI 1) (nI 20) x1 = false
  · rw [if_pos h1]
  · rw [if_neg h1]
    by_cases h2 : rg (nI 1) (nI 20) x2 = false
    · rw [if_pos h2]
    · rw [if_neg h2]
      by_cases h3 : rg (nI 1) (nI 20) x3 = false
      · rw [if_pos h3]
      · rw [if_neg h3]
        by_cases h4 : rg (nI 0) (nI 200) x4 = false
        · rw [if_pos h4]
        · rw [if_neg h4]
          have h5 : rg (nI 0) (nI 2) x5 = false := by
            simp only [Bool.not_eq_false] at h1 h2 h3 h4
            rw [h1, h2, h3, h4] at h
            simpa using h
          rw [if_neg (not_not_intro h5)]
theorem s_stamps (hx : iX hp o x) (hl : x.2.2.2.2.2.2.2.1.length = 3) (hW : wOK a b c) {n k : Nat} (hn : n ≤ 200) (hk : k ≤ 2) : ∃ bb : aB, bb.1.length = 3 ∧ cl pg 72 [.ref o, .int (nI a), .int (nI b), .int (nI c), .int (nI n), .int (nI k)] hp = q_i (stV a b c n k) (sX hp o (xB x bb)) := by
  have hx1 := iX_s (y := xB x ([a, b, c], x.2.2.2.2.2.2.2.2)) hx
  have hB1 : iB (sX hp o (xB x ([a, b, c], x.2.2.2.2.2.2.2.2))) (o + 57) ([a, b, c], x.2.2.2.2.2.2.2.2) := iX_B hx1
  have wr1 : ∀ u, sB (sX hp o (xB x ([a, b, c], x.2.2.2.2.2.2.2.2))) (o + 57) u = sX hp o (xB x u) := fun u => (sX_B hx1 u).trans (sX_s _ _ _ _)
  have r1 := hW.1
  have r2 := hW.2.1
  have r3 := hW.2.2
  have h0 : ∀ F, cl pg 72 [.ref o, .int (nI a), .int (nI b), .int (nI c), .int (nI n), .int (nI k)] hp = F → cl pg 72 [.ref o, .int (nI a), .int (nI b), .int (nI c), .int (nI n), .int (nI k)] hp = F := fun _ h => h
  have st : cl pg 72 [.ref o, .int (nI a), .int (nI b), .int (nI c), .int (nI n), .int (nI k)] hp = if ¬ nI k = nI 0 then if ¬ nI k = nI 1 then qr_i (cl pg 77 [.ref (o + 57)] (sX hp o (xB x ([a, b, c], x.2.2.2.2.2.2.2.2)))) (fun y hp => q_i y hp) else qr_i (cl pg 76 [.ref (o + 57), .int (nI n)] (sX hp o (xB x ([a, b, c], x.2.2.2.2.2.2.2.2)))) (fun y hp => q_i y hp) else qr_i (cl pg 74 [.ref (o + 57), .int (nI n)] (sX hp o (xB x ([a, b, c], x.2.2.2.2.2.2.2.2)))) (fun y hp => q_i y hp) := by
    rw [E72, B72_0, wiT (rgT r1.1 r1.2 (by decide)), er_i, if_neg n10, wiT (rgT r2.1 r2.2 (by decide)), er_i, if_neg n10, wiT (rgT r3.1 r3.2 (by decide)), er_i, if_neg n10, wiT (rgT (Nat.zero_le _) hn (by decide)), er_i, if_neg n10, wiT (rgT (Nat.zero_le _) hk (by decide)), er_i, if_pos n10, lX_7 hx, vB (iX_B hx), s_open (iX_B hx) hl, er_v, sX_B hx, lX_7 hx1, lX_7 hx1, lX_7 hx1, vB hB1, vB hB1, vB hB1]
    simp only [B72_51]
  rw [st]
  unfold stV
  by_cases k0 : k = 0
  · obtain ⟨ro', e⟩ := s_fewestFor hB1 hW hn
    refine ⟨([a, b, c], ro'), rfl, ?_⟩
    rw [if_neg (not_not_intro (congrArg nI k0)), if_pos k0, e, er_i, wr1]
  rw [if_pos (fun q => k0 ((nI_eq (by omega) (by omega)).mp q)), if_neg k0]
  by_cases k1 : k = 1
  · obtain ⟨ro', e⟩ := s_bWays hB1 hW hn
    refine ⟨([a, b, c], ro'), rfl, ?_⟩
    rw [if_neg (not_not_intro (congrArg nI k1)), if_pos k1, e, er_i, wr1]
  obtain ⟨ro', e⟩ := s_greatestGap hB1 hW
  refine ⟨([a, b, c], ro'), rfl, ?_⟩
  rw [if_pos (fun q => k1 ((nI_eq (by omega) (by omega)).mp q)), if_neg k1, e, er_i, wr1]
theorem s_actAsDrawn {w : aW} (hx : iW hp o w) (ok : okW w) {q : Nat} (hq : q < 65537) : cl pg 97 [.ref o, .int (nI q)] hp = q_v (sW hp o (yrS w q)) := by
  have d1 : nI q / nI 8 = nI (q / 8) := pk_div (by omega) (by omega) (by omega)
  have d2 : nI (q / 8) % nI 8 = nI (q / 8 % 8) := rem_I (by omega) (by omega) (by omega)
  have d3 : nI q / nI 64 = nI (q / 64) := pk_div (by omega) (by omega) (by omega)
  have d4 : nI (q / 64) % nI 8 = nI (q / 64 % 8) := rem_I (by omega) (by omega) (by omega)
  have d5 : nI (q / 64) % nI 9 = nI (q / 64 % 9) := rem_I (by omega) (by omega) (by omega)
  have d6 : nI q % nI 8 = nI (q % 8) := rem_I (by omega) (by omega) (by omega)
  have dk : (if nI (q / 8 % 8) < nI 1 then nI 1 else nI (q / 8 % 8)) = nI (yrK q) := by
    unfold yrK
    have : q / 8 % 8 < 8 := Nat.mod_lt _ (by omega)
    by_cases h : q / 8 % 8 = 0
    · rw [if_pos h, if_pos (nI_lt (by omega) (by omega))]
    · rw [if_neg h, if_neg (nI_nlt (by omega) (by omega))]
  have hk := yrK_lt q
  have hoo := yrO_ok q
  have hwh : q % 8 < 8 := Nat.mod_lt _ (by omega)
  have hb1 : yrO q < 8 ∨ yrK q = 6 := by
    rcases hoo with h | h
    · exact Or.inl h
    · exact Or.inr h.1
  have e28 : ∀ v1 v4 v5, pm_nl v4 = true → dn pg 97 28 [some (.ref o), v1, some (.int (nI (q % 8))), some (.int (nI (yrK q))), v4, v5] [.int (nI (yrO q))] hp = q_v (sW hp o (yrS w q)) := by
    intro v1 v4 v5 hv4
    have hwl : wny w (yrK q) (q % 8) (yrO q) < 2 ^ 31 := by
      unfold wny wnk
      (repeat' split) <;> omega
    rw [B97_28 hv4, vW hx, s_whyNot hx ok (by omega) hwh hb1, er_i]
    unfold yrS
    by_cases h0 : wny w (yrK q) (q % 8) (yrO q) = 0
    · rw [if_pos h0, h0, if_neg (not_not_intro rfl), vW hx, s_act hx ok (by omega) hwh hoo h0, er_i, B97_41]
    · rw [if_neg h0, if_pos (fun z => h0 ((nI_eq hwl (by omega)).mp z)), B97_41, sW_i hx]
  rw [E97, B97_0, d1, d2, dk, d3, d4, d5, d6, nI_add]
  by_cases h6 : yrK q = 6
  · have eo : yrO q = 1 + q / 64 % 9 := if_pos h6
    rw [if_neg (not_not_intro (congrArg nI h6)), ← eo]
    exact e28 _ _ _ (nl_int _)
  · have eo : yrO q = q / 64 % 8 := if_neg h6
    rw [if_pos (fun z => h6 ((nI_eq (by omega) (by omega)).mp z)), ← eo]
    exact e28 _ _ _ (nl_int _)
theorem s_year (hx : iX hp o x) (ok : okX x) {sd m z : Nat} (hs : sd ≤ 9999) (hm1 : 1 ≤ m) (hm : m ≤ 99) (hz : z ≤ 2) : ∃ w', okW w' ∧ cl pg 96 [.ref o, .int (nI sd), .int (nI m), .int (nI z)] hp = q_i (nI (yrV x.1.2.1 sd m z)) (sX hp o (xY x w')) := by
  have okw := ok.1.1
  have oky := ok.2.2.2.2.2.1
  have key : ∀ k e cur w v1, e + k = m → cur < 65537 → okW w → dn pg 96 27 [some (.ref o), v1, some (.int (nI m)), some (.int (nI z)), some (.int (nI cur)), some (.int (nI e))] [] (sX hp o (xY x w)) = q_i (nI (yrA (yrG k w cur) z)) (sX hp o (xY x (yrG k w cur))) ∧ okW (yrG k w cur) := by
    intro k
    induction k with
    | zero =>
      intro e cur w v1 he hc okw
      have : e = m := by omega
      subst this
      have hx' := iX_s (y := xY x w) hx
      have hY : iW (sX hp o (xY x w)) (o + 49) w := iX_Y hx'
      refine ⟨?_, okw⟩
      show _ = q_i (nI (yrA w z)) (sX hp o (xY x w))
      rw [B96_27, if_pos (nI_le (Nat.le_refl _) (by omega)), lX_5 hx', vW hY, s_treaties hY okw, er_i, lX_5 hx', gW_5 hY, s_bitCount okw.2.2.1, er_i, lX_5 hx', vW hY, s_peopleOf hY okw (by omega), er_i, B96_62, B96_62]
      unfold yrA
      by_cases z0 : z = 0
      · rw [if_neg (not_not_intro (congrArg nI z0)), if_pos z0]
      · rw [if_pos (fun q => z0 ((nI_eq (by omega) (by omega)).mp q)), if_neg z0]
        by_cases z1 : z = 1
        · rw [if_neg (not_not_intro (congrArg nI z1)), if_pos z1]
        · rw [if_pos (fun q => z1 ((nI_eq (by omega) (by omega)).mp q)), if_neg z1]
    | succ k ih =>
      intro e cur w v1 he hc okw
      have hx' := iX_s (y := xY x w) hx
      have hY : iW (sX hp o (xY x w)) (o + 49) w := iX_Y hx'
      have d0 : ((nI 75 * nI cur) + nI 74) % nI 65537 = nI (yrX cur) := by
        rw [pk_mul, nI_add, rem_I (by omega) (by omega) (by omega)]
        rfl
      have hc' := yrX_lt cur
      rw [B96_27, if_neg (nI_ge (by omega) (by omega)), lX_5 hx', d0, s_actAsDrawn hY okw hc', er_v, sX_Y hx', sX_s, nI_add]
      exact ih (e + 1) (yrX cur) (yrS w (yrX cur)) _ (by omega) hc' (yrS_ok okw _)
  obtain ⟨h1, h2⟩ := key m 0 sd (cpW x.2.2.2.2.2.1 x.1.2.1) (some (.int (nI sd))) (Nat.zero_add _) (by omega) okw
  refine ⟨_, h2, ?_⟩
  have ecp : cpW x.2.2.2.2.2.1 x.1.2.1 = uO x.1.2.1 x.2.2.2.2.2.1.2.2.2.2.1 := rfl
  have ea : yrA (yrG m (cpW x.2.2.2.2.2.1 x.1.2.1) sd) z = yrV x.1.2.1 sd m z := by
    rw [ecp]
    exact yrV_uO _ _ _ _ _
  rw [E96, B96_0, wiT (rgT (Nat.zero_le _) hs (by decide)), er_i, if_neg n10, wiT (rgT hm1 hm (by decide)), er_i, if_neg n10, wiT (rgT (Nat.zero_le _) hz (by decide)), er_i, if_pos n10, lX_5 hx, lX_0 hx, lX_w hx, vW (iX_Y hx), s_copyW (iX_Y hx) (iX_w hx) (by omega) oky.1 okw.1, er_v, sX_Y hx, ← ea]
  exact h1
theorem s_copyN {p : Nat} {n y : aN} (hx : iN hp o n) (hy : iN hp p y) (hd : p + 12 ≤ o ∨ o + 12 ≤ p) (okn : okN n) (oky : okN y) : cl pg 99 [.ref o, .ref p] hp = q_v (sN hp o (n.1, cpW n.2.1 y.2.1, y.2.2.1, y.2.2.2)) := by
  have hys : ∀ u, iN (sN hp o u) p y := fun u => isAt_other hy hd
  have hxs : ∀ u, iN (sN hp o u) o u := fun u => iN_s hx
  obtain ⟨a1, a2, a3⟩ := okn
  obtain ⟨b1, b2, b3⟩ := oky
  rw [E99, B99_0, gH_0 (iN_H hx), gH_0 (iN_H hy), vW (iN_W hx), s_copyW (iN_W hx) (iN_W hy) (by omega) a1.1 b1.1, er_v, sN_W hx, gH_1 (iN_H (hxs (n.1, cpW n.2.1 y.2.1, n.2.2))), gH_1 (iN_H (hys (n.1, cpW n.2.1 y.2.1, n.2.2))), vC (iN_C (hxs (n.1, cpW n.2.1 y.2.1, n.2.2))), s_copyC (iN_C (hxs (n.1, cpW n.2.1 y.2.1, n.2.2))) (iN_C (hys (n.1, cpW n.2.1 y.2.1, n.2.2))) (by omega) a2.1 b2.1, er_v, sN_C (hxs (n.1, cpW n.2.1 y.2.1, n.2.2)), sN_s, gH_2 (iN_H (hxs (n.1, cpW n.2.1 y.2.1, y.2.2.1, n.2.2.2))), gH_2 (iN_H (hys (n.1, cpW n.2.1 y.2.1, y.2.2.1, n.2.2.2))), vS (iN_S (hxs (n.1, cpW n.2.1 y.2.1, y.2.2.1, n.2.2.2))), s_copyS (iN_S (hxs (n.1, cpW n.2.1 y.2.1, y.2.2.1, n.2.2.2))) (iN_S (hys (n.1, cpW n.2.1 y.2.1, y.2.2.1, n.2.2.2))) (by omega) a3.1 b3.1, er_v, sN_S (hxs (n.1, cpW n.2.1 y.2.1, y.2.2.1, n.2.2.2)), sN_s]
abbrev imX (x : aX) (k : Nat) : aN := if k = 0 then x.2.1 else x.2.2.1
def xI (x : aX) (k : Nat) (n : aN) : aX := if k = 0 then (x.1, n, x.2.2) else (x.1, x.2.1, n, x.2.2.2)
def kpN (x : aX) (k : Nat) : aN := (true, cpW (imX x k).2.1 x.1.2.1, x.1.2.2.1, x.1.2.2.2)
theorem s_image (hx : iX hp o x) (ok : okX x) {k : Nat} (hk : k ≤ 1) : cl pg 98 [.ref o, .int (nI k)] hp = q_i (nI 1) (sX hp o (xI x k (kpN x k))) := by
  rw [E98, B98_0, wiT (rgT (Nat.zero_le _) hk (by decide)), er_i, if_pos n10]
  have e14 : ∀ (s : Nat) (n : aN) (wr : aN → aX), iN hp s n → okN n → o + 13 ≤ s → (∀ u, sN hp s u = sX hp o (wr u)) → dn pg 98 14 [some (.ref o), some (.int (nI k)), none] [.ref s] hp = q_i (nI 1) (sX hp o (wr (true, cpW n.2.1 x.1.2.1, x.1.2.2.1, x.1.2.2.2))) := by
    intro s n wr hn okn hs hw
    have h1 : ∀ u, iH (sN hp s u) s u.1 := fun u => iN_H (iN_s hn)
    rw [B98_14 (nl_int _), lX_0 hx, vH (iN_H hn), s_copyN hn (iX_0 hx) (by omega) okn ok.1, er_v, ez1, show nI 1 = bI true from rfl, pH_3 (h1 (n.1, cpW n.2.1 x.1.2.1, x.1.2.2.1, x.1.2.2.2)), sN_H (iN_s hn), sN_s, hw]
  by_cases k0 : k = 0
  · rw [if_neg (not_not_intro (congrArg nI k0)), lX_1 hx]
    have := e14 (o + 13) x.2.1 (fun u => (x.1, u, x.2.2)) (iX_1 hx) ok.2.1 (Nat.le_refl _) (sX_1 hx)
    unfold xI kpN imX
    rw [if_pos k0, if_pos k0]
    exact this
  · rw [if_pos (fun q => k0 ((nI_eq (by omega) (by omega)).mp q)), lX_2 hx]
    have := e14 (o + 25) x.2.2.1 (fun u => (x.1, x.2.1, u, x.2.2.2)) (iX_2 hx) ok.2.2.1 (by omega) (sX_2 hx)
    unfold xI kpN imX
    rw [if_neg k0, if_neg k0]
    exact this
def rsX (x : aX) (k : Nat) : aX := ((x.1.1, cpW x.1.2.1 (imX x k).2.1, (imX x k).2.2.1, (imX x k).2.2.2), x.2)
theorem s_restore (hx : iX hp o x) (ok : okX x) {k : Nat} (hk : k ≤ 1) : cl pg 102 [.ref o, .int (nI k)] hp = if (imX x k).1 = true then q_i (nI 1) (sX hp o (rsX x k)) else q_i (-3) hp := by
  rw [E102, B102_0, wiT (rgT (Nat.zero_le _) hk (by decide)), er_i, if_pos n10]
  have e14 : ∀ (s : Nat) (n : aN), iN hp s n → okN n → o + 13 ≤ s → dn pg 102 14 [some (.ref o), some (.int (nI k)), none] [.ref s] hp = if n.1 = true then q_i (nI 1) (sX hp o ((x.1.1, cpW x.1.2.1 n.2.1, n.2.2.1, n.2.2.2), x.2)) else q_i (-3) hp := by
    intro s n hn okn hs
    rw [B102_14 (nl_int _), gH_3 (iN_H hn), lX_0 hx, vH (iN_H (iX_0 hx)), s_copyN (iX_0 hx) hn (by omega) ok.1 okn, er_v, sX_0 hx]
    simp only [bI_0]
    cases n.1 <;> rfl
  by_cases k0 : k = 0
  · rw [if_neg (not_not_intro (congrArg nI k0)), lX_1 hx]
    have := e14 (o + 13) x.2.1 (iX_1 hx) ok.2.1 (Nat.le_refl _)
    unfold rsX imX
    rw [if_pos k0]
    exact this
  · rw [if_pos (fun q => k0 ((nI_eq (by omega) (by omega)).mp q)), lX_2 hx]
    have := e14 (o + 25) x.2.2.1 (iX_2 hx) ok.2.2.1 (by omega)
    unfold rsX imX
    rw [if_neg k0]
    exact this
theorem s_toldOne (hx : iX hp o x) {i q : Nat} (hi : i < 8) (hq : q < 10) : cl pg 104 [.ref o, .int (nI i), .int (nI q)] hp = q_i (if q = 0 then nI (x.1.2.1.1.getD i 0) else if q = 1 then nI (x.1.2.1.2.1.getD i 0) else if q = 2 then nI (x.1.2.1.2.2.1.getD i 0) else -2) hp := by
  have key : ∀ c, c < 8 → (nI q = nI c) = (q = c) := fun c hc => propext (nI_eq (by omega) (by omega))
  have hw := iX_w hx
  rw [E104, B104_0, lX_0 hx, lX_w hx, vW hw, s_nationOf hw hi, er_i, lX_0 hx, lX_w hx, vW hw, s_meshOf hw hi, er_i, lX_0 hx, lX_w hx, vW hw, s_tearsOf hw hi, er_i]
  simp only [key 0 (by omega), key 1 (by omega), key 2 (by omega)]
  (repeat' split) <;> rfl
theorem s_told (hx : iX hp o x) {j : Nat} (hj : j ≤ 179) : cl pg 103 [.ref o, .int (nI j)] hp = q_i (toN x.2.2.2.1.2.2.2.2.1 x.1.2.1 x.1.2.2.1 x.1.2.2.2.2.2 j) hp := by
  have key : ∀ c, c < 200 → (nI j = nI c) = (j = c) := fun c hc => propext (nI_eq (by omega) (by omega))
  have ri : ∀ a b : Nat, a < 200 → b < 200 → cl pg 11 [.int (nI j), .int (nI a), .int (nI b)] hp = q_i (bI (decide (a ≤ j ∧ j ≤ b))) hp := by
    intro a b ha hb
    rw [s_within, rgb (by omega) (by omega) (by omega)]
  have hw := iX_w hx
  have hc := iX_c hx
  have hh := iX_h hx
  rw [E103, B103_0, ri 10 17 (by omega) (by omega), er_i, ri 20 25 (by omega) (by omega), er_i, ri 30 35 (by omega) (by omega), er_i, ri 100 179 (by omega) (by omega), er_i]
  simp only [bI_0, key 0 (by omega), key 1 (by omega), key 2 (by omega), key 3 (by omega), key 4 (by omega), decide_eq_false_iff_not]
  unfold toN
  by_cases c2 : 10 ≤ j ∧ j ≤ 17
  · rw [if_neg (not_not_intro c2), if_pos c2, pk_sub c2.1, lX_0 hx, lX_w hx, vW hw, s_friendsOf hw (i := j - 10) (by omega), er_i]
  rw [if_pos c2, if_neg c2]
  by_cases c3 : 20 ≤ j ∧ j ≤ 25
  · rw [if_neg (not_not_intro c3), if_pos c3, pk_sub c3.1, lX_0 hx, lX_c hx, vC hc, s_minutesOf hc (i := j - 20) (by omega), er_i]
  rw [if_pos c3, if_neg c3]
  by_cases c4 : 30 ≤ j ∧ j ≤ 35
  · rw [if_neg (not_not_intro c4), if_pos c4, pk_sub c4.1, lX_0 hx, lX_c hx, vC hc, s_dueOf hc (i := j - 30) (by omega), er_i]
  rw [if_pos c4, if_neg c4]
  by_cases c1 : 100 ≤ j ∧ j ≤ 179
  · have d1 : nI j - nI 100 = nI (j - 100) := pk_sub c1.1
    have d2 : nI (j - 100) / nI 10 = nI ((j - 100) / 10) := pk_div (by omega) (by omega) (by omega)
    have d3 : nI j % nI 10 = nI (j % 10) := rem_I (by omega) (by omega) (by omega)
    rw [if_neg (not_not_intro c1), if_pos c1, d1, d2, d3, vX hx, s_toldOne hx (by omega) (by omega), er_i]
  rw [if_pos c1, if_neg c1, lX_3 hx, gP_4 (iX_P hx), lX_0 hx, lX_w hx, gW_5 hw, lX_0 hx, lX_w hx, gW_6 hw, lX_0 hx, lX_w hx, gW_7 hw, lX_0 hx, lX_h hx, gS_2 hh]
  (repeat' split) <;> rfl
theorem s_toldNo {z : Int32} (h : rg (nI 0) (nI 179) z = false) : cl pg 103 [.ref o, .int z] hp = q_i (-2) hp := by
  rw [E103, B103_0, wiF (rg_far h (by omega) (by omega)), er_i, if_pos rfl, wiF (rg_far h (by omega) (by omega)), er_i, if_pos rfl, wiF (rg_far h (by omega) (by omega)), er_i, if_pos rfl, wiF (rg_far h (by omega) (by omega)), er_i, if_pos rfl, if_neg (ne_far h (by omega)), if_neg (ne_far h (by omega)), if_neg (ne_far h (by omega)), if_neg (ne_far h (by omega)), if_neg (ne_far h (by omega))]
end VM
