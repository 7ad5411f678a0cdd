/-! The class's small methods. -/
section VS
variable {hp : pH} {o i : Nat} {x : aX}
theorem s_one (hx : iX hp o x) (ok : okW x.1.2.1) (hi : i < 8) {k m t : Nat} (hk : k ≤ 3) (hm1 : 1 ≤ m) (hm : m ≤ 9) (ht : t ≤ 9) (b : Bool) : cl pg 9 [.ref o, .int (nI i), .int (nI k), .int (bI b), .int (nI m), .int (nI t)] hp = q_i (nI (x.1.2.1.1.getD i 0)) (sX hp o (xW x (drs x.1.2.1 i k b m t))) := by
  have rb : rg (nI 0) (nI 1) (bI b) = true := by cases b <;> decide
  rw [E9, B9_0, ioT (rgT (Nat.zero_le _) (by omega) (by decide)), er_i, if_pos n10, wiT (rgT (Nat.zero_le _) hk (by decide)), er_i, if_neg n10, wiT rb, er_i, if_neg n10, wiT (rgT hm1 hm (by decide)), er_i, if_neg n10, wiT (rgT (Nat.zero_le _) ht (by decide)), er_i, if_pos n10, lX_0 hx, lX_w hx, vW (iX_w hx), s_nationOf (iX_w hx) hi, er_i, lX_0 hx, lX_w hx, vW (iX_w hx), s_dress (iX_w hx) ok hi, er_v, sX_w hx]
  rfl
theorem s_treaty (hx : iX hp o x) (ok : okW x.1.2.1) {a b : Nat} (ha : a < 8) (hb : b < 8) (hab : a ≠ b) (is : Bool) : cl pg 15 [.ref o, .int (nI a), .int (nI b), .int (bI is)] hp = q_i (nI (trs (uF x.1.2.1 (trF x.1.2.1 a b is)))) (sX hp o (xW x (uF x.1.2.1 (trF x.1.2.1 a b is)))) := by
  have hx' : iX (sX hp o (xW x (uF x.1.2.1 (trF x.1.2.1 a b is)))) o (xW x (uF x.1.2.1 (trF x.1.2.1 a b is))) := iX_s hx
  rw [E15, B15_0, ioT (rgT (Nat.zero_le _) (by omega) (by decide)), er_i, if_neg n10, ioT (rgT (Nat.zero_le _) (by omega) (by decide)), er_i, if_neg n10, if_pos (fun q => hab ((nI_eq (by omega) (by omega)).mp q)), lX_0 hx, lX_w hx, vW (iX_w hx), s_bind (iX_w hx) ok ha hb is, er_v, sX_w hx, lX_0 hx', lX_w hx', vW (iX_w hx'), s_treaties (iX_w hx') (trF_lt ok ha hb is), er_i]
theorem s_hair (hx : iX hp o x) {v : Nat} (hv : v ≤ 99) : cl pg 19 [.ref o, .int (nI v)] hp = q_i (nI x.1.2.1.2.2.2.2.2.2.1) (sX hp o (xW x (uH x.1.2.1 v))) := by
  obtain ⟨⟨ik, ⟨n, m, t, f, fo, ve, h, d⟩, cs⟩, rest⟩ := x
  have hw : iW hp (o + 2) (n, m, t, f, fo, ve, h, d) := iX_w hx
  rw [E19, B19_0, wiT (rgT (Nat.zero_le _) hv (by decide)), er_i, if_pos n10, lX_0 hx, lX_w hx, gW_6 hw, lX_0 hx, lX_w hx, pW_6 hw, sX_w hx]
  rfl
theorem s_pay (hx : iX hp o x) (ok : okC x.1.2.2.1) (hi : i < 6) {a b : Nat} (ha1 : 1 ≤ a) (ha : a ≤ 9) (hb : b ≤ 99) : cl pg 20 [.ref o, .int (nI i), .int (nI a), .int (nI b)] hp = q_i ((nI 100 * nI (x.1.2.2.1.1.getD i 0)) + nI (x.1.2.2.1.2.getD i 0)) (sX hp o (xC x (x.1.2.2.1.1.set i a, x.1.2.2.1.2.set i b))) := by
  rw [E20, B20_0, wiT (rgT (Nat.zero_le _) (by omega) (by decide)), er_i, if_pos n10, wiT (rgT ha1 ha (by decide)), er_i, if_neg n10, wiT (rgT (Nat.zero_le _) hb (by decide)), er_i, if_pos n10, lX_0 hx, lX_c hx, vC (iX_c hx), s_minutesOf (iX_c hx) hi, er_i, lX_0 hx, lX_c hx, vC (iX_c hx), s_dueOf (iX_c hx) hi, er_i, lX_0 hx, lX_c hx, vC (iX_c hx), s_put (iX_c hx) ok hi, er_v, sX_c hx]
theorem s_write {p : aP} (hx : iP hp o p) (ok : okP p) (c : Nat) : cl pg 25 [.ref o, .int (nI c)] hp = if p.2.2.2.2.1 = 60 then q_i (nI 0) hp else q_i (nI 1) (sP hp o (p.1.set p.2.2.2.2.1 c, p.2.1, p.2.2.1, p.2.2.2.1, p.2.2.2.2.1 + 1, p.2.2.2.2.2)) := by
  obtain ⟨l1, l2, _⟩ := ok
  obtain ⟨sg, ki, wh, ot, ln, ac⟩ := p
  dsimp only at l1 l2 ⊢
  rw [E25, B25_0, gP_4 hx]
  dsimp only
  by_cases h : ln = 60
  · rw [if_pos h, wiF (by rw [h]; decide), er_i, if_neg (not_not_intro rfl), ez0]
  · rw [if_neg h, wiT (rgT (Nat.zero_le _) (by omega) (by decide)), er_i, if_pos n10, gP_0 hx, gP_4 hx]
    dsimp only
    rw [wP_sg hx (i := ln) (by omega) l1, gP_4s hx]
    dsimp only
    rw [nI_add, pP_4s hx, ez1]
theorem s_say (hx : iX hp o x) (ok : okP x.2.2.2.1) {c : Nat} (h1 : 33 ≤ c) (h2 : c ≤ 126) : cl pg 24 [.ref o, .int (nI c)] hp = if x.2.2.2.1.2.2.2.2.1 = 60 then q_i (-4) hp else q_i (nI (x.2.2.2.1.2.2.2.2.1 + 1)) (sX hp o (xP x (x.2.2.2.1.1.set x.2.2.2.1.2.2.2.2.1 c, x.2.2.2.1.2.1, x.2.2.2.1.2.2.1, x.2.2.2.1.2.2.2.1, x.2.2.2.1.2.2.2.2.1 + 1, x.2.2.2.1.2.2.2.2.2))) := by
  rw [E24, B24_0, wiT (rgT h1 h2 (by decide)), er_i, if_pos n10, lX_3 hx, vP (iX_P hx), s_write (iX_P hx) ok]
  by_cases h : x.2.2.2.1.2.2.2.2.1 = 60
  · rw [if_pos h, if_pos h, er_i, if_pos rfl, B24_17]
  · rw [if_neg h, if_neg h, er_i, if_neg n10, sX_P hx, lX_3 (iX_s hx), gP_4 (iX_P (iX_s hx)), B24_17]
theorem s_clearP {p : aP} (hx : iP hp o p) : cl pg 27 [.ref o] hp = q_v (sP hp o (p.1, p.2.1, p.2.2.1, p.2.2.2.1, 0, 0)) := by
  obtain ⟨sg, ki, wh, ot, ln, ac⟩ := p
  rw [E27, B27_0, pP_4 hx, pP_5s hx]
theorem s_wipe (hx : iX hp o x) : cl pg 26 [.ref o] hp = q_i (nI x.2.2.2.1.2.2.2.2.1) (sX hp o (xP x (x.2.2.2.1.1, x.2.2.2.1.2.1, x.2.2.2.1.2.2.1, x.2.2.2.1.2.2.2.1, 0, 0))) := by
  rw [E26, B26_0, lX_3 hx, gP_4 (iX_P hx), lX_3 hx, vP (iX_P hx), s_clearP (iX_P hx), er_v, sX_P hx]
theorem s_seen (hx : iX hp o x) (ok : okS x.1.2.2.2) {e : Nat} (he : e ≤ 60) (b : Bool) : cl pg 79 [.ref o, .int (nI e), .int (bI b)] hp = if x.1.2.2.2.2.2 < 8 then q_i (nI (x.1.2.2.2.2.2 + 1)) (sX hp o (xS x (x.1.2.2.2.1.set x.1.2.2.2.2.2 e, x.1.2.2.2.2.1 ||| (if b = true then 2 ^ x.1.2.2.2.2.2 else 0), x.1.2.2.2.2.2 + 1))) else q_i (-4) hp := by
  rw [E79, B79_0, wiT (rgT (Nat.zero_le _) he (by decide)), er_i, if_pos n10, lX_0 hx, lX_h hx, vS (iX_h hx), s_addS (iX_h hx) ok]
  by_cases h : x.1.2.2.2.2.2 < 8
  · rw [if_pos h, if_pos h, er_i, if_neg n10, sX_h hx, lX_0 (iX_s hx), lX_h (iX_s hx), gS_2 (iX_h (iX_s hx)), B79_20]
  · rw [if_neg h, if_neg h, er_i, if_pos rfl, B79_20]
theorem s_forget (hx : iX hp o x) : cl pg 81 [.ref o] hp = q_i (nI x.1.2.2.2.2.2) (sX hp o (xS x (x.1.2.2.2.1, 0, 0))) := by
  rw [E81, B81_0, lX_0 hx, lX_h hx, gS_2 (iX_h hx), lX_0 hx, lX_h hx, vS (iX_h hx), s_clearS (iX_h hx), er_v, sX_h hx]
theorem s_sees (hx : iX hp o x) (ok : okW x.1.2.1) {a e : Nat} (ha : a < 8) (he : e ≤ 99) : cl pg 62 [.ref o, .int (nI a), .int (nI e)] hp = q_i (nI (seV x.1.2.1 a e)) hp := by
  rw [E62, B62_0, ioT (rgT (Nat.zero_le _) (by omega) (by decide)), er_i, if_pos n10, wiT (rgT (Nat.zero_le _) he (by decide)), er_i, if_pos n10, lX_0 hx, lX_w hx, vW (iX_w hx), s_seenRound (iX_w hx) ok ha (by omega) (by omega), er_i, lX_0 hx, lX_w hx, vW (iX_w hx), s_seenRound (iX_w hx) ok ha (by omega) (by omega), er_i, or2_I]
  rfl
theorem s_camps (hx : iX hp o x) (ok : okW x.1.2.1) {z : Nat} (hz : z ≤ 1) : ∃ fo', cl pg 64 [.ref o, .int (nI z)] hp = q_i (nI (caV x.1.2.1 z)) (sX hp o (xW x (uO x.1.2.1 fo'))) := by
  obtain ⟨fo', h1, h2⟩ := s_calmestCamp (iX_w hx) ok
  refine ⟨fo', ?_⟩
  have hx' : iX (sX hp o (xW x (uO x.1.2.1 fo'))) o (xW x (uO x.1.2.1 fo')) := iX_s hx
  have hl := cal_lt (qrl x.1.2.1) 127
  rw [E64, B64_0, wiT (rgT (Nat.zero_le _) hz (by decide)), er_i, if_pos n10, lX_0 hx, lX_w hx, vW (iX_w hx), h1, er_i, sX_w hx]
  unfold caV
  by_cases z0 : z = 0
  · rw [if_neg (not_not_intro (congrArg nI z0)), if_pos z0, lX_0 hx', lX_w hx', vW (iX_w hx'), s_quarrels (iX_w hx') (ok_uO ok fo') h2 (by omega), er_i, B64_21]
    rfl
  · rw [if_pos (fun q => z0 ((nI_eq (by omega) (by omega)).mp q)), if_neg z0, B64_21]
theorem s_late (hx : iX hp o x) (ok : okC x.1.2.2.1) {z : Nat} (hz : z ≤ 1) : cl pg 68 [.ref o, .int (nI z)] hp = q_i (nI (laV x.1.2.2.1 z)) hp := by
  have hb := bst_le (fun set => cbt x.1.2.2.1 set 6) 63
  rw [E68, B68_0, wiT (rgT (Nat.zero_le _) hz (by decide)), er_i, if_pos n10, lX_0 hx, lX_c hx, vC (iX_c hx), s_mostInTime (iX_c hx) ok, er_i, s_bitCount (by omega), er_i, pk_sub (pop_6 _ (by omega)), B68_20, B68_20]
  unfold laV
  by_cases z0 : z = 0
  · rw [if_neg (not_not_intro (congrArg nI z0)), if_pos z0]
  · rw [if_pos (fun q => z0 ((nI_eq (by omega) (by omega)).mp q)), if_neg z0]
theorem s_lift (hx : iX hp o x) (ok : okW x.1.2.1) {z : Nat} (hz : z ≤ 1) : cl pg 92 [.ref o, .int (nI z)] hp = q_i (if z = 1 then gpI (lftN x.1.2.1.2.2.2.2.2.1) else bI (winN x.1.2.1.2.2.2.2.2.1)) hp := by
  have hv := ok.2.2.1
  rw [E92, B92_0, wiT (rgT (Nat.zero_le _) hz (by decide)), er_i, if_pos n10, lX_0 hx, lX_w hx, gW_5 (iX_w hx), s_winningLift hv, er_i]
  by_cases z0 : z = 0
  · have hne : ¬ z = 1 := by omega
    rw [if_neg (not_not_intro (congrArg nI z0)), if_neg hne]
    have hw := lft_win _ hv
    cases hl : lftN x.1.2.1.2.2.2.2.2.1 with
    | none =>
      rw [hl] at hw
      rw [← hw, if_neg (show ¬ ¬ gpI none = -6 from not_not_intro rfl), B92_21]
      rfl
    | some j =>
      have hj := lft_lt _ hv
      rw [hl] at hw hj
      rw [← hw, if_pos (show ¬ gpI (some j) = -6 from nI_ne6 (by
        have : j < 78 := hj
        omega)), B92_21]
      rfl
  · have he : z = 1 := by omega
    rw [if_pos (fun q => z0 ((nI_eq (by omega) (by omega)).mp q)), if_pos he]
theorem s_fits (hx : iX hp o x) (ok : okS x.1.2.2.2) (z : Int32) : ∃ q, cl pg 83 [.ref o, .int z] hp = q_i (fitA (fitS x.1.2.2.2) z) (sX hp o (xQ x q)) := by
  obtain ⟨q, h1, h2⟩ := s_gather (iX_Q hx) (iX_h hx) ok (by omega)
  rw [E83, B83_0]
  unfold fitA
  by_cases hm : (-1 : Int32) ≤ z
  · refine ⟨q, ?_⟩
    have hx' : iX (sX hp o (xQ x q)) o (xQ x q) := iX_s hx
    rw [if_pos hm, lX_6 hx, lX_0 hx, lX_h hx, vQ (iX_Q hx), h1, er_v, sX_Q hx]
    by_cases h1 : z = -1
    · rw [if_neg (not_not_intro h1), if_pos h1, lX_6 hx', gQ_1 (iX_Q hx'), B83_22]
      show q_i (nI q.2) _ = _
      rw [h2.1]
    · have hz : ¬ z < 0 := by
        intro q
        have a1 := Int32.le_iff_toInt_le.mp hm
        have a2 := Int32.lt_iff_toInt_lt.mp q
        have e1 : (-1 : Int32).toInt = -1 := by decide
        have e2 : (0 : Int32).toInt = 0 := by decide
        rw [e1] at a1
        rw [e2] at a2
        exact h1 (Int32.toInt_inj.mp (by rw [e1]; omega))
      obtain ⟨j, hj, hzj⟩ := nI_of hz
      rw [if_pos h1, if_neg h1, if_neg (show ¬ z < nI 0 from hz), lX_6 hx', vQ (iX_Q hx'), hzj, s_rAt (iX_Q hx') h2 hj, er_i, B83_22, nI_toInt hj]
      rfl
  · refine ⟨x.2.2.2.2.2.2.1, ?_⟩
    have e1 : (-1 : Int32).toInt = -1 := by decide
    have e2 : (nI 0).toInt = 0 := by decide
    have a1 : ¬ (-1 : Int32).toInt ≤ z.toInt := fun q => hm (Int32.le_iff_toInt_le.mpr q)
    rw [e1] at a1
    rw [if_neg hm, if_neg (fun q => a1 (by rw [q, e1]; omega)), if_pos (Int32.lt_iff_toInt_lt.mpr (by rw [e2]; omega))]
    show q_i (-6) hp = q_i (-6) (sX hp o x)
    rw [sX_i hx]
theorem s_ask (hx : iX hp o x) (ok : okS x.1.2.2.2) {z : Nat} (hz : z ≤ 1) : ∃ q, cl pg 89 [.ref o, .int (nI z)] hp = q_i (askA (fitS x.1.2.2.2) (nI z)) (sX hp o (xQ x q)) := by
  obtain ⟨q, h1, h2⟩ := s_gather (iX_Q hx) (iX_h hx) ok (by omega)
  refine ⟨q, ?_⟩
  have hx' : iX (sX hp o (xQ x q)) o (xQ x q) := iX_s hx
  rw [E89, B89_0, wiT (rgT (Nat.zero_le _) hz (by decide)), er_i, if_pos n10, lX_6 hx, lX_0 hx, lX_h hx, vQ (iX_Q hx), h1, er_v, sX_Q hx, lX_6 hx', vQ (iX_Q hx'), s_bestEvening (iX_Q hx') h2, er_i, B89_22]
  simp only [B89_28]
  unfold askA bev
  by_cases h0 : (fitS x.1.2.2.2).length = 0
  · rw [if_pos h0, if_pos h0]
    split
    · rfl
    · rw [if_neg (not_not_intro rfl)]
  · have ha := amn_le (lvb (fitS x.1.2.2.2)) 60
    rw [if_neg h0, if_neg h0]
    by_cases hz0 : nI z = nI 0
    · rw [if_pos hz0, if_pos hz0]
    · rw [if_neg hz0, if_neg hz0, if_pos (nI_ne6 (by omega)), lX_6 hx', vQ (iX_Q hx'), s_leftAtMost (iX_Q hx') h2 (by omega), er_i]
end VS
