/-! A call of the class, and the same of the reference. -/
def duo_ (hp : pH) (kv km : Nat) (as : List Value) : Prop := ∃ (z : Int32) (x' : aX) (m' : aM), cl pg kv (.ref 1 :: as) hp = q_i z (sX hp 1 x') ∧ cl pg km (.ref 61 :: as) (sX hp 1 x') = q_i z (sM (sX hp 1 x') 61 m') ∧ Rel x' m'
theorem iM_X {hp : pH} {m : aM} (hm : iM hp 61 m) (x' : aX) : iM (sX hp 1 x') 61 m := isAt_other hm (Or.inr (Nat.le_refl 61))
theorem b_of {z : Int32} (h : rg (nI 0) (nI 1) z = true) : ∃ b : Bool, z = bI b := by
  obtain ⟨j, _, h2, h3⟩ := rg_of h rfl rfl (by decide) (by decide)
  rcases Nat.lt_or_ge j 1 with q | q
  · have : j = 0 := by omega
    exact ⟨false, by rw [h3, this]; rfl⟩
  · have : j = 1 := by omega
    exact ⟨true, by rw [h3, this]; rfl⟩
theorem r_of {a b : Nat} {z : Int32} (h : rg (nI a) (nI b) z = true) (ha : a < 2 ^ 31 := by decide) (hb : b < 2 ^ 31 := by decide) : ∃ j : Nat, a ≤ j ∧ j ≤ b ∧ z = nI j := rg_of h rfl rfl ha hb
section ST
variable {hp : pH} {x : aX} {m : aM}
theorem stp_no (R : Rel x m) (hx : iX hp 1 x) (hm : iM hp 61 m) {kv km : Nat} {as : List Value} {z : Int32} (h1 : cl pg kv (.ref 1 :: as) hp = q_i z hp) (h2 : cl pg km (.ref 61 :: as) hp = q_i z hp) : duo_ hp kv km as := ⟨z, x, m, by rw [h1, sX_i hx], by rw [sX_i hx, h2, sM_i hm], R⟩
theorem st_one (R : Rel x m) (hx : iX hp 1 x) (hm : iM hp 61 m) (z1 z2 z3 z4 z5 : Int32) : duo_ hp 9 107 [.int z1, .int z2, .int z3, .int z4, .int z5] := by
  cases h1 : rg (nI 0) (nI 7) z1 with
  | false => exact stp_no R hx hm (noc_one1 hp 1 h1) (nom_one1 hp 61 h1)
  | true =>
    cases h2 : (rg (nI 0) (nI 3) z2 && (rg (nI 0) (nI 1) z3 && (rg (nI 1) (nI 9) z4 && rg (nI 0) (nI 9) z5))) with
    | false => exact stp_no R hx hm (noc_one2 hp 1 h1 h2) (nom_one2 hp 61 h1 h2)
    | true =>
      simp only [Bool.and_eq_true] at h2
      obtain ⟨g2, g3, g4, g5⟩ := h2
      obtain ⟨i, _, hi, e1⟩ := r_of h1
      obtain ⟨k, _, hk, e2⟩ := r_of g2
      obtain ⟨b, e3⟩ := b_of g3
      obtain ⟨me, hm1, hm2, e4⟩ := r_of g4
      obtain ⟨t, _, ht, e5⟩ := r_of g5
      subst e1
      subst e2
      subst e3
      subst e4
      subst e5
      have hi : i < 8 := by omega
      have ok := R.1.1.1
      refine ⟨_, _, mS m (drs (mW m) i k b me t) (mth m), s_one hx ok hi hk hm1 hm2 ht b, ?_, ?_⟩
      · have := s_mone (iM_X hm (xW x (drs x.1.2.1 i k b me t))) (Rel_okW R) hi hk hm1 hm2 ht b
        rw [this, Rel_mW R]
        rfl
      · refine Rel_W R (ok_drs ok hi (by omega) (by omega) (by omega) b) R.2.1.1 ?_ rfl rfl rfl rfl R.2.2.2.1.1
        rw [Rel_mW R]
        rfl
theorem st_treaty (R : Rel x m) (hx : iX hp 1 x) (hm : iM hp 61 m) (z1 z2 : Int32) (b : Bool) : duo_ hp 15 111 [.int z1, .int z2, .int (bI b)] := by
  by_cases hno : rg (nI 0) (nI 7) z1 = false ∨ rg (nI 0) (nI 7) z2 = false ∨ z1 = z2
  · exact stp_no R hx hm (noc_treaty hp 1 hno) (nom_treaty hp 61 hno)
  · have g1 : rg (nI 0) (nI 7) z1 = true := by
      cases h : rg (nI 0) (nI 7) z1
      · exact absurd (Or.inl h) hno
      · rfl
    have g2 : rg (nI 0) (nI 7) z2 = true := by
      cases h : rg (nI 0) (nI 7) z2
      · exact absurd (Or.inr (Or.inl h)) hno
      · rfl
    obtain ⟨i, _, hi, e1⟩ := r_of g1
    obtain ⟨j, _, hj, e2⟩ := r_of g2
    subst e1
    subst e2
    have hij : i ≠ j := fun q => hno (Or.inr (Or.inr (congrArg nI q)))
    have hi : i < 8 := by omega
    have hj : j < 8 := by omega
    have ok := R.1.1.1
    refine ⟨_, _, mS m (uF (mW m) (trF (mW m) i j b)) (mth m), s_treaty hx ok hi hj hij b, ?_, ?_⟩
    · have := s_mtreaty (iM_X hm (xW x (uF x.1.2.1 (trF x.1.2.1 i j b)))) (Rel_okW R) hi hj hij b
      rw [this, Rel_mW R]
      rfl
    · refine Rel_W R (trF_lt ok hi hj b) (sym_trF ok R.2.1.1 hi hj b) ?_ rfl rfl rfl rfl R.2.2.2.1.1
      rw [Rel_mW R]
      rfl
theorem st_hair (R : Rel x m) (hx : iX hp 1 x) (hm : iM hp 61 m) (z1 : Int32) : duo_ hp 19 115 [.int z1] := by
  cases h1 : rg (nI 0) (nI 99) z1 with
  | false => exact stp_no R hx hm (noc_hair1 hp 1 h1) (nom_hair1 hp 61 h1)
  | true =>
    obtain ⟨v, _, hv, e1⟩ := r_of h1
    subst e1
    refine ⟨_, _, mS m (uH (mW m) v) (mth m), s_hair hx hv, ?_, ?_⟩
    · have := s_mhair (iM_X hm (xW x (uH x.1.2.1 v))) hv
      rw [this, Rel_mW R]
      rfl
    · refine Rel_W R (ok_uH R.1.1.1 (by omega)) R.2.1.1 ?_ rfl rfl rfl rfl R.2.2.2.1.1
      rw [Rel_mW R]
      rfl
theorem ok_setC {c : aC} (ok : okC c) {i a b : Nat} (hi : i < 6) (ha : a < 10) (hb : b < 100) : okC (c.1.set i a, c.2.set i b) := by
  obtain ⟨⟨l1, l2⟩, h⟩ := ok
  refine ⟨⟨by rw [List.length_set]; exact l1, by rw [List.length_set]; exact l2⟩, fun j hj => ?_⟩
  rw [getD_set _ _ _ _ _ (by omega), getD_set _ _ _ _ _ (by omega)]
  have := h j hj
  constructor
  · split <;> omega
  · split <;> omega
theorem st_pay (R : Rel x m) (hx : iX hp 1 x) (hm : iM hp 61 m) (z1 z2 z3 : Int32) : duo_ hp 20 116 [.int z1, .int z2, .int z3] := by
  cases h1 : rg (nI 0) (nI 5) z1 with
  | false => exact stp_no R hx hm (noc_pay1 hp 1 h1) (nom_pay1 hp 61 h1)
  | true =>
    cases h2 : (rg (nI 1) (nI 9) z2 && rg (nI 0) (nI 99) z3) with
    | false => exact stp_no R hx hm (noc_pay2 hp 1 h1 h2) (nom_pay2 hp 61 h1 h2)
    | true =>
      simp only [Bool.and_eq_true] at h2
      obtain ⟨g2, g3⟩ := h2
      obtain ⟨i, _, hi, e1⟩ := r_of h1
      obtain ⟨a, ha1, ha2, e2⟩ := r_of g2
      obtain ⟨b, _, hb, e3⟩ := r_of g3
      subst e1
      subst e2
      subst e3
      have hi : i < 6 := by omega
      have okc := R.1.1.2.1
      have ec : m.2.1 = x.1.2.2.1 := R.2.1.2.2.1
      refine ⟨_, _, (m.1, (x.1.2.2.1.1.set i a, x.1.2.2.1.2.set i b), m.2.2), s_pay hx okc hi ha1 ha2 hb, ?_, Rel_C R (ok_setC okc hi (by omega) (by omega))⟩
      have := s_mpay (iM_X hm (xC x (x.1.2.2.1.1.set i a, x.1.2.2.1.2.set i b))) (by rw [ec]; exact okc) hi ha1 ha2 hb
      rw [this, ec]
theorem set_get {l : List Nat} {n i y j : Nat} (hl : l.length = n) (hi : i < n) : (l.set i y).getD j 0 = if j = i then y else l.getD j 0 := getD_set _ _ _ _ _ (by omega)
theorem st_say (R : Rel x m) (hx : iX hp 1 x) (hm : iM hp 61 m) (z1 : Int32) : duo_ hp 24 117 [.int z1] := by
  cases h1 : rg (nI 33) (nI 126) z1 with
  | false => exact stp_no R hx hm (noc_say1 hp 1 h1) (nom_say1 hp 61 h1)
  | true =>
    obtain ⟨c, hc1, hc2, e1⟩ := r_of h1
    subst e1
    obtain ⟨p1, p2, p3⟩ := R.2.2.1
    have okp := R.1.2.2.2.1
    obtain ⟨l1, l2, l3⟩ := id okp
    have hv := s_say hx okp hc1 hc2
    by_cases h : x.2.2.2.1.2.2.2.2.1 = 60
    · refine stp_no R hx hm (z := -4) ?_ ?_
      · rw [hv, if_pos h]
      · rw [s_msay hm p1 (by omega) hc1 hc2, if_pos (by rw [p2]; exact h)]
    · rw [if_neg h] at hv
      have hlt : x.2.2.2.1.2.2.2.2.1 < 60 := by omega
      refine ⟨_, _, (m.1, m.2.1, m.2.2.1, (m.2.2.2.1.1.set m.2.2.2.1.2 c, m.2.2.2.1.2 + 1), m.2.2.2.2), hv, ?_, ?_⟩
      · rw [s_msay (iM_X hm _) p1 (by omega) hc1 hc2, if_neg (by rw [p2]; exact h), p2]
      · refine Rel_P R ⟨by rw [List.length_set]; exact l1, hlt, fun i hi => ?_⟩ (by rw [List.length_set]; exact p1) (by rw [p2]) (fun i hi => ?_)
        · dsimp only at hi ⊢
          rw [set_get l1 hlt]
          split
          · omega
          · exact l3 i (by omega)
        · dsimp only at hi ⊢
          rw [p2, set_get p1 hlt, set_get l1 hlt]
          split
          · rfl
          · exact p3 i (by omega)
theorem st_wipe (R : Rel x m) (hx : iX hp 1 x) (hm : iM hp 61 m) : duo_ hp 26 118 [] := by
  obtain ⟨p1, p2, p3⟩ := R.2.2.1
  obtain ⟨l1, l2, l3⟩ := R.1.2.2.2.1
  refine ⟨_, _, (m.1, m.2.1, m.2.2.1, (m.2.2.2.1.1, 0), m.2.2.2.2), s_wipe hx, ?_, ?_⟩
  · rw [s_mwipe (iM_X hm _), p2]
  · exact Rel_P R ⟨l1, Nat.zero_le _, fun i hi => absurd hi (Nat.not_lt_zero _)⟩ p1 rfl (fun i hi => absurd hi (Nat.not_lt_zero _))
theorem st_fault (R : Rel x m) (hx : iX hp 1 x) (hm : iM hp 61 m) : duo_ hp 28 119 [] := by
  obtain ⟨x', e, hs⟩ := s_fault hx R.1
  obtain ⟨o1, o2, o3, ⟨o4, o5, o6⟩, o7, o8⟩ := Rel_okM R
  obtain ⟨ki, wh, ot, ac, e2, _⟩ := s_mfault (iM_X hm x') o4 o5 o6
  refine ⟨_, x', mA m ki wh ot ac, e, ?_, Rel_same R (svX_sm R.1 hs) ⟨rfl, rfl, rfl, rfl, rfl, o7⟩⟩
  rw [e2]
  have := Rel_cs R
  have ec : m.2.2.2.1.1.take m.2.2.2.1.2 = csX x := this
  rw [ec]
  rfl
theorem st_judge (R : Rel x m) (hx : iX hp 1 x) (hm : iM hp 61 m) (z1 : Int32) : duo_ hp 35 125 [.int z1] := by
  cases h1 : rg (nI 0) (nI 2) z1 with
  | false => exact stp_no R hx hm (noc_judge1 hp 1 h1) (nom_judge1 hp 61 h1)
  | true =>
    obtain ⟨z, _, hz, e1⟩ := r_of h1
    subst e1
    obtain ⟨x', e, hs⟩ := s_judge hx R.1 hz
    obtain ⟨m', e2, hs2⟩ := s_mjudge (iM_X hm x') (Rel_okM R) hz
    rw [Rel_cs R, Rel_mW R, JD_uO] at e2
    exact ⟨_, x', m', e, e2, Rel_same R (svX_sm R.1 hs) hs2⟩
theorem st_behind (R : Rel x m) (hx : iX hp 1 x) (hm : iM hp 61 m) (z1 z2 : Int32) : duo_ hp 57 140 [.int z1, .int z2] := by
  cases h1 : rg (nI 0) (nI 7) z1 with
  | false => exact stp_no R hx hm (noc_behind1 hp 1 h1) (nom_behind1 hp 61 h1)
  | true =>
    cases h2 : rg (nI 0) (nI 3) z2 with
    | false => exact stp_no R hx hm (noc_behind2 hp 1 h1 h2) (nom_behind2 hp 61 h1 h2)
    | true =>
      obtain ⟨i, _, hi, e1⟩ := r_of h1
      obtain ⟨z, _, hz, e2⟩ := r_of h2
      subst e1
      subst e2
      obtain ⟨x', e, hs⟩ := s_behind hx R.1 (i := i) (by omega) hz
      obtain ⟨m', e2, hs2⟩ := s_mbehind (iM_X hm x') (Rel_okM R) (i := i) (by omega) hz
      rw [Rel_cs R, Rel_mW R, BH_uO] at e2
      exact ⟨_, x', m', e, e2, Rel_same R (svX_sm R.1 hs) hs2⟩
theorem st_states (R : Rel x m) (hx : iX hp 1 x) (hm : iM hp 61 m) (z1 : Int32) : duo_ hp 58 142 [.int z1] := by
  cases h1 : rg (nI 0) (nI 6) z1 with
  | false => exact stp_no R hx hm (noc_states1 hp 1 h1) (nom_states1 hp 61 h1)
  | true =>
    obtain ⟨z, _, hz, e1⟩ := r_of h1
    subst e1
    obtain ⟨x', e, hs⟩ := s_states hx R.1 hz
    obtain ⟨m', e2, hs2⟩ := s_mstates (iM_X hm x') (Rel_okM R) hz
    rw [Rel_cs R, Rel_mW R, ST_uO] at e2
    exact ⟨_, x', m', e, e2, Rel_same R (svX_sm R.1 hs) hs2⟩
theorem st_annexed (R : Rel x m) (hx : iX hp 1 x) (hm : iM hp 61 m) (z1 : Int32) : duo_ hp 60 145 [.int z1] := by
  cases h1 : rg (nI 0) (nI 1) z1 with
  | false => exact stp_no R hx hm (noc_annexed1 hp 1 h1) (nom_annexed1 hp 61 h1)
  | true =>
    obtain ⟨z, _, hz, e1⟩ := r_of h1
    subst e1
    obtain ⟨x', e, hs⟩ := s_annexed hx R.1 hz
    obtain ⟨m', e2, hs2⟩ := s_mannexed (iM_X hm x') (Rel_okM R) hz
    rw [Rel_cs R, Rel_mW R, AN_uO] at e2
    exact ⟨_, x', m', e, e2, Rel_same R (svX_sm R.1 hs) hs2⟩
theorem st_done (R : Rel x m) (hx : iX hp 1 x) (hm : iM hp 61 m) : duo_ hp 61 146 [] := by
  obtain ⟨x', e, hs, hs'⟩ := s_done hx R.1
  obtain ⟨m', e2, hm1, hm2⟩ := s_mdone (iM_X hm x') (Rel_okM R)
  rw [Rel_cs R, Rel_mW R, DN_uO] at e2
  rw [Rel_cs R, Rel_mW R, RF_uO] at hm1 hm2
  refine ⟨_, x', m', e, e2, ?_⟩
  by_cases h6 : RFn (csX x) x.1.2.1 = -6
  · obtain ⟨p, k, ex, q1, q2, q3⟩ := hs h6
    obtain ⟨d1, d2, d3, d4, d5, d6⟩ := hm1 h6
    rw [Rel_cs R, Rel_mW R, GO_uO] at d1
    obtain ⟨⟨⟨a1, a2, a3⟩, k2, k3, ⟨l1, l2, l3⟩, k5, k6, k7⟩, ⟨n1, n2, n3, n4, n5⟩, ⟨p1, p2, p3⟩, _⟩ := id R
    subst ex
    refine Rel_mk R ⟨⟨ok_uO (ok_GO a1 _) _, a2, a3⟩, k2, k3, ⟨?_, ?_, ?_⟩, q3, k6, k7⟩ rfl rfl ⟨sym_GO a1 n1 _, ?_, ?_, ?_, ?_⟩ ⟨?_, ?_, ?_⟩ d5 d6
    · show p.1.length = 60
      rw [q1]
      exact l1
    · show p.2.2.2.2.1 ≤ 60
      omega
    · show ∀ i, i < p.2.2.2.2.1 → p.1.getD i 0 < 128
      rw [q2]
      exact fun i hi => absurd hi (Nat.not_lt_zero _)
    · have e1 : m'.1 = dW (mW m') := rfl
      show m'.1 = dW (GOn (csX x) x.1.2.1).2
      rw [e1, d1]
      rfl
    · show m'.2.1 = _
      rw [d2]
      exact n3
    · show rS x.1.2.2.2 m'.2.2.1
      rw [d3]
      exact n4
    · show okQ m'.2.2.1
      rw [d3]
      exact n5
    · rw [d4]
      exact p1
    · rw [d4]
      exact q2.symm
    · show ∀ i, i < p.2.2.2.2.1 → _
      rw [q2]
      exact fun i hi => absurd hi (Nat.not_lt_zero _)
  · exact Rel_same R (svX_sm R.1 (hs' h6)) (hm2 h6)
theorem st_sees (R : Rel x m) (hx : iX hp 1 x) (hm : iM hp 61 m) (z1 z2 : Int32) : duo_ hp 62 147 [.int z1, .int z2] := by
  cases h1 : rg (nI 0) (nI 7) z1 with
  | false => exact stp_no R hx hm (noc_sees1 hp 1 h1) (nom_sees1 hp 61 h1)
  | true =>
    cases h2 : rg (nI 0) (nI 99) z2 with
    | false => exact stp_no R hx hm (noc_sees2 hp 1 h1 h2) (nom_sees2 hp 61 h1 h2)
    | true =>
      obtain ⟨i, _, hi, e1⟩ := r_of h1
      obtain ⟨e, _, he, e2⟩ := r_of h2
      subst e1
      subst e2
      refine stp_no R hx hm (s_sees hx R.1.1.1 (by omega) he) ?_
      rw [s_msees hm (Rel_okW R) (by omega) he, Rel_mW R]
      rfl
theorem st_camps (R : Rel x m) (hx : iX hp 1 x) (hm : iM hp 61 m) (z1 : Int32) : duo_ hp 64 149 [.int z1] := by
  cases h1 : rg (nI 0) (nI 1) z1 with
  | false => exact stp_no R hx hm (noc_camps1 hp 1 h1) (nom_camps1 hp 61 h1)
  | true =>
    obtain ⟨z, _, hz, e1⟩ := r_of h1
    subst e1
    obtain ⟨fo, e⟩ := s_camps hx R.1.1.1 hz
    refine ⟨_, _, m, e, ?_, Rel_same R (svX_f R.1 fo) (smM_i R.2.2.2.1.1)⟩
    rw [s_mcamps (iM_X hm _) (Rel_okW R) (Rel_sym R) hz, sM_i (iM_X hm _), Rel_mW R]
    rfl
theorem st_late (R : Rel x m) (hx : iX hp 1 x) (hm : iM hp 61 m) (z1 : Int32) : duo_ hp 68 151 [.int z1] := by
  cases h1 : rg (nI 0) (nI 1) z1 with
  | false => exact stp_no R hx hm (noc_late1 hp 1 h1) (nom_late1 hp 61 h1)
  | true =>
    obtain ⟨z, _, hz, e1⟩ := r_of h1
    subst e1
    have ec : m.2.1 = x.1.2.2.1 := R.2.1.2.2.1
    refine stp_no R hx hm (s_late hx R.1.1.2.1 hz) ?_
    rw [s_mlate hm (by rw [ec]; exact R.1.1.2.1) hz, ec]
theorem st_stamps (R : Rel x m) (hx : iX hp 1 x) (hm : iM hp 61 m) (z1 z2 z3 z4 z5 : Int32) : duo_ hp 72 154 [.int z1, .int z2, .int z3, .int z4, .int z5] := by
  cases h1 : rgM z1 z2 z3 z4 z5 with
  | false => exact stp_no R hx hm (s_stampsNo hp h1) (s_mstampsNo hp h1)
  | true =>
    unfold rgM at h1
    simp only [Bool.and_eq_true] at h1
    obtain ⟨g1, g2, g3, g4, g5⟩ := h1
    obtain ⟨a, a1, a2, e1⟩ := r_of g1
    obtain ⟨b, b1, b2, e2⟩ := r_of g2
    obtain ⟨c, c1, c2, e3⟩ := r_of g3
    obtain ⟨n, _, hn, e4⟩ := r_of g4
    obtain ⟨k, _, hk, e5⟩ := r_of g5
    subst e1
    subst e2
    subst e3
    subst e4
    subst e5
    have hW : wOK a b c := ⟨⟨a1, a2⟩, ⟨b1, b2⟩, c1, c2⟩
    obtain ⟨bb, hb, e⟩ := s_stamps hx R.1.2.2.2.2.2.2 hW hn hk
    obtain ⟨fe, e2⟩ := s_mstamps (iM_X hm (xB x bb)) hW hn hk
    exact ⟨_, _, _, e, e2, Rel_same R (svX_B R.1 hb) ⟨rfl, rfl, rfl, rfl, rfl, R.2.2.2.1.1⟩⟩
theorem hs_old {d n i : Nat} (hi : i < n) (b : Bool) : hs (d ||| (if b = true then 2 ^ n else 0)) i = hs d i := by
  rw [hs_or]
  cases b
  · rw [if_neg (by decide), hs_0, Bool.or_false]
  · rw [if_pos rfl]
    have : hs (2 ^ n) i = false := by
      unfold hs
      rw [Nat.testBit_two_pow]
      exact decide_eq_false (by omega)
    rw [this, Bool.or_false]
theorem hs_new {d n : Nat} (hd : d < 2 ^ n) (b : Bool) : hs (d ||| (if b = true then 2 ^ n else 0)) n = b := by
  rw [hs_or]
  have h0 : hs d n = false := Nat.testBit_lt_two_pow hd
  rw [h0, Bool.false_or]
  cases b
  · rw [if_neg (by decide), hs_0]
  · rw [if_pos rfl]
    unfold hs
    rw [Nat.testBit_two_pow_self]
theorem st_seen (R : Rel x m) (hx : iX hp 1 x) (hm : iM hp 61 m) (z1 : Int32) (b : Bool) : duo_ hp 79 160 [.int z1, .int (bI b)] := by
  cases h1 : rg (nI 0) (nI 60) z1 with
  | false => exact stp_no R hx hm (noc_seen1 hp 1 h1) (nom_seen1 hp 61 h1)
  | true =>
    obtain ⟨e, _, he, e1⟩ := r_of h1
    subst e1
    have oks := R.1.1.2.2
    obtain ⟨s1, s2, s3, s4⟩ := id oks
    obtain ⟨_, _, _, ⟨r1, r2⟩, r3⟩ := R.2.1
    have r1 : m.2.2.1.2.2 = x.1.2.2.2.2.2 := r1
    obtain ⟨t1, t2, t3, t4, t5⟩ := id r3
    have hv := s_seen hx oks he b
    by_cases h : x.1.2.2.2.2.2 < 8
    · rw [if_pos h] at hv
      refine ⟨_, _, (m.1, m.2.1, (m.2.2.1.1.set m.2.2.1.2.2 e, m.2.2.1.2.1.set m.2.2.1.2.2 (if b = true then 1 else 0), m.2.2.1.2.2 + 1), m.2.2.2), hv, ?_, ?_⟩
      · rw [s_mseen (iM_X hm _) r3 he b, if_neg (by rw [r1]; omega), r1]
      · refine Rel_S R ⟨by rw [List.length_set]; exact s1, fun i hi => ?_, h, ?_⟩ ⟨by rw [List.length_set]; exact t1, by rw [List.length_set]; exact t2, by dsimp only; omega, fun i hi => ?_, fun i hi => ?_⟩ ⟨by dsimp only; rw [r1], fun i hi => ?_⟩
        · dsimp only
          rw [set_get s1 h]
          split
          · omega
          · exact s2 i hi
        · dsimp only
          refine Nat.or_lt_two_pow (Nat.lt_of_lt_of_le s4 (Nat.pow_le_pow_right (by omega) (by omega))) ?_
          have hp2 : 2 ^ x.1.2.2.2.2.2 < 2 ^ (x.1.2.2.2.2.2 + 1) := Nat.pow_lt_pow_right (by omega) (by omega)
          split
          · exact hp2
          · exact Nat.two_pow_pos _
        · dsimp only
          rw [r1, set_get t1 h]
          split
          · omega
          · exact t4 i hi
        · dsimp only
          rw [r1, set_get t2 h]
          split
          · split <;> omega
          · exact t5 i hi
        · dsimp only at hi ⊢
          rw [r1, set_get t1 h, set_get s1 h, set_get t2 h]
          by_cases hin : i = x.1.2.2.2.2.2
          · rw [if_pos hin, if_pos hin, if_pos hin, hin, hs_new s4]
            exact ⟨rfl, rfl⟩
          · rw [if_neg hin, if_neg hin, if_neg hin, hs_old (by omega)]
            exact r2 i (by omega)
    · rw [if_neg h] at hv
      refine stp_no R hx hm hv ?_
      rw [s_mseen hm r3 he b, if_pos (by rw [r1]; omega)]
theorem st_forget (R : Rel x m) (hx : iX hp 1 x) (hm : iM hp 61 m) : duo_ hp 81 161 [] := by
  obtain ⟨s1, s2, s3, s4⟩ := R.1.1.2.2
  obtain ⟨_, _, _, ⟨r1, r2⟩, ⟨t1, t2, t3, t4, t5⟩⟩ := R.2.1
  have r1 : m.2.2.1.2.2 = x.1.2.2.2.2.2 := r1
  refine ⟨_, _, (m.1, m.2.1, (m.2.2.1.1, m.2.2.1.2.1, 0), m.2.2.2), s_forget hx, ?_, ?_⟩
  · rw [s_mforget (iM_X hm _), r1]
  · exact Rel_S R ⟨s1, s2, Nat.zero_le _, Nat.zero_lt_one⟩ ⟨t1, t2, Nat.zero_le _, t4, t5⟩ ⟨rfl, fun i hi => absurd hi (Nat.not_lt_zero _)⟩
theorem fit_eq (R : Rel x m) : fitM m = fitS x.1.2.2.2 := by
  obtain ⟨_, _, _, ⟨r1, r2⟩, _⟩ := R.2.1
  have r1 : m.2.2.1.2.2 = x.1.2.2.2.2.2 := r1
  show fitL (evM m) (sdM m) m.2.2.1.2.2 = fitL (fun i => x.1.2.2.2.1.getD i 0) (hs x.1.2.2.2.2.1) x.1.2.2.2.2.2
  rw [r1]
  refine fitL_ext (fun i hi => (r2 i hi).1) (fun i hi => ?_)
  have := (r2 i hi).2
  have h2 : m.2.2.1.2.1.getD i 0 = if hs x.1.2.2.2.2.1 i = true then 1 else 0 := this
  unfold sdM
  rw [h2]
  cases hs x.1.2.2.2.2.1 i <;> rfl
theorem st_fits (R : Rel x m) (hx : iX hp 1 x) (hm : iM hp 61 m) (z1 : Int32) : duo_ hp 83 162 [.int z1] := by
  obtain ⟨q, e⟩ := s_fits hx R.1.1.2.2 z1
  refine ⟨_, _, m, e, ?_, Rel_same R (svX_Q R.1 q) (smM_i R.2.2.2.1.1)⟩
  rw [s_mfits (iM_X hm _) (Rel_okM R).2.2.1 z1, sM_i (iM_X hm _), fit_eq R]
theorem st_ask (R : Rel x m) (hx : iX hp 1 x) (hm : iM hp 61 m) (z1 : Int32) : duo_ hp 89 165 [.int z1] := by
  cases h1 : rg (nI 0) (nI 1) z1 with
  | false => exact stp_no R hx hm (noc_ask1 hp 1 h1) (nom_ask1 hp 61 h1)
  | true =>
    have h1' := h1
    obtain ⟨z, _, hz, e1⟩ := r_of h1
    subst e1
    obtain ⟨q, e⟩ := s_ask hx R.1.1.2.2 hz
    refine ⟨_, _, m, e, ?_, Rel_same R (svX_Q R.1 q) (smM_i R.2.2.2.1.1)⟩
    rw [s_mask (iM_X hm _) (Rel_okM R).2.2.1 h1', sM_i (iM_X hm _), fit_eq R]
theorem st_lift (R : Rel x m) (hx : iX hp 1 x) (hm : iM hp 61 m) (z1 : Int32) : duo_ hp 92 166 [.int z1] := by
  cases h1 : rg (nI 0) (nI 1) z1 with
  | false => exact stp_no R hx hm (noc_lift1 hp 1 h1) (nom_lift1 hp 61 h1)
  | true =>
    have h1' := h1
    obtain ⟨z, _, hz, e1⟩ := r_of h1
    subst e1
    have hv : m.1.2.2.2.2.1 = x.1.2.1.2.2.2.2.2.1 := congrArg (fun q : g0T => q.2.2.2.2.1) R.2.1.2.1
    obtain ⟨wi, e2⟩ := s_mlift (iM_X hm x) (by rw [hv]; exact R.1.1.1.2.2.1) h1'
    have e : cl pg 92 [.ref 1, .int (nI z)] hp = q_i (if z = 1 then gpI (lftN x.1.2.1.2.2.2.2.2.1) else bI (winN x.1.2.1.2.2.2.2.2.1)) (sX hp 1 x) := by
      rw [sX_i hx]
      exact s_lift hx R.1.1.1 hz
    refine ⟨_, x, mG m wi, e, ?_, Rel_same R (svX_i R.1) ⟨rfl, rfl, rfl, rfl, rfl, R.2.2.2.1.1⟩⟩
    rw [e2, hv]
    congr 1
    by_cases hz1 : z = 1
    · rw [if_pos (congrArg nI hz1), if_pos hz1]
    · rw [if_neg (fun q => hz1 ((nI_eq (by omega) (by omega)).mp q)), if_neg hz1]
theorem st_year (R : Rel x m) (hx : iX hp 1 x) (hm : iM hp 61 m) (z1 z2 z3 : Int32) : duo_ hp 96 171 [.int z1, .int z2, .int z3] := by
  cases h1 : (rg (nI 0) (nI 9999) z1 && (rg (nI 1) (nI 99) z2 && rg (nI 0) (nI 2) z3)) with
  | false => exact stp_no R hx hm (noc_year1 hp 1 h1) (nom_year1 hp 61 h1)
  | true =>
    simp only [Bool.and_eq_true] at h1
    obtain ⟨g1, g2, g3⟩ := h1
    obtain ⟨sd, _, hs, e1⟩ := r_of g1
    obtain ⟨n, hn1, hn2, e2⟩ := r_of g2
    obtain ⟨z, _, hz, e3⟩ := r_of g3
    subst e1
    subst e2
    subst e3
    obtain ⟨w', ow, e⟩ := s_year hx R.1 hs hn1 hn2 hz
    obtain ⟨m', e2, hm2⟩ := s_myear (iM_X hm (xY x w')) (Rel_okM R) hs hn1 hn2 hz
    rw [Rel_mW R, yrV_uO] at e2
    exact ⟨_, _, m', e, e2, Rel_same R (svX_Y R.1 ow) hm2⟩
theorem st_told (R : Rel x m) (hx : iX hp 1 x) (hm : iM hp 61 m) (z1 : Int32) : duo_ hp 103 178 [.int z1] := by
  cases h1 : rg (nI 0) (nI 179) z1 with
  | false => exact stp_no R hx hm (s_toldNo h1) (s_mtoldNo h1)
  | true =>
    obtain ⟨j, _, hj, e1⟩ := r_of h1
    subst e1
    refine stp_no R hx hm (s_told hx hj) ?_
    have ec : m.2.1 = x.1.2.2.1 := R.2.1.2.2.1
    have en : m.2.2.1.2.2 = x.1.2.2.2.2.2 := R.2.1.2.2.2.1.1
    have el : m.2.2.2.1.2 = x.2.2.2.1.2.2.2.2.1 := R.2.2.1.2.1
    rw [s_mtold hm hj, Rel_mW R, ec, en, el]
    rfl
theorem rN_cp {n : aN} {y : aY} (h : rN n y) (k : Bool) (w : aW) : rN (k, cpW w n.2.1, n.2.2.1, n.2.2.2) y := h
theorem st_image (R : Rel x m) (hx : iX hp 1 x) (hm : iM hp 61 m) (z1 : Int32) : duo_ hp 98 173 [.int z1] := by
  cases h1 : rg (nI 0) (nI 1) z1 with
  | false => exact stp_no R hx hm (noc_image1 hp 1 h1) (nom_image1 hp 61 h1)
  | true =>
    obtain ⟨k, _, hk, e1⟩ := r_of h1
    subst e1
    obtain ⟨ok, hN, hP, ⟨q1, q2⟩, i0, i1⟩ := id R
    obtain ⟨kp', ka, e2, l2, hs, ho⟩ := s_mimage (iM_X hm (xI x k (kpN x k))) q2 (lnY_of ok.1 hN) hk
    refine ⟨_, _, _, s_image hx ok hk, e2, ?_⟩
    obtain ⟨k1, k2, k3, k4, k5, k6, k7⟩ := ok
    have okn : okN (kpN x k) := ⟨ok_cpW k1.1, k1.2.1, k1.2.2⟩
    have hrn : rN (kpN x k) (vis m) := rN_cp hN true _
    rcases Nat.lt_or_ge k 1 with h | h
    · have k0 : k = 0 := by omega
      subst k0
      refine ⟨⟨k1, okn, k3, k4, k5, k6, k7⟩, hN, hP, ⟨q1, l2⟩, ⟨rfl, fun _ => ⟨vis m, hs, hrn⟩⟩, ⟨i1.1, fun q => ?_⟩⟩
      obtain ⟨y, y1, y2⟩ := i1.2 q
      exact ⟨y, ho y y1, y2⟩
    · have k0 : k = 1 := by omega
      subst k0
      refine ⟨⟨k1, k2, okn, k4, k5, k6, k7⟩, hN, hP, ⟨q1, l2⟩, ⟨i0.1, fun q => ?_⟩, ⟨rfl, fun _ => ⟨vis m, hs, hrn⟩⟩⟩
      obtain ⟨y, y1, y2⟩ := i0.2 q
      exact ⟨y, ho y y1, y2⟩
theorem st_restore (R : Rel x m) (hx : iX hp 1 x) (hm : iM hp 61 m) (z1 : Int32) : duo_ hp 102 177 [.int z1] := by
  cases h1 : rg (nI 0) (nI 1) z1 with
  | false => exact stp_no R hx hm (noc_restore1 hp 1 h1) (nom_restore1 hp 61 h1)
  | true =>
    obtain ⟨k, _, hk, e1⟩ := r_of h1
    subst e1
    obtain ⟨ok, hN, hP, ⟨q1, q2⟩, i0, i1⟩ := id R
    have ik : rI x m k := by
      rcases Nat.lt_or_ge k 1 with h | h
      · have k0 : k = 0 := by omega
        rw [k0]
        exact i0
      · have k0 : k = 1 := by omega
        rw [k0]
        exact i1
    have oki : okN (imX x k) := by
      show okN (if k = 0 then x.2.1 else x.2.2.1)
      split
      · exact ok.2.1
      · exact ok.2.2.1
    have hv := s_restore hx ok hk
    by_cases hi : (imX x k).1 = true
    · rw [if_pos hi] at hv
      obtain ⟨y, y1, y2⟩ := ik.2 hi
      obtain ⟨ka, e2⟩ := s_mrestore (iM_X hm (rsX x k)) q2 (lnY_of ok.1 hN) hk (lnY_of oki y2) (by rw [ik.1]; exact hi) y1
      refine ⟨_, _, _, hv, e2, ?_⟩
      obtain ⟨k1, k2, k3, k4, k5, k6, k7⟩ := ok
      refine ⟨⟨⟨ok_cpW oki.1, oki.2.1, oki.2.2⟩, k2, k3, k4, k5, k6, k7⟩, rN_cp y2 _ _, hP, ⟨q1, q2⟩, i0, i1⟩
    · rw [if_neg hi] at hv
      refine stp_no R hx hm hv (s_mrestoreNo hm hk ?_)
      rw [ik.1]
      simpa using hi
/-- votes: long -/
def duoL_ (hp : pH) (kv km : Nat) (as : List Value) : Prop := ∃ (z : Int64) (x' : aX) (m' : aM), cl pg kv (.ref 1 :: as) hp = q_l z (sX hp 1 x') ∧ cl pg km (.ref 61 :: as) (sX hp 1 x') = q_l z (sM (sX hp 1 x') 61 m') ∧ Rel x' m'
theorem st_votes (R : Rel x m) (hx : iX hp 1 x) (hm : iM hp 61 m) (z1 z2 z3 z4 : Int32) : duoL_ hp 94 168 [.int z1, .int z2, .int z3, .int z4] := by
  cases h1 : rgV z1 z2 z3 z4 with
  | false =>
    refine ⟨-1000000000000000002, x, m, ?_, ?_, R⟩
    · rw [sX_i hx]
      exact s_votesNo hp h1
    · rw [sX_i hx, sM_i hm]
      exact s_mvotesNo hp h1
  | true =>
    unfold rgV at h1
    simp only [Bool.and_eq_true] at h1
    obtain ⟨g1, g2, g3, g4⟩ := h1
    obtain ⟨a, _, a2, e1⟩ := r_of g1
    obtain ⟨b, _, b2, e2⟩ := r_of g2
    obtain ⟨w, _, w2, e3⟩ := r_of g3
    obtain ⟨p, _, p2, e4⟩ := r_of g4
    subst e1
    subst e2
    subst e3
    subst e4
    obtain ⟨od, go, e⟩ := s_mvotes (iM_X hm x) a2 b2 (w := w) (p := p) (by omega) (by omega)
    refine ⟨_, x, mV m od go, ?_, e, Rel_same R (svX_i R.1) ⟨rfl, rfl, rfl, rfl, rfl, R.2.2.2.1.1⟩⟩
    rw [sX_i hx]
    exact s_votes hp a2 b2 (by omega) (by omega)
end ST
