/-! The class's answers about days. -/
def FLn (cs : List Nat) (w : aW) (b : Bool) : Int32 := if (RDn cs).1 = none then (if b = true ∧ ¬ (GOn cs w).1.1 = -6 then -3 else nI 0) else -5
/-- the same but for the pad's rows and the course -/
def smX (x x' : aX) : Prop := ∃ (p : aP) (k : aK), x' = xK (xP x p) k ∧ p.1 = x.2.2.2.1.1 ∧ p.2.2.2.2.1 = x.2.2.2.1.2.2.2.2.1 ∧ okW k.2
theorem smX_ok {x x' : aX} (h : smX x x') (ok : okX x) : okX x' := by
  obtain ⟨p, k, e, h1, h2, h3⟩ := h
  obtain ⟨k1, k2, k3, ⟨l1, l2, l3⟩, k5, k6, k7⟩ := ok
  subst e
  refine ⟨k1, k2, k3, ⟨?_, ?_, ?_⟩, h3, k6, k7⟩
  · show p.1.length = 60
    rw [h1]
    exact l1
  · show p.2.2.2.2.1 ≤ 60
    rw [h2]
    exact l2
  · show ∀ i, i < p.2.2.2.2.1 → p.1.getD i 0 < 128
    rw [h1, h2]
    exact l3
theorem smX_cs {x x' : aX} (h : smX x x') : csX x' = csX x := by
  obtain ⟨p, k, e, h1, h2, h3⟩ := h
  subst e
  show p.1.take p.2.2.2.2.1 = _
  rw [h1, h2]
section VD
variable {hp : pH} {o : Nat} {x : aX}
theorem csX_le (x : aX) (ok : okX x) : (csX x).length ≤ 60 := by
  have := ok.2.2.2.1.2.1
  rw [List.length_take]
  omega
theorem s_fault (hx : iX hp o x) (ok : okX x) : ∃ x', cl pg 28 [.ref o] hp = q_i ((RDn (csX x)).1.elim (-6) nI) (sX hp o x') ∧ smX x x' := by
  obtain ⟨l1, l2, l3⟩ := ok.2.2.2.1
  have hP := iX_P hx
  obtain ⟨n0, n1, n2, ⟨sg, ki, wh, ot, ln, ac⟩, k, rest⟩ := x
  obtain ⟨ki', wh', ot', e, hI⟩ := s_read hP l1 l2 l3
  refine ⟨_, ?_, ⟨(sg, ki', wh', ot', ln, (rdP (sg.take ln) 0 0 0 0 []).2.length), k, rfl, rfl, rfl, ok.2.2.2.2.1⟩⟩
  rw [E28, B28_0, lX_3 hx, vP hP, e, er_i, sX_P hx]
  rfl
/-- the course behind a pad that reads -/
def crK (k : aK) (cs : List Nat) (w : aW) : aK := ((GOn cs w).1, uO (GOn cs w).2 k.2.2.2.2.2.1)
theorem s_follow (hx : iX hp o x) (ok : okX x) (b : Bool) : ∃ x', cl pg 36 [.ref o, .int (bI b)] hp = q_i (FLn (csX x) x.1.2.1 b) (sX hp o x') ∧ smX x x' ∧ ((RDn (csX x)).1 = none → x'.2.2.2.2.1.1 = (GOn (csX x) x.1.2.1).1 ∧ (∃ fo, x'.2.2.2.2.1.2 = uO (GOn (csX x) x.1.2.1).2 fo) ∧ x'.2.2.2.1.2.2.2.2.2 = (RDn (csX x)).2.length) := by
  obtain ⟨l1, l2, l3⟩ := ok.2.2.2.1
  have okw := ok.1.1
  have oke := ok.2.2.2.2.1
  have hle := csX_le x ok
  have hP := iX_P hx
  obtain ⟨k1, k2, k3⟩ := RDn_ok (csX x)
  obtain ⟨n0, n1, n2, ⟨sg, ki, wh, ot, ln, ac⟩, k, rest⟩ := x
  obtain ⟨ki', wh', ot', e, hI⟩ := s_read hP l1 l2 l3
  have e' : cl pg 29 [.ref (o + 37)] hp = q_i ((RDn (sg.take ln)).1.elim (-6) nI) (sP hp (o + 37) (sg, ki', wh', ot', ln, (RDn (sg.take ln)).2.length)) := e
  rw [E36, B36_0, lX_3 hx, vP hP, e', er_i, sX_P hx]
  unfold FLn
  cases hr : (RDn (sg.take ln)).1 with
  | some pos =>
    refine ⟨_, ?_, ⟨(sg, ki', wh', ot', ln, (RDn (sg.take ln)).2.length), k, rfl, rfl, rfl, oke⟩, fun q => (by cases q)⟩
    have hpos : ¬ ((some pos).elim (-6) nI : Int32) = -6 := by
      have : pos ≤ 60 := by
        have hb : ∀ (cs : List Nat) (p aw k a : Nat) (A : List (Nat × Nat × Nat)) (q : Nat), (rdP cs p aw k a A).1 = some q → q ≤ p + cs.length := by
          intro cs
          induction cs with
          | nil =>
            intro p aw k a A q hq
            unfold rdP at hq
            dsimp only at hq
            split at hq
            · cases hq
            · cases hq
              exact Nat.le_refl _
          | cons c cs ih =>
            intro p aw k a A q hq
            unfold rdP at hq
            rw [List.length_cons]
            cases hst : stP aw k a c with
            | none =>
              rw [hst] at hq
              cases hq
              omega
            | some r =>
              obtain ⟨aw', k', a', e⟩ := r
              rw [hst] at hq
              cases e with
              | none =>
                have := ih _ _ _ _ _ _ hq
                omega
              | some e =>
                have := ih _ _ _ _ _ _ hq
                omega
        have := hb _ _ _ _ _ _ _ hr
        have h60 : (sg.take ln).length ≤ 60 := hle
        omega
      exact nI_ne6 (by omega)
    rw [if_neg hpos, if_neg (show ¬ (some pos : Option Nat) = none from fun q => by cases q)]
  | none =>
    have hx1 := iX_s (y := (n0, n1, n2, (sg, ki', wh', ot', ln, (RDn (sg.take ln)).2.length), k, rest)) hx
    have hn : (RDn (csX (n0, n1, n2, (sg, ki, wh, ot, ln, ac), k, rest))).1 = none := hr
    have hrun := s_run (iX_K hx1) (iX_w hx1) (by omega) oke okw (A := (RDn (sg.take ln)).2) (iX_P hx1) (by omega) hI k1 (Nat.le_trans k3 hle)
    have ecp : cpW k.2 n0.2.1 = uO n0.2.1 k.2.2.2.2.2.1 := rfl
    have hrun' : cl pg 37 [.ref (o + 42), .ref (o + 2), .ref (o + 37)] (sX hp o (n0, n1, n2, (sg, ki', wh', ot', ln, (RDn (sg.take ln)).2.length), k, rest)) = q_v (sX hp o (n0, n1, n2, (sg, ki', wh', ot', ln, (RDn (sg.take ln)).2.length), crK k (sg.take ln) n0.2.1, rest)) := by
      refine hrun.trans ?_
      show q_v (sK _ (o + 42) (goR (RDn (sg.take ln)).2 0 u0 (cpW k.2 n0.2.1))) = _
      rw [ecp, goR_uO, sX_K hx1, sX_s]
      rfl
    have hx2 := iX_s (y := (n0, n1, n2, (sg, ki', wh', ot', ln, (RDn (sg.take ln)).2.length), crK k (sg.take ln) n0.2.1, rest)) hx
    obtain ⟨q1, q2, q3⟩ := goR_ok (RDn (sg.take ln)).2 0 u0 n0.2.1 okw k1 (Or.inl rfl)
    refine ⟨(n0, n1, n2, (sg, ki', wh', ot', ln, (RDn (sg.take ln)).2.length), crK k (sg.take ln) n0.2.1, rest), ?_, ⟨_, _, rfl, rfl, rfl, ok_uO q1 _⟩, fun _ => ⟨rfl, ⟨_, rfl⟩, rfl⟩⟩
    rw [if_pos (show ((none : Option Nat).elim (-6) nI : Int32) = -6 from rfl), if_pos (rfl : (none : Option Nat) = none)]
    show qg_a (sX hp o (n0, n1, n2, (sg, ki', wh', ot', ln, (RDn (sg.take ln)).2.length), k, rest)) o 8 4 _ = _
    rw [lX_4 hx1, lX_0 hx1, lX_w hx1, lX_3 hx1, vU (iX_u hx1), hrun', er_v]
    simp only [bI_0, B36_24, B36_25]
    rw [lX_4 hx2, gU_1 (iX_u hx2)]
    show (if b = false then q_i (nI 0) _ else if (GOn (sg.take ln) n0.2.1).1.1 = -6 then q_i (nI 0) _ else q_i (-3) _) = q_i (if b = true ∧ ¬ (GOn (sg.take ln) n0.2.1).1.1 = -6 then -3 else nI 0) _
    cases b
    · rw [if_pos rfl, if_neg (fun q => by cases q.1)]
    · rw [if_neg (by decide)]
      by_cases h : (GOn (sg.take ln) n0.2.1).1.1 = -6
      · rw [if_pos h, if_neg (fun q => q.2 h)]
      · rw [if_neg h, if_pos ⟨rfl, h⟩]
theorem FLn_t (cs : List Nat) (w : aW) : (FLn cs w true = nI 0 ↔ RFn cs w = -6) ∧ (¬ FLn cs w true = nI 0 → FLn cs w true = RFn cs w) := by
  unfold FLn RFn
  by_cases h : (RDn cs).1 = none
  · rw [if_pos h, if_pos h]
    by_cases h2 : (GOn cs w).1.1 = -6
    · rw [if_neg (fun q => q.2 h2), if_pos h2]
      exact ⟨⟨fun _ => rfl, fun _ => rfl⟩, fun q => absurd rfl q⟩
    · rw [if_pos ⟨rfl, h2⟩, if_neg h2]
      exact ⟨⟨fun q => absurd q (by decide), fun q => absurd q (by decide)⟩, fun _ => rfl⟩
  · rw [if_neg h, if_neg h]
    exact ⟨⟨fun q => absurd q (by decide), fun q => absurd q (by decide)⟩, fun _ => rfl⟩
theorem s_judge (hx : iX hp o x) (ok : okX x) {z : Nat} (hz : z ≤ 2) : ∃ x', cl pg 35 [.ref o, .int (nI z)] hp = q_i (JDn (csX x) x.1.2.1 z) (sX hp o x') ∧ smX x x' := by
  have h31 : z < 2 ^ 31 := by omega
  have e14 : ∀ b : Bool, (b = true ↔ z = 2) → ∃ x', dn pg 35 14 [some (.ref o), some (.int (nI z)), none] [.int (bI b), .ref o] hp = q_i (JDn (csX x) x.1.2.1 z) (sX hp o x') ∧ smX x x' := by
    intro b hb
    obtain ⟨x', e, hs, hr⟩ := s_follow hx ok b
    have hx' := iX_s (y := x') hx
    refine ⟨x', ?_, hs⟩
    rw [B35_14, vX hx, e, er_i]
    unfold FLn JDn
    by_cases hn : (RDn (csX x)).1 = none
    · obtain ⟨h1, h2, h3⟩ := hr hn
      have hno : ¬ RFn (csX x) x.1.2.1 = -5 := fun q => RFn_no.mp q hn
      have eR : RFn (csX x) x.1.2.1 = if (GOn (csX x) x.1.2.1).1.1 = -6 then -6 else -3 := if_pos hn
      rw [if_pos hn, if_neg hno]
      by_cases h4 : b = true ∧ ¬ (GOn (csX x) x.1.2.1).1.1 = -6
      · rw [if_pos h4, if_neg (show ¬ (-3 : Int32) = nI 0 by decide), if_pos ⟨hb.mp h4.1, by rw [eR, if_neg h4.2]⟩]
      · have h5 : ¬ (z = 2 ∧ RFn (csX x) x.1.2.1 = -3) := fun q => h4 ⟨hb.mpr q.1, fun g => by
          have := q.2
          rw [eR, if_pos g] at this
          exact absurd this (by decide)⟩
        rw [if_neg h4, if_pos rfl, if_neg h5, lX_4 hx', gU_3 (iX_u hx'), lX_4 hx', gU_2 (iX_u hx'), lX_4 hx', gU_1 (iX_u hx'), h1, B35_36, B35_36]
        by_cases z0 : z = 0
        · rw [if_neg (not_not_intro ((nI_eq h31 (by omega)).mpr z0)), if_pos z0]
        · rw [if_pos (fun q => z0 ((nI_eq h31 (by omega)).mp q)), if_neg z0]
          by_cases z1 : z = 1
          · rw [if_neg (not_not_intro ((nI_eq h31 (by omega)).mpr z1)), if_pos z1]
          · rw [if_pos (fun q => z1 ((nI_eq h31 (by omega)).mp q)), if_neg z1]
    · rw [if_neg hn, if_neg (show ¬ (-5 : Int32) = nI 0 by decide), if_pos (RFn_no.mpr hn)]
  rw [E35, B35_0, wiT (rgT (Nat.zero_le _) hz (by decide)), er_i, if_pos n10]
  by_cases z2 : z = 2
  · rw [if_neg (not_not_intro ((nI_eq h31 (by omega)).mpr z2))]
    exact e14 true ⟨fun _ => z2, fun _ => rfl⟩
  · rw [if_pos (fun q => z2 ((nI_eq h31 (by omega)).mp q))]
    exact e14 false ⟨fun q => (by cases q), fun q => absurd q z2⟩
theorem s_behind (hx : iX hp o x) (ok : okX x) {i z : Nat} (hi : i < 8) (hz : z ≤ 3) : ∃ x', cl pg 57 [.ref o, .int (nI i), .int (nI z)] hp = q_i (BHn (csX x) x.1.2.1 i z) (sX hp o x') ∧ smX x x' := by
  have h31 : z < 2 ^ 31 := by omega
  obtain ⟨x', e, hsm, hr⟩ := s_follow hx ok true
  obtain ⟨f1, f2⟩ := FLn_t (csX x) x.1.2.1
  have hx' := iX_s (y := x') hx
  refine ⟨x', ?_, hsm⟩
  rw [E57, B57_0, ioT (rgT (Nat.zero_le _) (by omega) (by decide)), er_i, if_pos n10, wiT (rgT (Nat.zero_le _) hz (by decide)), er_i, if_pos n10, vX hx, show nI 1 = bI true from rfl, e, er_i]
  unfold BHn
  by_cases h6 : RFn (csX x) x.1.2.1 = -6
  · obtain ⟨_, ⟨fo, h2⟩, _⟩ := hr (RFn_6 h6)
    have okE : okW x'.2.2.2.2.1.2 := (smX_ok hsm ok).2.2.2.2.1
    have hE := iX_e hx'
    have key : ∀ c, c < 8 → (nI z = nI c) = (z = c) := fun c hc => propext (nI_eq (by omega) (by omega))
    rw [if_pos (f1.mpr h6), if_pos h6, lX_4 hx', lX_e hx', vW hE, s_nationOf hE hi, er_i, lX_4 hx', lX_e hx', vW hE, s_isDown hE okE.2.2.1 hi, er_i, lX_4 hx', lX_e hx', vW hE, s_tearsOf hE hi, er_i, lX_4 hx', lX_e hx', vW hE, s_thickOf hE okE hi, er_i]
    simp only [show bI true = nI 1 from rfl, key 0 (by omega), key 1 (by omega), key 2 (by omega), B57_37, bI_0]
    have eO : ONn (GOn (csX x) x.1.2.1).2 i z = ONn x'.2.2.2.2.1.2 i z := by rw [h2, ONn_uO]
    rw [eO]
    unfold ONn
    by_cases z0 : z = 0
    · rw [if_pos z0, if_pos z0]
    rw [if_neg z0, if_neg z0]
    by_cases z1 : z = 1
    · rw [if_pos z1, if_pos z1]
      cases hs x'.2.2.2.2.1.2.2.2.2.2.2.1 i <;> rfl
    rw [if_neg z1, if_neg z1]
    by_cases z2 : z = 2
    · rw [if_pos z2, if_pos z2]
    rw [if_neg z2, if_neg z2]
  · have hne : ¬ FLn (csX x) x.1.2.1 true = nI 0 := fun q => h6 (f1.mp q)
    rw [if_neg hne, if_neg h6, f2 hne]
theorem s_states (hx : iX hp o x) (ok : okX x) {z : Nat} (hz : z ≤ 6) : ∃ x', cl pg 58 [.ref o, .int (nI z)] hp = q_i (STn (csX x) x.1.2.1 z) (sX hp o x') ∧ smX x x' := by
  have h31 : z < 2 ^ 31 := by omega
  obtain ⟨x', e, hs, hr⟩ := s_follow hx ok true
  obtain ⟨f1, f2⟩ := FLn_t (csX x) x.1.2.1
  have hx' := iX_s (y := x') hx
  refine ⟨x', ?_, hs⟩
  rw [E58, B58_0, wiT (rgT (Nat.zero_le _) hz (by decide)), er_i, if_pos n10, vX hx, show nI 1 = bI true from rfl, e, er_i]
  unfold STn
  by_cases h6 : RFn (csX x) x.1.2.1 = -6
  · obtain ⟨_, ⟨fo, h2⟩, _⟩ := hr (RFn_6 h6)
    have okE : okW x'.2.2.2.2.1.2 := (smX_ok hs ok).2.2.2.2.1
    have hE := iX_e hx'
    have key : ∀ c, c < 8 → (nI z = nI c) = (z = c) := fun c hc => propext (nI_eq (by omega) (by omega))
    rw [if_pos (f1.mpr h6), if_pos h6, lX_4 hx', lX_e hx', gW_6 hE, lX_4 hx', lX_e hx', gW_7 hE, lX_4 hx', lX_e hx', vW hE, s_treaties hE okE, er_i, lX_4 hx', lX_e hx', vW hE, s_peopleOf hE okE (by omega), er_i]
    simp only [key 4 (by omega), key 5 (by omega), key 6 (by omega)]
    have eA : ALn (GOn (csX x) x.1.2.1).2 z = ALn x'.2.2.2.2.1.2 z := by rw [h2, ALn_uO]
    rw [eA]
    unfold ALn
    by_cases z4 : z = 4
    · rw [if_pos z4, if_neg (by omega), if_pos z4]
    rw [if_neg z4]
    by_cases z5 : z = 5
    · rw [if_pos z5, if_neg (by omega), if_neg z4, if_pos z5]
    rw [if_neg z5]
    by_cases z6 : z = 6
    · rw [if_pos z6, if_neg (by omega), if_neg z4, if_neg z5]
    rw [if_neg z6, if_pos (by omega)]
  · have hne : ¬ FLn (csX x) x.1.2.1 true = nI 0 := fun q => h6 (f1.mp q)
    rw [if_neg hne, if_neg h6, f2 hne]
theorem s_annexed (hx : iX hp o x) (ok : okX x) {z : Nat} (hz : z ≤ 1) : ∃ x', cl pg 60 [.ref o, .int (nI z)] hp = q_i (ANn (csX x) x.1.2.1 z) (sX hp o x') ∧ smX x x' := by
  have h31 : z < 2 ^ 31 := by omega
  obtain ⟨x', e, hs, hr⟩ := s_follow hx ok true
  obtain ⟨f1, f2⟩ := FLn_t (csX x) x.1.2.1
  have hx' := iX_s (y := x') hx
  refine ⟨x', ?_, hs⟩
  rw [E60, B60_0, wiT (rgT (Nat.zero_le _) hz (by decide)), er_i, if_pos n10, vX hx, show nI 1 = bI true from rfl, e, er_i]
  unfold ANn
  by_cases h6 : RFn (csX x) x.1.2.1 = -6
  · obtain ⟨h1, _, _⟩ := hr (RFn_6 h6)
    rw [if_pos (f1.mpr h6), if_pos h6, lX_4 hx', gU_5 (iX_u hx'), lX_4 hx', gU_4 (iX_u hx'), h1, B60_24, B60_24]
    by_cases z0 : z = 0
    · rw [if_neg (not_not_intro ((nI_eq h31 (by omega)).mpr z0)), if_pos z0]
    · rw [if_pos (fun q => z0 ((nI_eq h31 (by omega)).mp q)), if_neg z0]
  · have hne : ¬ FLn (csX x) x.1.2.1 true = nI 0 := fun q => h6 (f1.mp q)
    rw [if_neg hne, if_neg h6, f2 hne]
/-- the pad is empty, the world another -/
def dnX (x x' : aX) : Prop := ∃ (p : aP) (k : aK), x' = xK (xP (xW x (uO (GOn (csX x) x.1.2.1).2 x.1.2.1.2.2.2.2.1)) p) k ∧ p.1 = x.2.2.2.1.1 ∧ p.2.2.2.2.1 = 0 ∧ okW k.2
theorem s_done (hx : iX hp o x) (ok : okX x) : ∃ x', cl pg 61 [.ref o] hp = q_i (DNn (csX x) x.1.2.1) (sX hp o x') ∧ (RFn (csX x) x.1.2.1 = -6 → dnX x x') ∧ (¬ RFn (csX x) x.1.2.1 = -6 → smX x x') := by
  obtain ⟨x', e, hs, hr⟩ := s_follow hx ok true
  obtain ⟨f1, f2⟩ := FLn_t (csX x) x.1.2.1
  have hx' := iX_s (y := x') hx
  rw [E61, B61_0, vX hx, show nI 1 = bI true from rfl, e, er_i]
  unfold DNn
  by_cases h6 : RFn (csX x) x.1.2.1 = -6
  · obtain ⟨_, ⟨fo, h2⟩, h3⟩ := hr (RFn_6 h6)
    have okE : okW x'.2.2.2.2.1.2 := (smX_ok hs ok).2.2.2.2.1
    have okw' : okW x'.1.2.1 := (smX_ok hs ok).1.1
    obtain ⟨p, k, ex, p1, p2, p3⟩ := hs
    have hx2 := iX_s (y := xW x' (cpW x'.1.2.1 x'.2.2.2.2.1.2)) hx
    refine ⟨xP (xW x' (cpW x'.1.2.1 x'.2.2.2.2.1.2)) (x'.2.2.2.1.1, x'.2.2.2.1.2.1, x'.2.2.2.1.2.2.1, x'.2.2.2.1.2.2.2.1, 0, 0), ?_, fun _ => ⟨(x'.2.2.2.1.1, x'.2.2.2.1.2.1, x'.2.2.2.1.2.2.1, x'.2.2.2.1.2.2.2.1, 0, 0), k, ?_, ?_, rfl, p3⟩, fun q => absurd h6 q⟩
    · rw [if_pos (f1.mpr h6), if_pos h6, lX_3 hx', gP_5 (iX_P hx'), lX_0 hx', lX_w hx', lX_4 hx', lX_e hx', vW (iX_w hx'), s_copyW (iX_w hx') (iX_e hx') (by omega) okw'.1 okE.1, er_v, sX_w hx', sX_s, lX_3 hx2, vP (iX_P hx2), s_clearP (iX_P hx2), er_v, sX_P hx2, sX_s, h3]
    · have e1 : x'.2.2.2.2.1.2 = k.2 := by rw [ex]
      have e2 : x'.1.2.1 = x.1.2.1 := by rw [ex]
      rw [h2] at e1
      have e3 : cpW x'.1.2.1 x'.2.2.2.2.1.2 = uO (GOn (csX x) x.1.2.1).2 x.1.2.1.2.2.2.2.1 := by
        rw [h2, e2]
        rfl
      rw [e3, ex]
    · show x'.2.2.2.1.1 = _
      rw [ex]
      exact p1
  · have hne : ¬ FLn (csX x) x.1.2.1 true = nI 0 := fun q => h6 (f1.mp q)
    refine ⟨x', ?_, fun q => absurd q h6, fun _ => hs⟩
    rw [if_neg hne, if_neg h6, f2 hne]
end VD
