/-! The reference's answers about days. -/
theorem inT {a b : Nat} {z : Int32} (h : rg (nI a) (nI b) z = true) (ha : a < 2 ^ 31) (hb : b < 2 ^ 31) (hp : pH) : cl pg 109 [.long z.toInt64, .long (lN a), .long (lN b)] hp = q_i (nI 1) hp := by
  rw [s_in z ha hb, h]
  rfl
theorem inF {a b : Nat} {z : Int32} (h : rg (nI a) (nI b) z = false) (ha : a < 2 ^ 31) (hb : b < 2 ^ 31) (hp : pH) : cl pg 109 [.long z.toInt64, .long (lN a), .long (lN b)] hp = q_i (nI 0) hp := by
  rw [s_in z ha hb, h]
  rfl
theorem moT {z : Int32} (h : rg (nI 0) (nI 7) z = true) (hp : pH) : cl pg 108 [.int z] hp = q_i (nI 1) hp := by
  rw [s_misOne z, h]
  rfl
theorem moF {z : Int32} (h : rg (nI 0) (nI 7) z = false) (hp : pH) : cl pg 108 [.int z] hp = q_i (nI 0) hp := by
  rw [s_misOne z, h]
  rfl
theorem wiT {a b z : Int32} (h : rg a b z = true) (hp : pH) : cl pg 11 [.int z, .int a, .int b] hp = q_i (nI 1) hp := by
  rw [s_within z, h]
  rfl
theorem wiF {a b z : Int32} (h : rg a b z = false) (hp : pH) : cl pg 11 [.int z, .int a, .int b] hp = q_i (nI 0) hp := by
  rw [s_within z, h]
  rfl
theorem ioT {z : Int32} (h : rg (nI 0) (nI 7) z = true) (hp : pH) : cl pg 10 [.int z] hp = q_i (nI 1) hp := by
  rw [s_isOne z, h]
  rfl
theorem ioF {z : Int32} (h : rg (nI 0) (nI 7) z = false) (hp : pH) : cl pg 10 [.int z] hp = q_i (nI 0) hp := by
  rw [s_isOne z, h]
  rfl
theorem rgT {a b j : Nat} (h1 : a ≤ j) (h2 : j ≤ b) (hb : b < 2 ^ 31) : rg (nI a) (nI b) (nI j) = true := by
  rw [rg_nI (by omega) (by omega) hb, decide_eq_true h1, decide_eq_true h2]
  rfl
theorem n10 : ¬ nI 1 = nI 0 := by decide
theorem RFn_no {cs : List Nat} {w : aW} : RFn cs w = -5 ↔ ¬ (RDn cs).1 = none := by
  unfold RFn
  constructor
  · intro h q
    rw [if_pos q] at h
    split at h
    · exact absurd h (by decide)
    · exact absurd h (by decide)
  · intro h
    rw [if_neg h]
section MJ
variable {hp : pH} {o : Nat} {x : aM}
theorem s_mjudge (hx : iM hp o x) (ok : okM x) {z : Nat} (hz : z ≤ 2) : ∃ x', cl pg 125 [.ref o, .int (nI z)] hp = q_i (JDn (csM x) (mW x) z) (sM hp o x') ∧ smM x x' := by
  obtain ⟨x', e, hk, hr⟩ := s_refusal hx ok
  obtain ⟨eb, hs⟩ := s_backM hx ok hk (RFn (csM x) (mW x))
  refine ⟨_, ?_, hs⟩
  have h24 : (RDn (csM x)).1 = none → ∀ v2, dn pg 125 24 [some (.ref o), some (.int (nI z)), v2] [] (sM hp o (mS x' (mW x) (mth x'))) = q_i (if z = 0 then (GOn (csM x) (mW x)).1.1 else if z = 1 then (GOn (csM x) (mW x)).1.2.1 else nI (GOn (csM x) (mW x)).1.2.2.1) (sM hp o (mS x' (mW x) (mth x'))) := by
    intro hn v2
    obtain ⟨_, h2, _⟩ := hr hn
    have e0 : (mS x' (mW x) (mth x')).2.2.2.2.2.2.2.2.2.2.2.2.2 = (GOn (csM x) (mW x)).1 := h2
    rw [B125_24, gM_22s hx, gM_21s hx, gM_20s hx, e0]
    have h31 : z < 2 ^ 31 := by omega
    by_cases z0 : z = 0
    · rw [if_neg (not_not_intro ((nI_eq h31 (by omega)).mpr z0)), if_pos z0, B125_37]
    · rw [if_pos (fun q => z0 ((nI_eq h31 (by omega)).mp q)), if_neg z0]
      by_cases z1 : z = 1
      · rw [if_neg (not_not_intro ((nI_eq h31 (by omega)).mpr z1)), if_pos z1, B125_37]
      · rw [if_pos (fun q => z1 ((nI_eq h31 (by omega)).mp q)), if_neg z1, B125_37]
  rw [E125, B125_0, inT (rgT (Nat.zero_le _) hz (by decide)) (by decide) (by decide), er_i, if_pos n10, vM hx, e, er_i, vM_s hx, eb, er_i]
  unfold JDn
  by_cases hno : RFn (csM x) (mW x) = -5
  · rw [if_pos hno, if_pos hno, B125_22, hno]
  · have hn : (RDn (csM x)).1 = none := by
      by_cases q : (RDn (csM x)).1 = none
      · exact q
      · exact absurd (RFn_no.mpr q) hno
    rw [if_neg hno, if_neg hno]
    by_cases h1 : z ≤ 1
    · rw [if_pos (nI_le h1 (by omega)), if_neg (fun q => by omega), h24 hn]
    · have h2 : z = 2 := by omega
      rw [if_neg (nI_ge (by omega) (by omega))]
      by_cases h3 : RFn (csM x) (mW x) = -3
      · rw [if_neg (not_not_intro h3), if_pos ⟨h2, h3⟩, B125_22, h3]
      · rw [if_pos h3, if_neg (fun q => h3 q.2), h24 hn]
theorem s_mofOne (hx : iM hp o x) (ok : okW (mW x)) {i z : Nat} (hi : i < 8) (hz : z ≤ 3) : cl pg 141 [.ref o, .int (nI i), .int (nI z)] hp = q_i (nI (ONn (mW x) i z)) hp := by
  have h31 : z < 2 ^ 31 := by omega
  rw [E141, B141_0, gM_2 hx, gM_4 hx, gM_0 hx, rM_t hx hi, rM_n hx hi, vM hx, s_mthick hx ok hi, er_i]
  unfold ONn
  by_cases z0 : z = 0
  · rw [if_neg (not_not_intro ((nI_eq h31 (by omega)).mpr z0)), if_pos z0, B141_28]
    rfl
  rw [if_pos (fun q => z0 ((nI_eq h31 (by omega)).mp q)), if_neg z0]
  by_cases z1 : z = 1
  · have hv : x.1.2.2.2.2.1 < 256 := ok.2.2.1
    rw [if_neg (not_not_intro ((nI_eq h31 (by omega)).mpr z1)), if_pos z1, B141_28, hs_I _ hv i hi]
    show q_i (bI (hs x.1.2.2.2.2.1 i)) hp = q_i (nI (if hs x.1.2.2.2.2.1 i = true then 1 else 0)) hp
    cases hs x.1.2.2.2.2.1 i <;> rfl
  rw [if_pos (fun q => z1 ((nI_eq h31 (by omega)).mp q)), if_neg z1]
  by_cases z2 : z = 2
  · rw [if_neg (not_not_intro ((nI_eq h31 (by omega)).mpr z2)), if_pos z2, B141_28]
    rfl
  rw [if_pos (fun q => z2 ((nI_eq h31 (by omega)).mp q)), if_neg z2, B141_28]
theorem s_mofAll (hx : iM hp o x) (ok : okW (mW x)) {z : Nat} (hz : z ≤ 6) : cl pg 143 [.ref o, .int (nI z)] hp = q_i (nI (ALn (mW x) z)) hp := by
  have h31 : z < 2 ^ 31 := by omega
  rw [E143, B143_0, gM_5 hx, gM_6 hx, vM hx, vM hx, s_treatyMany hx ok, s_manyOf hx ok (by omega), er_i, er_i]
  unfold ALn
  by_cases z4 : z < 4
  · rw [if_neg (nI_ge z4 (by omega)), if_pos z4, B143_21]
  rw [if_pos (nI_le (by omega) (by omega)), if_neg z4]
  by_cases z5 : z = 4
  · rw [if_neg (not_not_intro ((nI_eq h31 (by omega)).mpr z5)), if_pos z5, B143_21]
    rfl
  rw [if_pos (fun q => z5 ((nI_eq h31 (by omega)).mp q)), if_neg z5]
  by_cases z6 : z = 5
  · rw [if_neg (not_not_intro ((nI_eq h31 (by omega)).mpr z6)), if_pos z6, B143_21]
    rfl
  rw [if_pos (fun q => z6 ((nI_eq h31 (by omega)).mp q)), if_neg z6, B143_21]
theorem RFn_6 {cs : List Nat} {w : aW} (h : RFn cs w = -6) : (RDn cs).1 = none := by
  by_cases q : (RDn cs).1 = none
  · exact q
  · have := (RFn_no (w := w)).mpr q
    rw [h] at this
    exact absurd this (by decide)
theorem okM_ref {x' : aM} (hk : kpM x x') : okW (mW x') := hk.2.2.2.2.2.2
theorem ONn_uO (w : aW) (fo : Nat → Int32) (i z : Nat) : ONn (uO w fo) i z = ONn w i z := rfl
theorem ALn_uO (w : aW) (fo : Nat → Int32) (z : Nat) : ALn (uO w fo) z = ALn w z := rfl
theorem s_mbehind (hx : iM hp o x) (ok : okM x) {i z : Nat} (hi : i < 8) (hz : z ≤ 3) : ∃ x', cl pg 140 [.ref o, .int (nI i), .int (nI z)] hp = q_i (BHn (csM x) (mW x) i z) (sM hp o x') ∧ smM x x' := by
  obtain ⟨x', e, hk, hr⟩ := s_refusal hx ok
  obtain ⟨eb, hs⟩ := s_backM hx ok hk (BHn (csM x) (mW x) i z)
  refine ⟨_, ?_, hs⟩
  have hx' : iM (sM hp o x') o x' := iM_s hx
  rw [E140, B140_0, moT (rgT (Nat.zero_le _) (by omega) (by decide)), er_i, if_pos n10, inT (rgT (Nat.zero_le _) hz (by decide)) (by decide) (by decide), er_i, if_pos n10, vM hx, e, er_i]
  by_cases h6 : RFn (csM x) (mW x) = -6
  · obtain ⟨h1, _, _⟩ := hr (RFn_6 h6)
    have ea : BHn (csM x) (mW x) i z = nI (ONn (mW x') i z) := by
      unfold BHn
      rw [if_pos h6, h1, ONn_uO]
    rw [ea] at eb ⊢
    rw [if_pos h6, vM_s hx, s_mofOne hx' (okM_ref hk) hi hz, er_i, B140_26, vM_s hx, eb, er_i]
  · have ea : BHn (csM x) (mW x) i z = RFn (csM x) (mW x) := if_neg h6
    rw [ea] at eb ⊢
    rw [if_neg h6, B140_26, vM_s hx, eb, er_i]
theorem s_mstates (hx : iM hp o x) (ok : okM x) {z : Nat} (hz : z ≤ 6) : ∃ x', cl pg 142 [.ref o, .int (nI z)] hp = q_i (STn (csM x) (mW x) z) (sM hp o x') ∧ smM x x' := by
  obtain ⟨x', e, hk, hr⟩ := s_refusal hx ok
  obtain ⟨eb, hs⟩ := s_backM hx ok hk (STn (csM x) (mW x) z)
  refine ⟨_, ?_, hs⟩
  have hx' : iM (sM hp o x') o x' := iM_s hx
  rw [E142, B142_0, inT (rgT (Nat.zero_le _) hz (by decide)) (by decide) (by decide), er_i, if_pos n10, vM hx, e, er_i]
  by_cases h6 : RFn (csM x) (mW x) = -6
  · obtain ⟨h1, _, _⟩ := hr (RFn_6 h6)
    have ea : STn (csM x) (mW x) z = nI (ALn (mW x') z) := by
      unfold STn
      rw [if_pos h6, h1, ALn_uO]
    rw [ea] at eb ⊢
    rw [if_pos h6, vM_s hx, s_mofAll hx' (okM_ref hk) hz, er_i, B142_20, vM_s hx, eb, er_i]
  · have ea : STn (csM x) (mW x) z = RFn (csM x) (mW x) := if_neg h6
    rw [ea] at eb ⊢
    rw [if_neg h6, B142_20, vM_s hx, eb, er_i]
theorem s_mannexed (hx : iM hp o x) (ok : okM x) {z : Nat} (hz : z ≤ 1) : ∃ x', cl pg 145 [.ref o, .int (nI z)] hp = q_i (ANn (csM x) (mW x) z) (sM hp o x') ∧ smM x x' := by
  obtain ⟨x', e, hk, hr⟩ := s_refusal hx ok
  obtain ⟨eb, hs⟩ := s_backM hx ok hk (RFn (csM x) (mW x))
  refine ⟨_, ?_, hs⟩
  have h31 : z < 2 ^ 31 := by omega
  rw [E145, B145_0, inT (rgT (Nat.zero_le _) hz (by decide)) (by decide) (by decide), er_i, if_pos n10, vM hx, e, er_i, vM_s hx, eb, er_i]
  unfold ANn
  by_cases h6 : RFn (csM x) (mW x) = -6
  · obtain ⟨_, h2, _⟩ := hr (RFn_6 h6)
    have e0 : (mS x' (mW x) (mth x')).2.2.2.2.2.2.2.2.2.2.2.2.2 = (GOn (csM x) (mW x)).1 := h2
    rw [if_pos h6, if_pos h6, gM_24s hx, gM_23s hx, e0]
    by_cases z0 : z = 0
    · rw [if_neg (not_not_intro ((nI_eq h31 (by omega)).mpr z0)), if_pos z0, B145_25]
    · rw [if_pos (fun q => z0 ((nI_eq h31 (by omega)).mp q)), if_neg z0, B145_25]
  · rw [if_neg h6, if_neg h6, B145_25]
/-- the pad is empty, the world another -/
def dnM (x x' : aM) : Prop := mW x' = uO (GOn (csM x) (mW x)).2 (fun _ => 0) ∧ x'.2.1 = x.2.1 ∧ x'.2.2.1 = x.2.2.1 ∧ x'.2.2.2.1 = (x.2.2.2.1.1, 0) ∧ x'.2.2.2.2.2.1 = x.2.2.2.2.2.1 ∧ (mhd x').length = 27
theorem s_mdone (hx : iM hp o x) (ok : okM x) : ∃ x', cl pg 146 [.ref o] hp = q_i (DNn (csM x) (mW x)) (sM hp o x') ∧ (RFn (csM x) (mW x) = -6 → dnM x x') ∧ (¬ RFn (csM x) (mW x) = -6 → smM x x') := by
  obtain ⟨x', e, hk, hr⟩ := s_refusal hx ok
  obtain ⟨eb, hs⟩ := s_backM hx ok hk (RFn (csM x) (mW x))
  rw [E146, B146_0, vM hx, e, er_i]
  unfold DNn
  by_cases h6 : RFn (csM x) (mW x) = -6
  · obtain ⟨h1, h2, h3⟩ := hr (RFn_6 h6)
    obtain ⟨k1, k2, k3, k4, k5, k6, k7⟩ := hk
    obtain ⟨g0, g1, g2, ⟨sg, ln⟩, ⟨ki, wh, ot, ac⟩, g5, g6⟩ := x'
    refine ⟨(g0, g1, g2, (sg, 0), (ki, wh, ot, ac), g5, g6), ?_, fun _ => ⟨h1, k1, k2, ?_, k4, k5.1⟩, fun q => absurd h6 q⟩
    · rw [if_pos h6, if_pos h6, pM_13s hx, gM_17s hx]
      show q_i (nI ac) _ = _
      rw [show ac = (RDn (csM x)).2.length from h3]
    · have e1 : sg = x.2.2.2.1.1 := congrArg Prod.fst k3
      show (sg, 0) = _
      rw [e1]
  · refine ⟨_, ?_, fun q => absurd q h6, fun _ => hs⟩
    rw [if_neg h6, if_neg h6, vM_s hx, eb, er_i]
end MJ
