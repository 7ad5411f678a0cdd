/-! Years: what the draws make of a world; the reference's. -/
def yrX (x : Nat) : Nat := (75 * x + 74) % 65537
def yrK (x : Nat) : Nat := if x / 8 % 8 = 0 then 1 else x / 8 % 8
def yrO (x : Nat) : Nat := if yrK x = 6 then 1 + x / 64 % 9 else x / 64 % 8
def yrS (w : aW) (x : Nat) : aW := if wny w (yrK x) (x % 8) (yrO x) = 0 then (act w (yrK x) (x % 8) (yrO x)).2 else w
def yrG : Nat → aW → Nat → aW
  | 0, w, _ => w
  | m + 1, w, x => yrG m (yrS w (yrX x)) (yrX x)
def yrA (w : aW) (z : Nat) : Nat := if z = 0 then ppl w 0 else if z = 1 then pop w.2.2.2.2.2.1 else trs w
def yrV (w : aW) (sd m z : Nat) : Nat := yrA (yrG m w sd) z
theorem yrK_lt (x : Nat) : yrK x < 8 := by
  have : x / 8 % 8 < 8 := Nat.mod_lt _ (by omega)
  unfold yrK
  split <;> omega
theorem yrO_ok (x : Nat) : yrO x < 8 ∨ yrK x = 6 ∧ yrO x < 100 := by
  have h1 : x / 64 % 8 < 8 := Nat.mod_lt _ (by omega)
  have h2 : x / 64 % 9 < 9 := Nat.mod_lt _ (by omega)
  unfold yrO
  by_cases h : yrK x = 6
  · rw [if_pos h]
    exact Or.inr ⟨h, by omega⟩
  · rw [if_neg h]
    exact Or.inl h1
theorem yrX_lt (x : Nat) : yrX x < 65537 := Nat.mod_lt _ (by omega)
theorem yrS_ok {w : aW} (ok : okW w) (x : Nat) : okW (yrS w x) := by
  unfold yrS
  split
  · rename_i h
    exact ok_act ok (Nat.lt_succ_of_lt (yrK_lt x)) (Nat.mod_lt _ (by omega)) (yrO_ok x) h
  · exact ok
theorem yrS_mesh (w : aW) (x : Nat) : (yrS w x).2.1 = w.2.1 := by
  unfold yrS
  split
  · exact act_mesh w _ _ _
  · rfl
theorem yrS_uO (w : aW) (x : Nat) (fo : Nat → Int32) : yrS (uO w fo) x = uO (yrS w x) fo := by
  unfold yrS
  rw [wny_uO]
  split
  · rw [act_uO]
  · rfl
theorem yrG_uO (fo : Nat → Int32) : ∀ (m : Nat) (w : aW) (x : Nat), yrG m (uO w fo) x = uO (yrG m w x) fo
  | 0, _, _ => rfl
  | m + 1, w, x => by
    show yrG m (yrS (uO w fo) (yrX x)) (yrX x) = uO (yrG m (yrS w (yrX x)) (yrX x)) fo
    rw [yrS_uO, yrG_uO fo m]
theorem yrV_uO (w : aW) (fo : Nat → Int32) (sd m z : Nat) : yrV (uO w fo) sd m z = yrV w sd m z := by
  unfold yrV
  rw [yrG_uO]
  rfl
def abN (k : Nat) : Nat := if k ≤ 1 then 0 else if k ≤ 5 then k - 1 else k
theorem ab_ok : ∀ k, k < 8 → ckN (abN k) = (if k = 0 then 1 else k) ∧ abN k < 8 ∧ (abN k = 6 ↔ (if k = 0 then 1 else k) = 6) := by decide
theorem s_actBy {k : Nat} (hk : k < 8) (hp : pH) : cl pg 172 [.int (nI k)] hp = q_i (nI (abN k)) hp := by
  have key : ∀ c, c < 8 → (nI k = nI c) = (k = c) := fun c hc => propext (nI_eq (by omega) (by omega))
  rw [E172, B172_0]
  simp only [key 0 (by omega), key 1 (by omega), key 2 (by omega), key 3 (by omega), key 4 (by omega), key 5 (by omega), key 6 (by omega), B172_2]
  unfold abN
  (repeat' split) <;> first | rfl | omega | (congr 2; omega)
section MY
variable {hp : pH} {o : Nat} {x : aM}
theorem s_myear (hx : iM hp o x) (ok : okM x) {sd m z : Nat} (hs : sd ≤ 9999) (hm1 : 1 ≤ m) (hm : m ≤ 99) (hz : z ≤ 2) : ∃ x', cl pg 171 [.ref o, .int (nI sd), .int (nI m), .int (nI z)] hp = q_i (nI (yrV (mW x) sd m z)) (sM hp o x') ∧ smM x x' := by
  obtain ⟨ok1, ok2, ok3, ok4, ok7, ok8⟩ := ok
  obtain ⟨ha, e1, h1⟩ := s_keepNow hx ok7
  have key : ∀ k e cur w th v1 v6 v7, e + k = m → cur < 65537 → okW w → w.2.1 = (mW x).2.1 → ∃ x', dn pg 171 26 [some (.ref o), v1, some (.int (nI m)), some (.int (nI z)), some (.int (nI cur)), some (.int (nI e)), v6, v7] [] (sM hp o (mS (mH x ha) w th)) = q_i (nI (yrA (yrG k w cur) z)) (sM hp o x') ∧ smM x x' := by
    intro k
    induction k with
    | zero =>
      intro e cur w th v1 v6 v7 he hc okw hmw
      have : e = m := by omega
      subst this
      have hx' : iM (sM hp o (mS (mH x ha) w th)) o (mS (mH x ha) w th) := iM_s hx
      have ok' : okW (mW (mS (mH x ha) w th)) := ok_uO okw _
      have e96 : ∀ v, dn pg 171 96 [some (.ref o), v1, some (.int (nI e)), some (.int (nI z)), some (.int (nI cur)), some (.int (nI e)), v6, v7] [.int (nI v), .ref o] (sM hp o (mS (mH x ha) w th)) = q_i (nI v) (sM hp o (mS (mS (mH x ha) w th) (mW x) th)) := by
        intro v
        rw [B171_96, vM_s hx, s_back hx' h1 ok' ok1 hmw.symm, er_i, sM_s]
        rfl
      refine ⟨mS (mS (mH x ha) w th) (mW x) th, ?_, rfl, rfl, rfl, rfl, rfl, h1.1⟩
      have hv : w.2.2.2.2.2.1 < 256 := okw.2.2.1
      show _ = q_i (nI (yrA w z)) _
      rw [B171_26, if_pos (nI_le (Nat.le_refl _) (by omega)), vM_s hx, vM_s hx, s_treatyMany hx' ok', er_i, s_manyOf hx' ok' (by omega), er_i, gM_4s hx]
      show (if _ then (if _ then _ else qr_i (cl pg 114 [.int (nI w.2.2.2.2.2.1)] _) _) else _) = _
      rw [s_ones hv, er_i]
      unfold yrA
      by_cases z0 : z = 0
      · rw [if_neg (not_not_intro (congrArg nI z0)), if_pos z0, e96]
        rfl
      · rw [if_pos (fun q => z0 ((nI_eq (by omega) (by omega)).mp q)), if_neg z0]
        by_cases z1 : z = 1
        · rw [if_neg (not_not_intro (congrArg nI z1)), if_pos z1, e96]
        · rw [if_pos (fun q => z1 ((nI_eq (by omega) (by omega)).mp q)), if_neg z1, e96]
          rfl
    | succ k ih =>
      intro e cur w th v1 v6 v7 he hc okw hmw
      have hx' : iM (sM hp o (mS (mH x ha) w th)) o (mS (mH x ha) w th) := iM_s hx
      have ok' : okW (mW (mS (mH x ha) w th)) := ok_uO okw _
      have hc' := yrX_lt cur
      have d0 : (((lN 75 * (nI cur).toInt64) + lN 74) - ((lN 75 * (nI cur).toInt64) + lN 74) / lN 65537 * lN 65537).toInt32 = nI (yrX cur) := by
        rw [nI_l (by omega), lN_mul, lN_add, pk_lRem (by omega) (by omega) (by omega), lN_i]
        rfl
      have k8 : yrX cur / 8 % 8 < 8 := Nat.mod_lt _ (by omega)
      obtain ⟨ab1, ab2, ab3⟩ := ab_ok _ k8
      have ab1' : ckN (abN (yrX cur / 8 % 8)) = yrK (yrX cur) := ab1
      have d1 : nI (yrX cur) / nI 8 = nI (yrX cur / 8) := pk_div (by omega) (by omega) (by omega)
      have d2 : nI (yrX cur / 8) % nI 8 = nI (yrX cur / 8 % 8) := rem_I (by omega) (by omega) (by omega)
      have d3 : nI (yrX cur) / nI 64 = nI (yrX cur / 64) := pk_div (by omega) (by omega) (by omega)
      have d4 : nI (yrX cur / 64) % nI 8 = nI (yrX cur / 64 % 8) := rem_I (by omega) (by omega) (by omega)
      have d5 : nI (yrX cur / 64) % nI 9 = nI (yrX cur / 64 % 9) := rem_I (by omega) (by omega) (by omega)
      have d6 : nI (yrX cur) % nI 8 = nI (yrX cur % 8) := rem_I (by omega) (by omega) (by omega)
      have hwh : yrX cur % 8 < 8 := Nat.mod_lt _ (by omega)
      have hoo := yrO_ok (yrX cur)
      have hb1 : yrO (yrX cur) < 8 ∨ abN (yrX cur / 8 % 8) = 6 := by
        rcases hoo with q | q
        · exact Or.inl q
        · exact Or.inr (ab3.mpr q.1)
      have hb2 : yrO (yrX cur) < 8 ∨ abN (yrX cur / 8 % 8) = 6 ∧ yrO (yrX cur) < 100 := by
        rcases hoo with q | q
        · exact Or.inl q
        · exact Or.inr ⟨ab3.mpr q.1, q.2⟩
      have e62 : ∀ v7, ∃ x', dn pg 171 62 [some (.ref o), v1, some (.int (nI m)), some (.int (nI z)), some (.int (nI (yrX cur))), some (.int (nI e)), some (.int (nI (abN (yrX cur / 8 % 8)))), v7] [.int (nI (yrO (yrX cur)))] (sM hp o (mS (mH x ha) w th)) = q_i (nI (yrA (yrG (k + 1) w cur) z)) (sM hp o x') ∧ smM x x' := by
        intro v7
        have hwy := s_mwhyNot hx' ok' ab2 hwh hb1
        rw [ab1'] at hwy
        have ew : wny (mW (mS (mH x ha) w th)) (yrK (yrX cur)) (yrX cur % 8) (yrO (yrX cur)) = wny w (yrK (yrX cur)) (yrX cur % 8) (yrO (yrX cur)) := rfl
        rw [ew] at hwy
        have hwl : wny w (yrK (yrX cur)) (yrX cur % 8) (yrO (yrX cur)) < 2 ^ 31 := by
          unfold wny wnk
          (repeat' split) <;> omega
        rw [B171_62, d6, vM_s hx, hwy, er_i]
        by_cases h0 : wny w (yrK (yrX cur)) (yrX cur % 8) (yrO (yrX cur)) = 0
        · obtain ⟨th', hha⟩ := s_happen hx' ok' ab2 hwh hb2 (by rw [ab1', ew]; exact h0)
          rw [ab1', sM_s] at hha
          have es : yrS w (yrX cur) = (act w (yrK (yrX cur)) (yrX cur % 8) (yrO (yrX cur))).2 := if_pos h0
          have ea : (act (mW (mS (mH x ha) w th)) (yrK (yrX cur)) (yrX cur % 8) (yrO (yrX cur))).2 = uO (yrS w (yrX cur)) (fun _ => 0) := by
            rw [es, mW_mS, act_uO]
          rw [ea] at hha
          have em : mS (mS (mH x ha) w th) (uO (yrS w (yrX cur)) (fun _ => 0)) th' = mS (mH x ha) (yrS w (yrX cur)) th' := rfl
          rw [em] at hha
          rw [h0, if_neg (not_not_intro rfl), vM_s hx, hha, er_v, B171_78 (nl_int _), nI_add]
          exact ih (e + 1) (yrX cur) (yrS w (yrX cur)) th' _ _ _ (by omega) hc' (yrS_ok okw _) (by rw [yrS_mesh, hmw])
        · have es : yrS w (yrX cur) = w := if_neg h0
          rw [if_pos (fun q => h0 ((nI_eq hwl (by omega)).mp q)), B171_78 (nl_int _), nI_add]
          have := ih (e + 1) (yrX cur) w th v1 (some (.int (nI (abN (yrX cur / 8 % 8))))) (some (.int (nI (yrO (yrX cur))))) (by omega) hc' okw hmw
          have eg : yrG (k + 1) w cur = yrG k w (yrX cur) := by
            show yrG k (yrS w (yrX cur)) (yrX cur) = _
            rw [es]
          rw [eg]
          exact this
      rw [B171_26, if_neg (nI_ge (by omega) (by omega)), d0, d1, d2, s_actBy k8, er_i, d3, d4, d5, nI_add]
      by_cases h6 : yrK (yrX cur) = 6
      · have eo : yrO (yrX cur) = 1 + yrX cur / 64 % 9 := if_pos h6
        rw [if_neg (not_not_intro (congrArg nI (ab3.mpr h6))), ← eo]
        exact e62 _
      · have eo : yrO (yrX cur) = yrX cur / 64 % 8 := if_neg h6
        rw [if_pos (fun q => h6 (ab3.mp ((nI_eq (by omega) (by omega)).mp q))), ← eo]
        exact e62 _
  rw [E171, B171_0, inT (rgT (Nat.zero_le _) hs (by decide)) (by decide) (by decide), er_i, if_neg n10, inT (rgT hm1 hm (by decide)) (by decide) (by decide), er_i, if_neg n10, inT (rgT (Nat.zero_le _) hz (by decide)) (by decide) (by decide), er_i, if_pos n10, vM hx, e1, er_v]
  exact key m 0 sd (mW x) (mth x) _ _ _ (Nat.zero_add _) (by omega) ok1 rfl
end MY
