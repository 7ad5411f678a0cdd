/-! The class's World: days, reasons, acts. -/
def mkL (n : Nat) (f : Nat → Nat) : List Nat := (List.range n).map f
theorem mkL_len (n : Nat) (f : Nat → Nat) : (mkL n f).length = n := by simp [mkL]
theorem mkL_get {n : Nat} {f : Nat → Nat} {j : Nat} (h : j < n) : (mkL n f).getD j 0 = f j := by
  rw [List.getD_eq_getElem?_getD]
  simp [mkL, h]
theorem mkL_set {n : Nat} {f : Nat → Nat} {i y : Nat} (h : i < n) : (mkL n f).set i y = mkL n (fun j => if j = i then y else f j) := by
  apply List.ext_getElem?
  intro j
  by_cases hj : j = i
  · subst hj
    rw [List.getElem?_set_self (by rw [mkL_len]; exact h)]
    simp [mkL, h]
  · rw [List.getElem?_set_ne (Ne.symm hj)]
    by_cases hn : j < n
    · simp [mkL, hn, hj]
    · simp [mkL, hn]
theorem mkL_ext {n : Nat} {f g : Nat → Nat} (h : ∀ j, j < n → f j = g j) : mkL n f = mkL n g := by
  unfold mkL
  apply List.map_congr_left
  intro j hj
  exact h j (List.mem_range.mp hj)
theorem mkL_id {n : Nat} {xs : List Nat} (h : xs.length = n) : mkL n (fun j => xs.getD j 0) = xs := by
  apply List.ext_getElem?
  intro j
  by_cases hn : j < n
  · simp [mkL, hn, List.getElem?_eq_getElem (show j < xs.length by omega)]
  · rw [List.getElem?_eq_none (by rw [mkL_len]; omega), List.getElem?_eq_none (by omega)]
theorem or_0 : ∀ v, v < 256 → nI v ||| nI 0 = nI v := by decide +kernel
theorem or_I {v i : Nat} (hv : v < 256) (hi : i < 8) : nI v ||| nI (2 ^ i) = nI (v ||| 2 ^ i) := by
  rw [← sh_I i hi, (sb_I v hv i hi).1]
  rfl
theorem or_lt {v i : Nat} (hv : v < 256) (hi : i < 8) : v ||| 2 ^ i < 256 := (sb_lt v hv i hi).1
theorem lf_I {i : Nat} (hi : i < 8) : ((nI i + nI 8) - nI 1) % nI 8 = nI ((i + 7) % 8) := by
  rw [nI_add, pk_sub (by omega), rem_I (by omega) (by omega) (by omega)]
  rfl
theorem rt_I {i : Nat} (hi : i < 8) : (nI i + nI 1) % nI 8 = nI ((i + 1) % 8) := by
  rw [nI_add, rem_I (by omega) (by omega) (by omega)]
/-- whose she is behind a day -/
def pd (w : aW) (i : Nat) : Nat := if (hs w.2.2.2.2.2.1 i && (!hs w.2.2.2.2.2.1 ((i + 7) % 8) && (!hs w.2.2.2.2.2.1 ((i + 1) % 8) && decide (w.1.getD ((i + 7) % 8) 0 = w.1.getD ((i + 1) % 8) 0)))) = true then w.1.getD ((i + 7) % 8) 0 else w.1.getD i 0
def tkd (w : aW) : Nat → Nat
  | 0 => 0
  | k + 1 => tkd w k ||| (if pd w k = w.1.getD k 0 then 0 else 2 ^ k)
theorem tkd_lt (w : aW) : ∀ k, k ≤ 8 → tkd w k < 256
  | 0, _ => by show 0 < 256; omega
  | k + 1, hk => by
    have := tkd_lt w k (by omega)
    unfold tkd
    split
    · rw [Nat.or_zero]; exact this
    · exact or_lt this (by omega)
def dyN (w : aW) (k : Nat) : List Nat := mkL 8 (fun j => if j < k then pd w j else w.1.getD j 0)
theorem pd_lt {w : aW} (ok : okW w) {i : Nat} (hi : i < 8) : pd w i < 4 := by
  unfold pd
  split
  · exact (ok.2.1 _ (Nat.mod_lt _ (by omega))).1
  · exact (ok.2.1 i hi).1
theorem dyN_get {w : aW} {k j : Nat} (hj : j < 8) : (dyN w k).getD j 0 = if j < k then pd w j else w.1.getD j 0 := mkL_get hj
theorem dyN_up {w : aW} {k j : Nat} (hj : j < 8) (h : hs w.2.2.2.2.2.1 j = false) : (dyN w k).getD j 0 = w.1.getD j 0 := by
  rw [dyN_get hj]
  split
  · unfold pd
    rw [h]
    rfl
  · rfl
theorem ok_dyN {w : aW} (ok : okW w) (k : Nat) : okW (uN w (dyN w k)) := by
  refine ⟨⟨mkL_len _ _, ok.1.2⟩, fun j hj => ⟨?_, (ok.2.1 j hj).2⟩, ok.2.2⟩
  show (dyN w k).getD j 0 < 4
  rw [dyN_get hj]
  split
  · exact pd_lt ok hj
  · exact (ok.2.1 j hj).1
theorem dyN_0 {w : aW} (ok : okW w) : dyN w 0 = w.1 := by
  unfold dyN
  simp only [Nat.not_lt_zero, ↓reduceIte]
  exact mkL_id ok.1.1
theorem dyN_set {w : aW} {k : Nat} (hk : k < 8) : (dyN w k).set k (pd w k) = dyN w (k + 1) := by
  unfold dyN
  rw [mkL_set hk]
  apply mkL_ext
  intro j _
  by_cases h1 : j = k
  · subst h1
    simp
  · rw [if_neg h1]
    by_cases h2 : j < k
    · rw [if_pos h2, if_pos (by omega)]
    · rw [if_neg h2, if_neg (by omega)]
theorem dyN_skip {w : aW} {k : Nat} (h : pd w k = w.1.getD k 0) : dyN w k = dyN w (k + 1) := by
  unfold dyN
  apply mkL_ext
  intro j _
  by_cases h1 : j = k
  · subst h1
    simp [h]
  · by_cases h2 : j < k
    · rw [if_pos h2, if_pos (by omega)]
    · rw [if_neg h2, if_neg (by omega)]
theorem tkd_skip {w : aW} {k : Nat} (h : pd w k = w.1.getD k 0) : tkd w k = tkd w (k + 1) := by
  conv => rhs; unfold tkd
  rw [if_pos h, Nat.or_zero]
section DY
variable {hp : pH} {o i : Nat} {w : aW}
theorem s_passDay (hx : iW hp o w) (ok : okW w) : cl pg 54 [.ref o] hp = q_i (nI (tkd w 8)) (sW hp o (uD (uN w (dyN w 8)) (w.2.2.2.2.2.2.2 + 1))) := by
  rw [E54, B54_0 (nl_ref _)]
  have key : ∀ k i, i + k = 8 → ∀ v3 v4 : pO, dn pg 54 4 [some (.ref o), some (.int (nI (tkd w i))), some (.int (nI i)), v3, v4] [] (sW hp o (uN w (dyN w i))) = q_i (nI (tkd w 8)) (sW hp o (uD (uN w (dyN w 8)) (w.2.2.2.2.2.2.2 + 1))) := by
    intro k
    induction k with
    | zero =>
      intro i hi v3 v4
      have : i = 8 := by omega
      subst this
      obtain ⟨n, m, t, f, fo, v, h, d⟩ := w
      rw [B54_4, if_pos (by decide), gW_7s hx, nI_add]
      show qp_v (sW hp o (dyN (n, m, t, f, fo, v, h, d) 8, m, t, f, fo, v, h, d)) o 7 7 (.int (nI (d + 1))) _ = _
      rw [pW_7s hx]
      rfl
    | succ k ih =>
      intro i hi v3 v4
      have h8 : i < 8 := by omega
      have hl : (i + 7) % 8 < 8 := Nat.mod_lt _ (by omega)
      have hr : (i + 1) % 8 < 8 := Nat.mod_lt _ (by omega)
      have hx' : iW (sW hp o (uN w (dyN w i))) o (uN w (dyN w i)) := iW_s hx
      have hv : (uN w (dyN w i)).2.2.2.2.2.1 < 256 := ok.2.2.1
      have skip : pd w i = w.1.getD i 0 → ∀ v3 v4 : pO, dn pg 54 52 [some (.ref o), some (.int (nI (tkd w i))), some (.int (nI i)), v3, v4] [] (sW hp o (uN w (dyN w i))) = q_i (nI (tkd w 8)) (sW hp o (uD (uN w (dyN w 8)) (w.2.2.2.2.2.2.2 + 1))) := by
        intro hs v3 v4
        rw [B54_52 (nl_int _), nI_add, tkd_skip hs, dyN_skip hs]
        exact ih (i + 1) (by omega) v3 v4
      rw [B54_4, if_neg (nI_ge h8 (by omega)), lf_I h8, rt_I h8, vW_s hx, s_isDown hx' hv h8, er_i]
      simp only [bI_0]
      show (if hs w.2.2.2.2.2.1 i = false then _ else _) = _
      by_cases c1 : hs w.2.2.2.2.2.1 i = false
      · rw [if_pos c1]
        exact skip (by unfold pd; rw [c1]; rfl) _ _
      rw [if_neg c1, vW_s hx, s_isDown hx' hv hl, er_i]
      simp only [bI_0]
      show (if ¬ hs w.2.2.2.2.2.1 ((i + 7) % 8) = false then _ else _) = _
      by_cases c2' : ¬ hs w.2.2.2.2.2.1 ((i + 7) % 8) = false
      · rw [if_pos c2']
        exact skip (by unfold pd; simp [c2']) _ _
      have c2 := Decidable.not_not.mp c2'
      rw [if_neg c2', vW_s hx, s_isDown hx' hv hr, er_i]
      simp only [bI_0]
      show (if ¬ hs w.2.2.2.2.2.1 ((i + 1) % 8) = false then _ else _) = _
      by_cases c3' : ¬ hs w.2.2.2.2.2.1 ((i + 1) % 8) = false
      · rw [if_pos c3']
        exact skip (by unfold pd; simp [c3']) _ _
      have c3 := Decidable.not_not.mp c3'
      rw [if_neg c3', gW_0s hx, rW_ns hx _ hl, gW_0s hx, rW_ns hx _ hr]
      show (if ¬ nI ((dyN w i).getD ((i + 7) % 8) 0) = nI ((dyN w i).getD ((i + 1) % 8) 0) then _ else _) = _
      rw [dyN_up hl c2, dyN_up hr c3]
      have b1 := (ok.2.1 _ hl).1
      have b2 := (ok.2.1 _ hr).1
      have b3 := (ok.2.1 _ h8).1
      by_cases c4' : ¬ w.1.getD ((i + 7) % 8) 0 = w.1.getD ((i + 1) % 8) 0
      · rw [if_pos (fun z => c4' ((nI_eq (by omega) (by omega)).mp z))]
        exact skip (by unfold pd; rw [decide_eq_false c4']; simp) _ _
      have c4 := Decidable.not_not.mp c4'
      rw [if_neg (fun z => z (by rw [c4])), gW_0s hx, rW_ns hx _ hl]
      show qv _ o 7 (qr_i (cl pg 50 [.ref o, .int (nI i), .int (nI ((dyN w i).getD ((i + 7) % 8) 0))] _) _) = _
      rw [dyN_up hl c2, vW_s hx, s_annex hx' (ok_dyN ok i) h8 b1, er_i, B54_52 (nl_int _), nI_add, sW_s]
      have hpd : pd w i = w.1.getD ((i + 7) % 8) 0 := by
        have c1t : hs w.2.2.2.2.2.1 i = true := by simpa using c1
        unfold pd
        rw [if_pos (by rw [c1t, c2, c3, decide_eq_true c4]; rfl)]
      have e1 : (uN w (dyN w i)).1.set i (w.1.getD ((i + 7) % 8) 0) = dyN w (i + 1) := by
        rw [← hpd]
        exact dyN_set h8
      have e2 : nI (tkd w i) ||| nI (tkb (uN w (dyN w i)) i (w.1.getD ((i + 7) % 8) 0)) = nI (tkd w (i + 1)) := by
        have hg : (uN w (dyN w i)).1.getD i 0 = w.1.getD i 0 := by
          show (dyN w i).getD i 0 = _
          rw [dyN_get h8, if_neg (by omega)]
        have hcur := tkd_lt w i (by omega)
        unfold tkb
        rw [hg]
        conv => rhs; unfold tkd
        rw [hpd]
        by_cases c5 : w.1.getD i 0 = w.1.getD ((i + 7) % 8) 0
        · rw [if_pos c5, if_pos c5.symm, Nat.or_zero]
          exact or_0 _ hcur
        · rw [if_neg c5, if_neg (Ne.symm c5)]
          exact or_I hcur h8
      rw [e2]
      have e3 : uN (uN w (dyN w i)) ((uN w (dyN w i)).1.set i (w.1.getD ((i + 7) % 8) 0)) = uN w (dyN w (i + 1)) := by
        show uN w _ = _
        rw [e1]
      rw [e3]
      exact ih (i + 1) (by omega) _ _
  have := key 8 0 rfl
  rw [dyN_0 ok] at this
  have e : uN w w.1 = w := rfl
  rw [e, sW_i hx] at this
  exact this _ _
theorem s_dress (hx : iW hp o w) (ok : okW w) (hi : i < 8) (k b c : Nat) (dn' : Bool) : cl pg 13 [.ref o, .int (nI i), .int (nI k), .int (bI dn'), .int (nI b), .int (nI c)] hp = q_v (sW hp o (uV (uT (uM (uN w (w.1.set i k)) (w.2.1.set i b)) (w.2.2.1.set i c)) (sb w.2.2.2.2.2.1 i dn'))) := by
  obtain ⟨n, m, t, f, fo, v, h, d⟩ := w
  rw [E13, B13_0]
  simp only [s_isO hi, er_i, one_ne, not_false_eq_true, ↓reduceIte, gW_0 hx, bI_1, B13_27]
  rw [wW_n hx hi ok.1.1, gW_1s hx, wW_ms hx hi ok.1.2.1, gW_2s hx, wW_ts hx hi ok.1.2.2.1]
  have hx' : ∀ y, iW (sW hp o y) o y := fun y => iW_s hx
  cases dn'
  · rw [if_pos (by decide), vW_s hx, show nI 0 = bI false from rfl, s_setVeil (hx' _) (by exact ok.2.2.1) hi, er_v, sW_s]
    rfl
  · rw [if_neg (by decide), vW_s hx, show nI 1 = bI true from rfl, s_setVeil (hx' _) (by exact ok.2.2.1) hi, er_v, sW_s]
    rfl
/-- why two can not kiss -/
def wnk (w : aW) (a b : Nat) : Nat := if a = b then 2 else if w.1.getD a 0 ≠ w.1.getD b 0 ∧ (hs w.2.2.2.2.2.1 a = true ∨ hs w.2.2.2.2.2.1 b = true) then 3 else if hs (w.2.2.2.1.getD a 0) b = true then 4 else 0
theorem s_whyNotKiss (hx : iW hp o w) (ok : okW w) {a b : Nat} (ha : a < 8) (hb : b < 8) : cl pg 46 [.ref o, .int (nI a), .int (nI b)] hp = q_i (nI (wnk w a b)) hp := by
  have h1 := (ok.2.1 a ha)
  have h2 := (ok.2.1 b hb)
  have e22 : ∀ x y z : pO, dn pg 46 22 [some (.ref o), some (.int (nI a)), some (.int (nI b))] [] hp = q_i (nI (if hs (w.2.2.2.1.getD a 0) b = true then 4 else 0)) hp := by
    intro x y z
    rw [B46_22, vW hx, s_friendsOf hx ha, er_i, s_has h1.2.2.2 hb, er_i]
    simp only [bI_0, B46_31]
    cases hs (w.2.2.2.1.getD a 0) b <;> rfl
  rw [E46, B46_0]
  unfold wnk
  by_cases hab : a = b
  · rw [if_neg (fun z => z (by rw [hab])), if_pos hab]
  rw [if_pos (fun z => hab ((nI_eq (by omega) (by omega)).mp z)), if_neg hab, vW hx, s_nationOf hx ha, er_i, vW hx, s_nationOf hx hb, er_i]
  by_cases hn : w.1.getD a 0 = w.1.getD b 0
  · rw [if_pos (by rw [hn]), if_neg (fun z => z.1 hn), e22 none none none]
  rw [if_neg (fun z => hn ((nI_eq (by omega) (by omega)).mp z)), vW hx, s_isDown hx ok.2.2.1 ha, er_i]
  simp only [bI_0]
  by_cases c1 : hs w.2.2.2.2.2.1 a = false
  · rw [if_neg (fun z => z c1), vW hx, s_isDown hx ok.2.2.1 hb, er_i]
    simp only [bI_0]
    by_cases c2 : hs w.2.2.2.2.2.1 b = false
    · rw [if_pos c2, if_neg (fun z => by rcases z.2 with z | z <;> simp [c1, c2] at z), e22 none none none]
    · rw [if_neg c2, B46_20, if_pos ⟨hn, Or.inr (by simpa using c2)⟩]
  · rw [if_pos c1, B46_20, if_pos ⟨hn, Or.inl (by simpa using c1)⟩]
/-- why an act can not be (kinds as the class has them: 1 down, 2 up, 3 annexes, 4 kisses, 5 tears, 6 gust, 7 day, 8 mends) -/
def wny (w : aW) (k a b : Nat) : Nat :=
  if k = 1 then (if hs w.2.2.2.2.2.1 a = true then 1 else 0)
  else if k = 2 then (if hs w.2.2.2.2.2.1 a = true then 0 else 1)
  else if k = 3 then (if hs w.2.2.2.2.2.1 b = true then (if a = b then 2 else 0) else 1)
  else if k = 4 then wnk w a b
  else if k = 5 then (if w.2.2.1.getD a 0 < 9 then 0 else 5)
  else if k = 7 then (if w.2.2.2.2.2.2.2 < 99 then 0 else 6)
  else if k = 8 then (if 0 < w.2.2.1.getD a 0 ∧ 0 < w.2.2.2.2.2.2.1 then 0 else 5)
  else 0
theorem s_whyNot (hx : iW hp o w) (ok : okW w) {k a b : Nat} (hk : k < 9) (ha : a < 8) (hb : b < 8 ∨ k = 6) : cl pg 43 [.ref o, .int (nI k), .int (nI a), .int (nI b)] hp = q_i (nI (wny w k a b)) hp := by
  have h1 := ok.2.1 a ha
  rw [E43, B43_0]
  have hkk : ∀ c, c < 9 → (nI k = nI c) = (k = c) := fun c hc => propext (nI_eq (by omega) (by omega))
  simp only [hkk 1 (by omega), hkk 2 (by omega), hkk 3 (by omega), hkk 4 (by omega), hkk 5 (by omega), hkk 7 (by omega), hkk 8 (by omega)]
  unfold wny
  by_cases k1 : k = 1
  · rw [if_pos k1, if_pos k1, vW hx, s_isDown hx ok.2.2.1 ha, er_i]
    simp only [bI_0]
    rw [B43_9, B43_9]
    cases hs w.2.2.2.2.2.1 a <;> rfl
  rw [if_neg k1, if_neg k1]
  by_cases k2 : k = 2
  · rw [if_pos k2, if_pos k2, vW hx, s_isDown hx ok.2.2.1 ha, er_i]
    simp only [bI_0]
    rw [B43_17, B43_17]
    cases hs w.2.2.2.2.2.1 a <;> rfl
  rw [if_neg k2, if_neg k2]
  by_cases k3 : k = 3
  · have hb : b < 8 := by omega
    rw [if_pos k3, if_pos k3, vW hx, s_isDown hx ok.2.2.1 hb, er_i]
    simp only [bI_0]
    rw [B43_30, B43_30]
    by_cases hab : a = b
    · subst hab
      cases hs w.2.2.2.2.2.1 a <;> simp
    · have : ¬ nI a = nI b := fun z => hab ((nI_eq (by omega) (by omega)).mp z)
      cases hs w.2.2.2.2.2.1 b <;> simp [this, hab]
  rw [if_neg k3, if_neg k3]
  by_cases k4 : k = 4
  · have hb : b < 8 := by omega
    rw [if_pos k4, if_pos k4, vW hx, s_whyNotKiss hx ok ha hb, er_i]
  rw [if_neg k4, if_neg k4]
  by_cases k5 : k = 5
  · rw [if_pos k5, if_pos k5, vW hx, s_tearsOf hx ha, er_i, B43_44, B43_44]
    by_cases ht : w.2.2.1.getD a 0 < 9
    · rw [if_pos ((nI_ltI (by omega) (by omega)).mpr ht), if_pos ht]
    · rw [if_neg (fun z => ht ((nI_ltI (by omega) (by omega)).mp z)), if_neg ht]
  rw [if_neg k5, if_neg k5]
  by_cases k7 : k = 7
  · have hd := ok.2.2.2.2
    rw [if_pos k7, if_pos k7, gW_7 hx, B43_63, B43_63]
    by_cases ht : w.2.2.2.2.2.2.2 < 99
    · rw [if_pos ((nI_ltI (by omega) (by omega)).mpr ht), if_pos ht]
    · rw [if_neg (fun z => ht ((nI_ltI (by omega) (by omega)).mp z)), if_neg ht]
  rw [if_neg k7, if_neg k7]
  by_cases k8 : k = 8
  · have hh := ok.2.2.2.1
    rw [if_pos k8, if_pos k8, vW hx, s_tearsOf hx ha, er_i]
    simp only [B43_52, B43_55, gW_6 hx]
    by_cases ht : 0 < w.2.2.1.getD a 0
    · rw [if_neg (nI_ge ht (by omega))]
      by_cases hq : 0 < w.2.2.2.2.2.2.1
      · rw [if_pos ((nI_ltI (by omega) (by omega)).mpr hq), if_pos ⟨ht, hq⟩]
      · rw [if_neg (fun z => hq ((nI_ltI (by omega) (by omega)).mp z)), if_neg (fun z => hq z.2)]
    · rw [if_pos (nI_le (by omega) (by omega)), if_neg (fun z => ht z.1)]
  rw [if_neg k8, if_neg k8]
theorem s_mendEnd (hx : iW hp o w) {y : Nat} (hy : w.2.2.2.2.2.2.1 = y + 1) (F : pH → Option pR) : (qg_i hp o 7 6 (fun z => qp_v hp o 7 6 (.int (z - nI 1)) F)) = F (sW hp o (uH w y)) := by
  obtain ⟨n, m, t, f, fo, v, h, d⟩ := w
  have hy : h = y + 1 := hy
  subst hy
  rw [gW_6 hx, pk_sub (by omega), Nat.add_sub_cancel, pW_6 hx]
  rfl
/-- what an act does: whom it annexed, and the world then -/
def act (w : aW) (k a b : Nat) : Nat × aW :=
  if k = 1 then (0, uV w (sb w.2.2.2.2.2.1 a true))
  else if k = 2 then (0, uV w (sb w.2.2.2.2.2.1 a false))
  else if k = 3 then (tkb w b (w.1.getD a 0), uN (uV w (sb w.2.2.2.2.2.1 b false)) (w.1.set b (w.1.getD a 0)))
  else if k = 4 then (0, uF w (trF w a b true))
  else if k = 5 then (0, uT w (w.2.2.1.set a (w.2.2.1.getD a 0 + 1)))
  else if k = 6 then (0, uV w (gsv w b 8))
  else if k = 7 then (tkd w 8, uD (uN w (dyN w 8)) (w.2.2.2.2.2.2.2 + 1))
  else if k = 8 then (0, uH (uT w (w.2.2.1.set a (w.2.2.1.getD a 0 - 1))) (w.2.2.2.2.2.2.1 - 1))
  else (0, w)
theorem s_act (hx : iW hp o w) (ok : okW w) {k a b : Nat} (hk : k < 9) (ha : a < 8) (hb : b < 8 ∨ k = 6 ∧ b < 100) (hw : wny w k a b = 0) : cl pg 49 [.ref o, .int (nI k), .int (nI a), .int (nI b)] hp = q_i (nI (act w k a b).1) (sW hp o (act w k a b).2) := by
  have h1 := ok.2.1 a ha
  rw [E49, B49_0]
  have hkk : ∀ c, c < 9 → (nI k = nI c) = (k = c) := fun c hc => propext (nI_eq (by omega) (by omega))
  simp only [hkk 1 (by omega), hkk 2 (by omega), hkk 3 (by omega), hkk 4 (by omega), hkk 5 (by omega), hkk 6 (by omega), hkk 7 (by omega), hkk 8 (by omega)]
  unfold act
  by_cases k1 : k = 1
  · rw [if_pos k1, if_pos k1, vW hx, show nI 1 = bI true from rfl, s_setVeil hx ok.2.2.1 ha, er_v]
  rw [if_neg k1, if_neg k1]
  by_cases k2 : k = 2
  · rw [if_pos k2, if_pos k2, vW hx, show nI 0 = bI false from rfl, s_setVeil hx ok.2.2.1 ha, er_v]
  rw [if_neg k2, if_neg k2]
  by_cases k3 : k = 3
  · have hb : b < 8 := by omega
    have hx' : ∀ y, iW (sW hp o y) o y := fun y => iW_s hx
    have ok' : okW (uV w (sb w.2.2.2.2.2.1 b false)) := ok_uV ok (sb_lt' ok.2.2.1 hb false)
    rw [if_pos k3, if_pos k3, vW hx, show nI 0 = bI false from rfl, s_setVeil hx ok.2.2.1 hb, er_v, vW_s hx, s_nationOf (hx' _) ha, er_i, vW_s hx, s_annex (hx' _) ok' hb (by exact h1.1), er_i, sW_s]
    rfl
  rw [if_neg k3, if_neg k3]
  by_cases k4 : k = 4
  · have hb : b < 8 := by omega
    rw [if_pos k4, if_pos k4, vW hx, show nI 1 = bI true from rfl, s_bind hx ok ha hb, er_v]
  rw [if_neg k4, if_neg k4]
  by_cases k5 : k = 5
  · rw [if_pos k5, if_pos k5, vW hx, s_tearMore hx ok ha, er_v]
  rw [if_neg k5, if_neg k5]
  by_cases k6 : k = 6
  · rw [if_pos k6, if_pos k6, vW hx, s_blow hx ok (by omega), er_v]
  rw [if_neg k6, if_neg k6]
  by_cases k7 : k = 7
  · rw [if_pos k7, if_pos k7, vW hx, s_passDay hx ok, er_i]
  rw [if_neg k7, if_neg k7]
  have k8 : k = 8 ∨ k = 0 := by omega
  rcases k8 with k8 | k8
  · have hq : 0 < w.2.2.1.getD a 0 ∧ 0 < w.2.2.2.2.2.2.1 := by
      unfold wny at hw
      rw [if_neg k1, if_neg k2, if_neg k3, if_neg k4, if_neg k5, if_neg k7, if_pos k8] at hw
      by_cases z : 0 < w.2.2.1.getD a 0 ∧ 0 < w.2.2.2.2.2.2.1
      · exact z
      · rw [if_neg z] at hw
        omega
    rw [if_pos k8, if_pos k8, vW hx, s_tearLess hx ok ha hq.1, er_v, s_mendEnd (iW_s hx) (y := w.2.2.2.2.2.2.1 - 1) (by show w.2.2.2.2.2.2.1 = _; omega), sW_s]
  · rw [if_neg (by omega), if_neg (by omega)]
    show q_i (nI 0) hp = q_i (nI 0) (sW hp o w)
    rw [sW_i hx]
end DY
theorem trF_lt {w : aW} (ok : okW w) {a b : Nat} (ha : a < 8) (hb : b < 8) (is : Bool) : okW (uF w (trF w a b is)) := by
  have h1 := (ok.2.1 a ha).2.2.2
  have o1 : okW (uF w (w.2.2.2.1.set a (sb (w.2.2.2.1.getD a 0) b is))) := ok_uF ok ha (sb_lt' h1 hb is)
  exact ok_uF o1 hb (sb_lt' (o1.2.1 b hb).2.2.2 ha is)
/-- an act that can be keeps the bounds -/
theorem ok_act {w : aW} (ok : okW w) {k a b : Nat} (hk : k < 9) (ha : a < 8) (hb : b < 8 ∨ k = 6 ∧ b < 100) (hw : wny w k a b = 0) : okW (act w k a b).2 := by
  have h1 := ok.2.1 a ha
  unfold act
  by_cases k1 : k = 1
  · rw [if_pos k1]; exact ok_uV ok (sb_lt' ok.2.2.1 ha true)
  rw [if_neg k1]
  by_cases k2 : k = 2
  · rw [if_pos k2]; exact ok_uV ok (sb_lt' ok.2.2.1 ha false)
  rw [if_neg k2]
  by_cases k3 : k = 3
  · rw [if_pos k3]; exact ok_uN (w := uV w (sb w.2.2.2.2.2.1 b false)) (ok_uV ok (sb_lt' ok.2.2.1 (by omega) false)) (by omega) h1.1
  rw [if_neg k3]
  by_cases k4 : k = 4
  · rw [if_pos k4]; exact trF_lt ok ha (by omega) true
  rw [if_neg k4]
  by_cases k5 : k = 5
  · rw [if_pos k5]
    refine ok_uT ok ha ?_
    unfold wny at hw
    rw [if_neg k1, if_neg k2, if_neg k3, if_neg k4, if_pos k5] at hw
    by_cases z : w.2.2.1.getD a 0 < 9
    · omega
    · rw [if_neg z] at hw
      omega
  rw [if_neg k5]
  by_cases k6 : k = 6
  · rw [if_pos k6]; exact ok_uV ok (gsv_lt ok.2.2.1 _ 8 (by omega))
  rw [if_neg k6]
  by_cases k7 : k = 7
  · rw [if_pos k7]
    refine ok_uD (ok_dyN ok 8) ?_
    unfold wny at hw
    rw [if_neg k1, if_neg k2, if_neg k3, if_neg k4, if_neg k5, if_pos k7] at hw
    by_cases z : w.2.2.2.2.2.2.2 < 99
    · omega
    · rw [if_neg z] at hw
      omega
  rw [if_neg k7]
  by_cases k8 : k = 8
  · rw [if_pos k8]
    have := h1.2.2.1
    have hh := ok.2.2.2.1
    exact ok_uH (ok_uT ok ha (by omega)) (by omega)
  · rw [if_neg k8]; exact ok
