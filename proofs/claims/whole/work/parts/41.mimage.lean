/-! The reference's images. -/
abbrev aY : Type := ((List Nat) × (List Nat) × (List Nat) × (List Nat) × Nat × Nat × Nat) × ((List Nat) × (List Nat)) × ((List Nat) × (List Nat) × Nat)
/-- what an image holds, in its order -/
def yvL (y : aY) : List Nat := [y.1.2.2.2.2.1, y.1.2.2.2.2.2.1, y.1.2.2.2.2.2.2, y.2.2.2.2] ++ (y.1.1 ++ (y.1.2.1 ++ (y.1.2.2.1 ++ (y.1.2.2.2.1 ++ (y.2.1.1 ++ (y.2.1.2 ++ (y.2.2.1 ++ y.2.2.2.1)))))))
def lnY (y : aY) : Prop := y.1.1.length = 8 ∧ y.1.2.1.length = 8 ∧ y.1.2.2.1.length = 8 ∧ y.1.2.2.2.1.length = 8 ∧ y.2.1.1.length = 6 ∧ y.2.1.2.length = 6 ∧ y.2.2.1.length = 8 ∧ y.2.2.2.1.length = 8
theorem gdR {xs ys : List Nat} {n : Nat} (h : xs.length = n) (j : Nat) : (xs ++ ys).getD (n + j) 0 = ys.getD j 0 := by
  rw [List.getD_eq_getElem?_getD, List.getD_eq_getElem?_getD, List.getElem?_append_right (by omega)]
  congr 2
  omega
theorem gdL {xs ys : List Nat} {j : Nat} (h : j < xs.length) : (xs ++ ys).getD j 0 = xs.getD j 0 := by
  rw [List.getD_eq_getElem?_getD, List.getD_eq_getElem?_getD, List.getElem?_append_left h]
theorem yv_at {y : aY} (h : lnY y) : (yvL y).getD 0 0 = y.1.2.2.2.2.1 ∧ (yvL y).getD 1 0 = y.1.2.2.2.2.2.1 ∧ (yvL y).getD 2 0 = y.1.2.2.2.2.2.2 ∧ (yvL y).getD 3 0 = y.2.2.2.2 ∧ (∀ j, j < 8 → (yvL y).getD (4 + j) 0 = y.1.1.getD j 0) ∧ (∀ j, j < 8 → (yvL y).getD (12 + j) 0 = y.1.2.1.getD j 0) ∧ (∀ j, j < 8 → (yvL y).getD (20 + j) 0 = y.1.2.2.1.getD j 0) ∧ (∀ j, j < 8 → (yvL y).getD (28 + j) 0 = y.1.2.2.2.1.getD j 0) ∧ (∀ j, j < 6 → (yvL y).getD (36 + j) 0 = y.2.1.1.getD j 0) ∧ (∀ j, j < 6 → (yvL y).getD (42 + j) 0 = y.2.1.2.getD j 0) ∧ (∀ j, j < 8 → (yvL y).getD (48 + j) 0 = y.2.2.1.getD j 0) ∧ (∀ j, j < 8 → (yvL y).getD (56 + j) 0 = y.2.2.2.1.getD j 0) := by
  obtain ⟨h1, h2, h3, h4, h5, h6, h7, h8⟩ := h
  have t0 : ([y.1.2.2.2.2.1, y.1.2.2.2.2.2.1, y.1.2.2.2.2.2.2, y.2.2.2.2] : List Nat).length = 4 := rfl
  unfold yvL
  refine ⟨rfl, rfl, rfl, rfl, ?_, ?_, ?_, ?_, ?_, ?_, ?_, ?_⟩
  · intro j hj
    rw [gdR t0, gdL (by omega)]
  · intro j hj
    rw [show 12 + j = 4 + (8 + j) by omega, gdR t0, gdR h1, gdL (by omega)]
  · intro j hj
    rw [show 20 + j = 4 + (8 + (8 + j)) by omega, gdR t0, gdR h1, gdR h2, gdL (by omega)]
  · intro j hj
    rw [show 28 + j = 4 + (8 + (8 + (8 + j))) by omega, gdR t0, gdR h1, gdR h2, gdR h3, gdL (by omega)]
  · intro j hj
    rw [show 36 + j = 4 + (8 + (8 + (8 + (8 + j)))) by omega, gdR t0, gdR h1, gdR h2, gdR h3, gdR h4, gdL (by omega)]
  · intro j hj
    rw [show 42 + j = 4 + (8 + (8 + (8 + (8 + (6 + j))))) by omega, gdR t0, gdR h1, gdR h2, gdR h3, gdR h4, gdR h5, gdL (by omega)]
  · intro j hj
    rw [show 48 + j = 4 + (8 + (8 + (8 + (8 + (6 + (6 + j)))))) by omega, gdR t0, gdR h1, gdR h2, gdR h3, gdR h4, gdR h5, gdR h6, gdL (by omega)]
  · intro j hj
    rw [show 56 + j = 4 + (8 + (8 + (8 + (8 + (6 + (6 + (8 + j))))))) by omega, gdR t0, gdR h1, gdR h2, gdR h3, gdR h4, gdR h5, gdR h6, gdR h7]
/-- the row behind t of a list's values, from ka on -/
def KK (kp : List Nat) (ka : Nat) (L : List Nat) (t : Nat) : List Nat := mkL 160 (fun j => if ka ≤ j ∧ j < ka + t then L.getD (j - ka) 0 else kp.getD j 0)
theorem KK_0 {kp : List Nat} (h : kp.length = 160) (ka : Nat) (L : List Nat) : KK kp ka L 0 = kp := by
  unfold KK
  have e : ∀ j, ¬ (ka ≤ j ∧ j < ka + 0) := fun j q => by omega
  simp only [e, ↓reduceIte]
  exact mkL_id h
theorem KK_set {kp L : List Nat} {ka t z : Nat} (h : ka + t < 160) (hz : z = L.getD t 0) : (KK kp ka L t).set (ka + t) z = KK kp ka L (t + 1) := by
  unfold KK
  rw [mkL_set h]
  apply mkL_ext
  intro j _
  by_cases hj : j = ka + t
  · subst hj
    rw [if_pos rfl, if_pos ⟨by omega, by omega⟩, hz]
    congr 1
    omega
  · rw [if_neg hj]
    by_cases h2 : ka ≤ j ∧ j < ka + t
    · rw [if_pos h2, if_pos ⟨h2.1, by omega⟩]
    · rw [if_neg h2, if_neg (fun q => h2 ⟨q.1, by omega⟩)]
theorem KK_len (kp : List Nat) (ka : Nat) (L : List Nat) (t : Nat) : (KK kp ka L t).length = 160 := mkL_len _ _
theorem KK_next {kp L : List Nat} {ka t : Nat} (h : ka + t < 160) : (KK kp ka L t).getD (ka + t) 0 = kp.getD (ka + t) 0 := by
  unfold KK
  rw [mkL_get h, if_neg (fun q => by omega)]
theorem KK_in {kp L : List Nat} {ka t j : Nat} (h : ka + t ≤ 160) (hj : j < t) : (KK kp ka L t).getD (ka + j) 0 = L.getD j 0 := by
  unfold KK
  rw [mkL_get (by omega), if_pos ⟨by omega, by omega⟩]
  congr 1
  omega
theorem KK_out {kp L : List Nat} {ka t j : Nat} (h : j < 160) (hj : j < ka ∨ ka + t ≤ j) : (KK kp ka L t).getD j 0 = kp.getD j 0 := by
  unfold KK
  rw [mkL_get h, if_neg (fun q => by omega)]
section MI
variable {hp : pH} {o : Nat}
abbrev g0T : Type := (List Nat) × (List Nat) × (List Nat) × (List Nat) × Nat × Nat × Nat
abbrev g4T : Type := (Nat → Int32) × (Nat → Int32) × (Nat → Int32) × Nat
abbrev g6T : Type := (Nat → Int32) × (List Nat) × (Nat → Int32) × (Nat → Int32) × (Nat → Bool) × (Nat → Int64) × (Nat → Int64) × Int32 × Int32 × Nat × Int32 × Int32
variable {g0 : g0T} {g1 : (List Nat) × (List Nat)} {g2 : (List Nat) × (List Nat) × Nat} {g3 : (List Nat) × Nat} {g4 : g4T} {g6 : g6T} {kp : List Nat} {ik : Nat → Bool} {ka : Nat} {iw : Bool}
theorem s_pass (hx : iM hp o (g0, g1, g2, g3, g4, (kp, ik, ka, iw), g6)) (hl : kp.length = 160) (hk : ka < 160) (v : Nat) : cl pg 175 [.ref o, .int (nI v)] hp = q_i (nI (if iw = true then v else kp.getD ka 0)) (sM hp o (g0, g1, g2, g3, g4, (kp.set ka (if iw = true then v else kp.getD ka 0), ik, ka + 1, iw), g6)) := by
  have e10 : ∀ s : Nat, dn pg 175 10 [some (.ref o), some (.int (nI v)), none] [.int (nI s)] hp = q_i (nI s) (sM hp o (g0, g1, g2, g3, g4, (kp.set ka s, ik, ka + 1, iw), g6)) := by
    intro s
    rw [B175_10 (nl_int _), gM_30 hx, gM_32 hx]
    dsimp only
    rw [wM_kp hx hk hl, gM_32s hx]
    dsimp only
    rw [nI_add, pM_32s hx]
  rw [E175, B175_0, gM_33 hx]
  simp only [bI_0]
  cases iw
  · rw [if_pos rfl, gM_30 hx, gM_32 hx, rM_kp hx hk, e10]
    rfl
  · rw [if_neg (by decide), e10]
    rfl
/-- a value kept, or brought back -/
theorem s_passV {x0 : aM} (hx : iM hp o x0) {L : List Nat} {t v v' : Nat} (hk : ka + t < 160) (hw : iw = true → v = v') (hr : iw = false → kp.getD (ka + t) 0 = v') (hv : v' = L.getD t 0) : cl pg 175 [.ref o, .int (nI v)] (sM hp o (g0, g1, g2, g3, g4, (KK kp ka L t, ik, ka + t, iw), g6)) = q_i (nI v') (sM hp o (g0, g1, g2, g3, g4, (KK kp ka L (t + 1), ik, ka + (t + 1), iw), g6)) := by
  have e : (if iw = true then v else (KK kp ka L t).getD (ka + t) 0) = v' := by
    rw [KK_next hk]
    cases iw
    · rw [if_neg (by decide)]
      exact hr rfl
    · rw [if_pos rfl]
      exact hw rfl
  have := s_pass (iM_s (y := (g0, g1, g2, g3, g4, (KK kp ka L t, ik, ka + t, iw), g6)) hx) (KK_len _ _ _ _) hk v
  rw [e, KK_set hk hv, sM_s] at this
  exact this
/-- a row kept, or brought back -/
theorem s_passRow {x0 : aM} (hx : iM hp o x0) {r n t : Nat} {ro ro' L : List Nat} (st : List Nat → (List Nat) × (Nat → Bool) × Nat × Bool → aM)
    (hst : ∀ (ro : List Nat) (k : (List Nat) × (Nat → Bool) × Nat × Bool), ∃ g0 g1 g2 g3 g4 g6, ∀ k', st ro k' = (g0, g1, g2, g3, g4, k', g6))
    (hrd : ∀ (ro : List Nat) (k : (List Nat) × (Nat → Bool) × Nat × Bool) (i : Nat) (F : Int32 → Option pR), i < n → qa_i (sM hp o (st ro k)) r 0 (nI i) F = F (nI (ro.getD i 0)))
    (hwr : ∀ (ro : List Nat) (k : (List Nat) × (Nat → Bool) × Nat × Bool) (i z : Nat) (F : pH → Option pR), i < n → ro.length = n → qx_i (sM hp o (st ro k)) r 0 (nI i) (nI z) F = F (sM hp o (st (ro.set i z) k)))
    (hk : ka + t + n ≤ 160) (hn : n ≤ 8) (hl : ro.length = n) (hl' : ro'.length = n) (hw : iw = true → ro = ro') (hr : iw = false → ∀ j, j < n → kp.getD (ka + (t + j)) 0 = ro'.getD j 0) (hv : ∀ j, j < n → L.getD (t + j) 0 = ro'.getD j 0) :
    cl pg 176 [.ref o, .ref r, .int (nI n)] (sM hp o (st ro (KK kp ka L t, ik, ka + t, iw))) = q_v (sM hp o (st ro' (KK kp ka L (t + n), ik, ka + (t + n), iw))) := by
  have key : ∀ m i, i + m = n → dn pg 176 2 [some (.ref o), some (.ref r), some (.int (nI n)), some (.int (nI i))] [] (sM hp o (st (cpL ro ro' i) (KK kp ka L (t + i), ik, ka + (t + i), iw))) = q_v (sM hp o (st ro' (KK kp ka L (t + n), ik, ka + (t + n), iw))) := by
    intro m
    induction m with
    | zero =>
      intro i hi
      have : i = n := by omega
      subst this
      rw [B176_2, if_pos (nI_le (Nat.le_refl _) (by omega)), cpL_n hl hl']
    | succ m ih =>
      intro i hi
      have hin : i < n := by omega
      obtain ⟨h0, h1, h2, h3, h4, h6, hs⟩ := hst (cpL ro ro' i) (KK kp ka L (t + i), ik, ka + (t + i), iw)
      have eg : (cpL ro ro' i).getD i 0 = ro.getD i 0 := by
        unfold cpL
        have := gdR (xs := ro'.take i) (ys := ro.drop i) (n := i) (by rw [List.length_take]; omega) 0
        rw [Nat.add_zero] at this
        rw [this, List.getD_eq_getElem?_getD, List.getElem?_drop, Nat.add_zero, ← List.getD_eq_getElem?_getD]
      have hp1 := s_passV (g0 := h0) (g1 := h1) (g2 := h2) (g3 := h3) (g4 := h4) (g6 := h6) (kp := kp) (ik := ik) (ka := ka) (iw := iw) hx (L := L) (t := t + i) (v := (cpL ro ro' i).getD i 0) (v' := ro'.getD i 0) (by omega) (fun q => by rw [eg, hw q]) (fun q => hr q i hin) (hv i hin).symm
      rw [← hs, ← hs] at hp1
      obtain ⟨x1, hx1⟩ : ∃ x1, iM (sM hp o (st (cpL ro ro' i) (KK kp ka L (t + i), ik, ka + (t + i), iw))) o x1 := ⟨_, iM_s hx⟩
      rw [B176_2, if_neg (nI_ge hin (by omega)), hrd _ _ _ _ hin, vM_s hx, hp1, er_i, hwr _ _ _ _ _ hin (cpL_len hl hl' (by omega)), cpL_set hl hl' hin, nI_add]
      exact ih (i + 1) (by omega)
  rw [E176, B176_0 (nl_int _)]
  have := key n 0 (Nat.zero_add _)
  rw [cpL_0] at this
  exact this
/-- all is kept, or brought back -/
theorem s_passAll {x : aM} {kp : List Nat} {ik : Nat → Bool} {ka : Nat} {iw : Bool} (hx : iM hp o x) (hkk : x.2.2.2.2.2.1 = (kp, ik, ka, iw)) (hl : kp.length = 160) (hk : ka + 64 ≤ 160) {y : aY} (lx : lnY (x.1, x.2.1, x.2.2.1)) (ly : lnY y) (hw : iw = true → (x.1, x.2.1, x.2.2.1) = y) (hr : iw = false → ∀ j, j < 64 → kp.getD (ka + j) 0 = (yvL y).getD j 0) : cl pg 174 [.ref o] hp = q_v (sM hp o (y.1, y.2.1, y.2.2, x.2.2.2.1, x.2.2.2.2.1, (KK kp ka (yvL y) 64, ik, ka + 64, iw), x.2.2.2.2.2.2)) := by
  obtain ⟨y0, y1, y2, y3, y4, y5, y6, y7, y8, y9, y10, y11⟩ := yv_at ly
  obtain ⟨⟨n, m, t, f, v, h, d⟩, ⟨mi, du⟩, ⟨ev, sd, cn⟩, g3, g4, g5, g6⟩ := x
  have hkk : g5 = (kp, ik, ka, iw) := hkk
  subst hkk
  obtain ⟨⟨n', m', t', f', v', h', d'⟩, ⟨mi', du'⟩, ⟨ev', sd', cn'⟩⟩ := y
  obtain ⟨a1, a2, a3, a4, a5, a6, a7, a8⟩ := lx
  obtain ⟨b1, b2, b3, b4, b5, b6, b7, b8⟩ := ly
  dsimp only at a1 a2 a3 a4 a5 a6 a7 a8 b1 b2 b3 b4 b5 b6 b7 b8 y0 y1 y2 y3 y4 y5 y6 y7 y8 y9 y10 y11
  generalize hL : yvL ((n', m', t', f', v', h', d'), (mi', du'), ev', sd', cn') = L at y0 y1 y2 y3 y4 y5 y6 y7 y8 y9 y10 y11 hr ⊢
  have w1 : iw = true → v = v' := fun q => by have := hw q; cases this; rfl
  have w2 : iw = true → h = h' := fun q => by have := hw q; cases this; rfl
  have w3 : iw = true → d = d' := fun q => by have := hw q; cases this; rfl
  have w4 : iw = true → cn = cn' := fun q => by have := hw q; cases this; rfl
  have w5 : iw = true → n = n' := fun q => by have := hw q; cases this; rfl
  have w6 : iw = true → m = m' := fun q => by have := hw q; cases this; rfl
  have w7 : iw = true → t = t' := fun q => by have := hw q; cases this; rfl
  have w8 : iw = true → f = f' := fun q => by have := hw q; cases this; rfl
  have w9 : iw = true → mi = mi' := fun q => by have := hw q; cases this; rfl
  have w10 : iw = true → du = du' := fun q => by have := hw q; cases this; rfl
  have w11 : iw = true → ev = ev' := fun q => by have := hw q; cases this; rfl
  have w12 : iw = true → sd = sd' := fun q => by have := hw q; cases this; rfl
  have p1 := s_passV (g0 := (n, m, t, f, v, h, d)) (g1 := (mi, du)) (g2 := (ev, sd, cn)) (g3 := g3) (g4 := g4) (g6 := g6) (kp := kp) (ik := ik) (ka := ka) (iw := iw) hx (L := L) (t := 0) (v := v) (v' := v') (by omega) w1 (fun q => by rw [hr q 0 (by omega), y0]) y0.symm
  have p2 := s_passV (g0 := (n, m, t, f, v', h, d)) (g1 := (mi, du)) (g2 := (ev, sd, cn)) (g3 := g3) (g4 := g4) (g6 := g6) (kp := kp) (ik := ik) (ka := ka) (iw := iw) hx (L := L) (t := 1) (v := h) (v' := h') (by omega) w2 (fun q => by rw [hr q 1 (by omega), y1]) y1.symm
  have p3 := s_passV (g0 := (n, m, t, f, v', h', d)) (g1 := (mi, du)) (g2 := (ev, sd, cn)) (g3 := g3) (g4 := g4) (g6 := g6) (kp := kp) (ik := ik) (ka := ka) (iw := iw) hx (L := L) (t := 2) (v := d) (v' := d') (by omega) w3 (fun q => by rw [hr q 2 (by omega), y2]) y2.symm
  have p4 := s_passV (g0 := (n, m, t, f, v', h', d')) (g1 := (mi, du)) (g2 := (ev, sd, cn)) (g3 := g3) (g4 := g4) (g6 := g6) (kp := kp) (ik := ik) (ka := ka) (iw := iw) hx (L := L) (t := 3) (v := cn) (v' := cn') (by omega) w4 (fun q => by rw [hr q 3 (by omega), y3]) y3.symm
  have q1 := s_passRow (kp := kp) (ik := ik) (ka := ka) (iw := iw) hx (r := o + 1) (n := 8) (t := 4) (ro := n) (ro' := n') (L := L) (fun ro k => ((ro, m, t, f, v', h', d'), (mi, du), (ev, sd, cn'), g3, g4, k, g6)) (fun ro k => ⟨_, _, _, _, _, _, fun k' => rfl⟩) (fun ro k i F hi => rM_ns hx _ hi F) (fun ro k i z F hi hl => wM_ns hx hi hl z F) (by omega) (by omega) a1 b1 w5 (fun q j hj => by rw [hr q _ (by omega), y4 j hj]) y4
  have q2 := s_passRow (kp := kp) (ik := ik) (ka := ka) (iw := iw) hx (r := o + 2) (n := 8) (t := 12) (ro := m) (ro' := m') (L := L) (fun ro k => ((n', ro, t, f, v', h', d'), (mi, du), (ev, sd, cn'), g3, g4, k, g6)) (fun ro k => ⟨_, _, _, _, _, _, fun k' => rfl⟩) (fun ro k i F hi => rM_ms hx _ hi F) (fun ro k i z F hi hl => wM_ms hx hi hl z F) (by omega) (by omega) a2 b2 w6 (fun q j hj => by rw [hr q _ (by omega), y5 j hj]) y5
  have q3 := s_passRow (kp := kp) (ik := ik) (ka := ka) (iw := iw) hx (r := o + 3) (n := 8) (t := 20) (ro := t) (ro' := t') (L := L) (fun ro k => ((n', m', ro, f, v', h', d'), (mi, du), (ev, sd, cn'), g3, g4, k, g6)) (fun ro k => ⟨_, _, _, _, _, _, fun k' => rfl⟩) (fun ro k i F hi => rM_ts hx _ hi F) (fun ro k i z F hi hl => wM_ts hx hi hl z F) (by omega) (by omega) a3 b3 w7 (fun q j hj => by rw [hr q _ (by omega), y6 j hj]) y6
  have q4 := s_passRow (kp := kp) (ik := ik) (ka := ka) (iw := iw) hx (r := o + 4) (n := 8) (t := 28) (ro := f) (ro' := f') (L := L) (fun ro k => ((n', m', t', ro, v', h', d'), (mi, du), (ev, sd, cn'), g3, g4, k, g6)) (fun ro k => ⟨_, _, _, _, _, _, fun k' => rfl⟩) (fun ro k i F hi => rM_fs hx _ hi F) (fun ro k i z F hi hl => wM_fs hx hi hl z F) (by omega) (by omega) a4 b4 w8 (fun q j hj => by rw [hr q _ (by omega), y7 j hj]) y7
  have q5 := s_passRow (kp := kp) (ik := ik) (ka := ka) (iw := iw) hx (r := o + 5) (n := 6) (t := 36) (ro := mi) (ro' := mi') (L := L) (fun ro k => ((n', m', t', f', v', h', d'), (ro, du), (ev, sd, cn'), g3, g4, k, g6)) (fun ro k => ⟨_, _, _, _, _, _, fun k' => rfl⟩) (fun ro k i F hi => rM_mis hx _ hi F) (fun ro k i z F hi hl => wM_mis hx hi hl z F) (by omega) (by omega) a5 b5 w9 (fun q j hj => by rw [hr q _ (by omega), y8 j hj]) y8
  have q6 := s_passRow (kp := kp) (ik := ik) (ka := ka) (iw := iw) hx (r := o + 6) (n := 6) (t := 42) (ro := du) (ro' := du') (L := L) (fun ro k => ((n', m', t', f', v', h', d'), (mi', ro), (ev, sd, cn'), g3, g4, k, g6)) (fun ro k => ⟨_, _, _, _, _, _, fun k' => rfl⟩) (fun ro k i F hi => rM_dus hx _ hi F) (fun ro k i z F hi hl => wM_dus hx hi hl z F) (by omega) (by omega) a6 b6 w10 (fun q j hj => by rw [hr q _ (by omega), y9 j hj]) y9
  have q7 := s_passRow (kp := kp) (ik := ik) (ka := ka) (iw := iw) hx (r := o + 7) (n := 8) (t := 48) (ro := ev) (ro' := ev') (L := L) (fun ro k => ((n', m', t', f', v', h', d'), (mi', du'), (ro, sd, cn'), g3, g4, k, g6)) (fun ro k => ⟨_, _, _, _, _, _, fun k' => rfl⟩) (fun ro k i F hi => rM_evs hx _ hi F) (fun ro k i z F hi hl => wM_evs hx hi hl z F) (by omega) (by omega) a7 b7 w11 (fun q j hj => by rw [hr q _ (by omega), y10 j hj]) y10
  have q8 := s_passRow (kp := kp) (ik := ik) (ka := ka) (iw := iw) hx (r := o + 8) (n := 8) (t := 56) (ro := sd) (ro' := sd') (L := L) (fun ro k => ((n', m', t', f', v', h', d'), (mi', du'), (ev', ro, cn'), g3, g4, k, g6)) (fun ro k => ⟨_, _, _, _, _, _, fun k' => rfl⟩) (fun ro k i F hi => rM_sds hx _ hi F) (fun ro k i z F hi hl => wM_sds hx hi hl z F) (by omega) (by omega) a8 b8 w12 (fun q j hj => by rw [hr q _ (by omega), y11 j hj]) y11
  rw [KK_0 hl, Nat.add_zero, sM_i hx] at p1
  rw [E174, B174_0, gM_4 hx]
  dsimp only
  rw [vM hx, p1, er_i, pM_4s hx, gM_5s hx]
  dsimp only
  rw [vM_s hx, p2, er_i, pM_5s hx, gM_6s hx]
  dsimp only
  rw [vM_s hx, p3, er_i, pM_6s hx, gM_11s hx]
  dsimp only
  rw [vM_s hx, p4, er_i, pM_11s hx, gM_0s hx, vM_s hx, q1, er_v, gM_1s hx, vM_s hx, q2, er_v, gM_2s hx, vM_s hx, q3, er_v, gM_3s hx, vM_s hx, q4, er_v, gM_7s hx, vM_s hx, q5, er_v, gM_8s hx, vM_s hx, q6, er_v, gM_9s hx, vM_s hx, q7, er_v, gM_10s hx, vM_s hx, q8, er_v]
/-- an image: what stands in the row of values -/
def sgP (kp : List Nat) (k : Nat) (y : aY) : Prop := ∀ j, j < 64 → kp.getD (80 * k + j) 0 = (yvL y).getD j 0
theorem s_mimage {x : aM} (hx : iM hp o x) (hl : x.2.2.2.2.2.1.1.length = 160) (lx : lnY (x.1, x.2.1, x.2.2.1)) {k : Nat} (hk : k ≤ 1) : ∃ kp' ka, cl pg 173 [.ref o, .int (nI k)] hp = q_i (nI 1) (sM hp o (x.1, x.2.1, x.2.2.1, x.2.2.2.1, x.2.2.2.2.1, (kp', updZ x.2.2.2.2.2.1.2.1 k true, ka, true), x.2.2.2.2.2.2)) ∧ kp'.length = 160 ∧ sgP kp' k (x.1, x.2.1, x.2.2.1) ∧ ∀ y, sgP x.2.2.2.2.2.1.1 (1 - k) y → sgP kp' (1 - k) y := by
  obtain ⟨g0, g1, g2, g3, g4, ⟨kp, ik, ka, iw⟩, g6⟩ := x
  dsimp only at hl lx ⊢
  refine ⟨KK kp (80 * k) (yvL (g0, g1, g2)) 64, 80 * k + 64, ?_, KK_len _ _ _ _, fun j hj => KK_in (by omega) hj, fun y hy j hj => ?_⟩
  · have hp1 := s_passAll (x := (g0, g1, g2, g3, g4, (kp, ik, 80 * k, true), g6)) (kp := kp) (ik := ik) (ka := 80 * k) (iw := true) (iM_s (y := (g0, g1, g2, g3, g4, (kp, ik, 80 * k, true), g6)) hx) rfl hl (by omega) (y := (g0, g1, g2)) lx lx (fun _ => rfl) (fun q => by cases q)
    rw [sM_s] at hp1
    dsimp only at hp1
    rw [E173, B173_0, inT (rgT (Nat.zero_le _) hk (by decide)) (by decide) (by decide), er_i, if_pos n10, pk_mul, pM_32 hx, ez1, show nI 1 = bI true from rfl, pM_33s hx, vM_s hx, hp1, er_v, gM_31s hx, show qz (bI true) = qz (nI 1) from rfl, ez1, wM_iks hx (i := k) (by omega)]
  · rw [KK_out (by omega) (by omega)]
    exact hy j hj
theorem KK_same {kp L : List Nat} {ka : Nat} (hl : kp.length = 160) (hk : ka + 64 ≤ 160) (h : ∀ j, j < 64 → kp.getD (ka + j) 0 = L.getD j 0) : KK kp ka L 64 = kp := by
  unfold KK
  have : ∀ j, j < 160 → (if ka ≤ j ∧ j < ka + 64 then L.getD (j - ka) 0 else kp.getD j 0) = kp.getD j 0 := by
    intro j hj
    split
    · rename_i q
      have := h (j - ka) (by omega)
      rw [← this]
      congr 1
      omega
    · rfl
  rw [mkL_ext this]
  exact mkL_id hl
theorem s_mrestore {x : aM} (hx : iM hp o x) (hl : x.2.2.2.2.2.1.1.length = 160) (lx : lnY (x.1, x.2.1, x.2.2.1)) {k : Nat} (hk : k ≤ 1) {y : aY} (ly : lnY y) (hi : x.2.2.2.2.2.1.2.1 k = true) (hy : sgP x.2.2.2.2.2.1.1 k y) : ∃ ka, cl pg 177 [.ref o, .int (nI k)] hp = q_i (nI 1) (sM hp o (y.1, y.2.1, y.2.2, x.2.2.2.1, x.2.2.2.2.1, (x.2.2.2.2.2.1.1, x.2.2.2.2.2.1.2.1, ka, false), x.2.2.2.2.2.2)) := by
  obtain ⟨g0, g1, g2, g3, g4, ⟨kp, ik, ka, iw⟩, g6⟩ := x
  dsimp only at hl lx hi hy ⊢
  refine ⟨80 * k + 64, ?_⟩
  have hp1 := s_passAll (x := (g0, g1, g2, g3, g4, (kp, ik, 80 * k, false), g6)) (kp := kp) (ik := ik) (ka := 80 * k) (iw := false) (iM_s (y := (g0, g1, g2, g3, g4, (kp, ik, 80 * k, false), g6)) hx) rfl hl (by omega) (y := y) lx ly (fun q => by cases q) (fun _ => hy)
  rw [sM_s, KK_same hl (by omega) hy] at hp1
  dsimp only at hp1
  rw [E177, B177_0, inT (rgT (Nat.zero_le _) hk (by decide)) (by decide) (by decide), er_i, if_pos n10, gM_31 hx, rM_ik hx (i := k) (by omega)]
  dsimp only
  have hb : ¬ bI (ik k) = nI 0 := by
    have e : ik k = true := hi
    rw [e]
    decide
  rw [if_pos hb, pk_mul, pM_32 hx, ez0, show Value.int (nI 0) = Value.int (bI false) from rfl, pM_33s hx, vM_s hx, hp1, er_v]
theorem s_mrestoreNo {x : aM} (hx : iM hp o x) {k : Nat} (hk : k ≤ 1) (hi : x.2.2.2.2.2.1.2.1 k = false) : cl pg 177 [.ref o, .int (nI k)] hp = q_i (-3) hp := by
  rw [E177, B177_0, inT (rgT (Nat.zero_le _) hk (by decide)) (by decide) (by decide), er_i, if_pos n10, gM_31 hx, rM_ik hx (i := k) (by omega), if_neg (by rw [hi]; decide)]
end MI
