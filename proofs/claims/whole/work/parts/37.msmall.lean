/-! The reference's small methods. -/
section MS
variable {hp : pH} {o i : Nat} {x : aM}
/-- a one as she is told to be -/
def drs (w : aW) (i k : Nat) (b : Bool) (m t : Nat) : aW := uV (uT (uM (uN w (w.1.set i k)) (w.2.1.set i m)) (w.2.2.1.set i t)) (sb w.2.2.2.2.2.1 i b)
theorem ok_drs {w : aW} (ok : okW w) {i k m t : Nat} (hi : i < 8) (hk : k < 4) (hm : m < 10) (ht : t < 10) (b : Bool) : okW (drs w i k b m t) := by
  have o1 := ok_uN ok hi hk
  have o2 := ok_uM o1 hi hm
  have o3 := ok_uT o2 hi ht
  exact ok_uV o3 (sb_lt' ok.2.2.1 hi b)
theorem s_mone (hx : iM hp o x) (ok : okW (mW x)) (hi : i < 8) {k m t : Nat} (hk : k ≤ 3) (hm1 : 1 ≤ m) (hm : m ≤ 9) (ht : t ≤ 9) (b : Bool) : cl pg 107 [.ref o, .int (nI i), .int (nI k), .int (bI b), .int (nI m), .int (nI t)] hp = q_i (nI ((mW x).1.getD i 0)) (sM hp o (mS x (drs (mW x) i k b m t) (mth x))) := by
  obtain ⟨⟨l1, l2, l3, l4⟩, _, hv, _⟩ := ok
  have rb : rg (nI 0) (nI 1) (bI b) = true := by cases b <;> decide
  rw [E107, B107_0, moT (rgT (Nat.zero_le _) (by omega) (by decide)), er_i, if_pos n10, inT (rgT (Nat.zero_le _) hk (by decide)) (by decide) (by decide), er_i, if_neg n10, inT rb (by decide) (by decide), er_i, if_neg n10, inT (rgT hm1 hm (by decide)) (by decide) (by decide), er_i, if_neg n10, inT (rgT (Nat.zero_le _) ht (by decide)) (by decide) (by decide), er_i, if_pos n10]
  obtain ⟨⟨n, me, te, f, v, h, d⟩, g1, g2, g3, g4, g5, th, g6⟩ := x
  have hv : v < 256 := hv
  have l1 : n.length = 8 := l1
  have l2 : me.length = 8 := l2
  have l3 : te.length = 8 := l3
  rw [gM_0 hx, rM_n hx hi, gM_0 hx, wM_n hx hi l1, gM_1s hx, wM_ms hx hi l2, gM_2s hx, wM_ts hx hi l3, gM_4s hx]
  have e61 : ∀ b : Bool, dn pg 107 61 [some (.ref o), some (.int (nI i)), some (.int (nI k)), some (.int (bI b)), some (.int (nI m)), some (.int (nI t)), some (.int (nI (n.getD i 0)))] [.int (bI b), .int (nI i), .int (nI v), .ref o] (sM hp o ((n.set i k, me.set i m, te.set i t, f, v, h, d), g1, g2, g3, g4, g5, th, g6)) = q_i (nI (n.getD i 0)) (sM hp o ((n.set i k, me.set i m, te.set i t, f, sb v i b, h, d), g1, g2, g3, g4, g5, th, g6)) := by
    intro b
    rw [B107_61, s_mwith hv hi b, er_i, pM_4s hx]
  simp only [bI_1]
  cases b
  · rw [if_pos (by decide)]
    exact e61 false
  · rw [if_neg (by decide)]
    exact e61 true
theorem s_mtreaty (hx : iM hp o x) (ok : okW (mW x)) {a b : Nat} (ha : a < 8) (hb : b < 8) (hab : a ≠ b) (is : Bool) : cl pg 111 [.ref o, .int (nI a), .int (nI b), .int (bI is)] hp = q_i (nI (trs (uF (mW x) (trF (mW x) a b is)))) (sM hp o (mS x (uF (mW x) (trF (mW x) a b is)) (mth x))) := by
  have hx' : iM (sM hp o (mS x (uF (mW x) (trF (mW x) a b is)) (mth x))) o (mS x (uF (mW x) (trF (mW x) a b is)) (mth x)) := iM_s hx
  have ok' : okW (mW (mS x (uF (mW x) (trF (mW x) a b is)) (mth x))) := ok_uO (trF_lt ok ha hb is) _
  rw [E111, B111_0, moT (rgT (Nat.zero_le _) (by omega) (by decide)), er_i, if_neg n10, moT (rgT (Nat.zero_le _) (by omega) (by decide)), er_i, if_neg n10, if_pos (fun q => hab ((nI_eq (by omega) (by omega)).mp q)), vM hx, s_magree hx ok ha hb is, er_v, vM_s hx, s_treatyMany hx' ok', er_i]
  rfl
theorem s_mhair (hx : iM hp o x) {v : Nat} (hv : v ≤ 99) : cl pg 115 [.ref o, .int (nI v)] hp = q_i (nI (mW x).2.2.2.2.2.2.1) (sM hp o (mS x (uH (mW x) v) (mth x))) := by
  obtain ⟨⟨n, me, te, f, v', h, d⟩, g1, g2, g3, g4, g5, th, g6⟩ := x
  rw [E115, B115_0, inT (rgT (Nat.zero_le _) hv (by decide)) (by decide) (by decide), er_i, if_pos n10, gM_5 hx, pM_5 hx]
  rfl
theorem s_mpay (hx : iM hp o x) (ok : okC x.2.1) (hi : i < 6) {a b : Nat} (ha1 : 1 ≤ a) (ha : a ≤ 9) (hb : b ≤ 99) : cl pg 116 [.ref o, .int (nI i), .int (nI a), .int (nI b)] hp = q_i ((nI 100 * nI (x.2.1.1.getD i 0)) + nI (x.2.1.2.getD i 0)) (sM hp o (x.1, (x.2.1.1.set i a, x.2.1.2.set i b), x.2.2)) := by
  obtain ⟨g0, ⟨mi, du⟩, g2, g3, g4, g5, g6⟩ := x
  obtain ⟨⟨l1, l2⟩, _⟩ := ok
  rw [E116, B116_0, inT (rgT (Nat.zero_le _) (by omega) (by decide)) (by decide) (by decide), er_i, if_pos n10, inT (rgT ha1 ha (by decide)) (by decide) (by decide), er_i, if_neg n10, inT (rgT (Nat.zero_le _) hb (by decide)) (by decide) (by decide), er_i, if_pos n10, gM_7 hx, rM_mi hx hi, gM_8 hx, rM_du hx hi, gM_7 hx, wM_mi hx hi l1, gM_8s hx, wM_dus hx hi l2]
theorem s_msay (hx : iM hp o x) (hl : x.2.2.2.1.1.length = 60) (hn : x.2.2.2.1.2 ≤ 60) {c : Nat} (h1 : 33 ≤ c) (h2 : c ≤ 126) : cl pg 117 [.ref o, .int (nI c)] hp = if x.2.2.2.1.2 = 60 then q_i (-4) hp else q_i (nI (x.2.2.2.1.2 + 1)) (sM hp o (x.1, x.2.1, x.2.2.1, (x.2.2.2.1.1.set x.2.2.2.1.2 c, x.2.2.2.1.2 + 1), x.2.2.2.2)) := by
  obtain ⟨g0, g1, g2, ⟨sg, ln⟩, g4, g5, g6⟩ := x
  dsimp only at hl hn ⊢
  rw [E117, B117_0, inT (rgT h1 h2 (by decide)) (by decide) (by decide), er_i, if_pos n10, gM_13 hx]
  dsimp only
  by_cases h : ln = 60
  · rw [if_pos h, if_neg (not_not_intro (by rw [h]))]
  · rw [if_neg h, if_pos (fun q => h ((nI_eq (by omega) (by omega)).mp q)), gM_12 hx, gM_13 hx]
    dsimp only
    rw [wM_sg hx (by omega) hl, gM_13s hx]
    dsimp only
    rw [nI_add, pM_13s hx, gM_13s hx]
theorem s_mwipe (hx : iM hp o x) : cl pg 118 [.ref o] hp = q_i (nI x.2.2.2.1.2) (sM hp o (x.1, x.2.1, x.2.2.1, (x.2.2.2.1.1, 0), x.2.2.2.2)) := by
  obtain ⟨g0, g1, g2, ⟨sg, ln⟩, g4, g5, g6⟩ := x
  rw [E118, B118_0, gM_13 hx, pM_13 hx]
theorem s_mseen (hx : iM hp o x) (ok : okT x) {e : Nat} (he : e ≤ 60) (b : Bool) : cl pg 160 [.ref o, .int (nI e), .int (bI b)] hp = if x.2.2.1.2.2 = 8 then q_i (-4) hp else q_i (nI (x.2.2.1.2.2 + 1)) (sM hp o (x.1, x.2.1, (x.2.2.1.1.set x.2.2.1.2.2 e, x.2.2.1.2.1.set x.2.2.1.2.2 (if b = true then 1 else 0), x.2.2.1.2.2 + 1), x.2.2.2)) := by
  obtain ⟨l1, l2, l3, _⟩ := ok
  obtain ⟨g0, g1, ⟨ev, sd, cn⟩, g3, g4, g5, g6⟩ := x
  dsimp only at l1 l2 l3 ⊢
  rw [E160, B160_0, inT (rgT (Nat.zero_le _) he (by decide)) (by decide) (by decide), er_i, if_pos n10, gM_11 hx]
  dsimp only
  by_cases h : cn = 8
  · rw [if_pos h, if_neg (not_not_intro (by rw [h]))]
  · have h8 : cn < 8 := by omega
    rw [if_neg h, if_pos (fun q => h ((nI_eq (by omega) (by omega)).mp q)), gM_9 hx, gM_11 hx]
    dsimp only
    rw [wM_ev hx h8 l1, gM_10s hx, gM_11s hx]
    dsimp only
    have e29 : ∀ y : Nat, dn pg 160 29 [some (.ref o), some (.int (nI e)), some (.int (bI b))] [.int (nI y), .int (nI cn), .ref (o + 8)] (sM hp o (g0, g1, (ev.set cn e, sd, cn), g3, g4, g5, g6)) = q_i (nI (cn + 1)) (sM hp o (g0, g1, (ev.set cn e, sd.set cn y, cn + 1), g3, g4, g5, g6)) := by
      intro y
      rw [B160_29, wM_sds hx h8 l2, gM_11s hx]
      dsimp only
      rw [nI_add, pM_11s hx, gM_11s hx]
    simp only [bI_0]
    cases b
    · rw [if_pos rfl]
      exact e29 0
    · rw [if_neg (by decide)]
      exact e29 1
theorem s_mforget (hx : iM hp o x) : cl pg 161 [.ref o] hp = q_i (nI x.2.2.1.2.2) (sM hp o (x.1, x.2.1, (x.2.2.1.1, x.2.2.1.2.1, 0), x.2.2.2)) := by
  obtain ⟨g0, g1, ⟨ev, sd, cn⟩, g3, g4, g5, g6⟩ := x
  rw [E161, B161_0, gM_11 hx, pM_11 hx]
end MS
