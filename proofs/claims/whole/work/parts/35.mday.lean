/-! What a pad's acts lead to, and the reference's answers about it. -/
def RDn (cs : List Nat) : Option Nat × List (Nat × Nat × Nat) := rdP cs 0 0 0 0 []
def GOn (cs : List Nat) (w : aW) : aU × aW := goR (RDn cs).2 0 u0 w
def RFn (cs : List Nat) (w : aW) : Int32 := if (RDn cs).1 = none then (if (GOn cs w).1.1 = -6 then -6 else -3) else -5
def JDn (cs : List Nat) (w : aW) (z : Nat) : Int32 := if RFn cs w = -5 then -5 else if z = 2 ∧ RFn cs w = -3 then -3 else if z = 0 then (GOn cs w).1.1 else if z = 1 then (GOn cs w).1.2.1 else nI (GOn cs w).1.2.2.1
def ONn (w : aW) (i z : Nat) : Nat := if z = 0 then w.1.getD i 0 else if z = 1 then (if hs w.2.2.2.2.2.1 i = true then 1 else 0) else if z = 2 then w.2.2.1.getD i 0 else thk w i
def ALn (w : aW) (z : Nat) : Nat := if z < 4 then ppl w z else if z = 4 then w.2.2.2.2.2.2.1 else if z = 5 then w.2.2.2.2.2.2.2 else trs w
def BHn (cs : List Nat) (w : aW) (i z : Nat) : Int32 := if RFn cs w = -6 then nI (ONn (GOn cs w).2 i z) else RFn cs w
def STn (cs : List Nat) (w : aW) (z : Nat) : Int32 := if RFn cs w = -6 then nI (ALn (GOn cs w).2 z) else RFn cs w
def ANn (cs : List Nat) (w : aW) (z : Nat) : Int32 := if RFn cs w = -6 then (if z = 0 then (GOn cs w).1.2.2.2.1 else (GOn cs w).1.2.2.2.2) else RFn cs w
def DNn (cs : List Nat) (w : aW) : Int32 := if RFn cs w = -6 then nI (RDn cs).2.length else RFn cs w
theorem RDn_ok (cs : List Nat) : (∀ e ∈ (RDn cs).2, vAct e) ∧ (∀ e ∈ (RDn cs).2, 1 ≤ e.1) ∧ (RDn cs).2.length ≤ cs.length := by
  refine ⟨rdP_ok cs 0 0 0 0 [] (by omega) ⟨fun z => (by omega), fun z => (by omega)⟩ (fun e he => by cases he), rdP_knd cs 0 0 0 0 [] (fun z => by omega) (fun e he => by cases he), ?_⟩
  have := rdP_len cs 0 0 0 0 []
  rw [List.length_nil, Nat.zero_add] at this
  exact this
theorem RFn_cases (cs : List Nat) (w : aW) : RFn cs w = -6 ∨ RFn cs w = -3 ∨ RFn cs w = -5 := by
  unfold RFn
  split
  · split
    · exact Or.inl rfl
    · exact Or.inr (Or.inl rfl)
  · exact Or.inr (Or.inr rfl)
/-- what makes the reference's state good -/
def okM (x : aM) : Prop := okW (mW x) ∧ okC x.2.1 ∧ okT x ∧ (x.2.2.2.1.1.length = 60 ∧ x.2.2.2.1.2 ≤ 60 ∧ ∀ i, i < x.2.2.2.1.2 → x.2.2.2.1.1.getD i 0 < 128) ∧ (mhd x).length = 27 ∧ x.2.2.2.2.2.1.1.length = 160
/-- the same as far as it shows -/
def smM (x y : aM) : Prop := y.1 = x.1 ∧ y.2.1 = x.2.1 ∧ y.2.2.1 = x.2.2.1 ∧ y.2.2.2.1 = x.2.2.2.1 ∧ y.2.2.2.2.2.1 = x.2.2.2.2.2.1 ∧ (mhd y).length = 27
abbrev csM (x : aM) : List Nat := x.2.2.2.1.1.take x.2.2.2.1.2
theorem csM_le {x : aM} (ok : okM x) : (csM x).length ≤ 60 := by
  have := ok.2.2.2.1.2.1
  rw [List.length_take]
  omega
/-- kept behind a refusal -/
def kpM (x x' : aM) : Prop := x'.2.1 = x.2.1 ∧ x'.2.2.1 = x.2.2.1 ∧ x'.2.2.2.1 = x.2.2.2.1 ∧ x'.2.2.2.2.2.1 = x.2.2.2.2.2.1 ∧ hdP (mhd x') (mW x) ∧ (mW x).2.1 = (mW x').2.1 ∧ okW (mW x')
section RF
variable {hp : pH} {o : Nat} {x : aM}
theorem mW_mQ (x : aM) (w : aW) (th we : Nat → Int32) (u : aU) : mW (mQ x w th we u) = uO w (fun _ => 0) := rfl
theorem mQ_mQ (x : aM) (w w' : aW) (th we th' we' : Nat → Int32) (u u' : aU) : mQ (mQ x w th we u) w' th' we' u' = mQ x w' th' we' u' := rfl
theorem mQ_uO (x : aM) (w : aW) (fo th we : Nat → Int32) (u : aU) : mQ x (uO w fo) th we u = mQ x w th we u := rfl
theorem mQ_20 {y : aM} (hx : iM hp o y) (w : aW) (th we : Nat → Int32) (u : aU) (z : Int32) (F : pH → Option pR) : qp_v (sM hp o (mQ x w th we u)) o 9 20 (.int z) F = F (sM hp o (mQ x w th we (z, u.2))) := pM_20s hx z F
theorem mQ_21 {y : aM} (hx : iM hp o y) (w : aW) (th we : Nat → Int32) (u : aU) (z : Int32) (F : pH → Option pR) : qp_v (sM hp o (mQ x w th we u)) o 9 21 (.int z) F = F (sM hp o (mQ x w th we (u.1, z, u.2.2))) := pM_21s hx z F
theorem s_goDays (hx : iM hp o x) (ok : okW (mW x)) {A : List (Nat × Nat × Nat)} (hac : x.2.2.2.2.1.2.2.2 = A.length) (hI : MInv A 0 0 x.2.2.2.2.1.1 x.2.2.2.2.1.2.1 x.2.2.2.2.1.2.2.1) (hA : ∀ e ∈ A, vAct e) (hA1 : ∀ e ∈ A, 1 ≤ e.1) (hl : A.length ≤ 60) : ∃ th we, cl pg 128 [.ref o] hp = q_v (sM hp o (mQ x (goR A 0 u0 (mW x)).2 th we (goR A 0 u0 (mW x)).1)) := by
  have key : ∀ rest i, A.drop i = rest → i + rest.length = A.length → ∀ (w : aW) th1 we1 (u : aU), okW w → u.1 = -6 → u.2.1 = -6 → ixO u.2.2.2.1 i → ∀ v2, ∃ th' we', dn pg 128 17 [some (.ref o), some (.int (nI i)), v2] [] (sM hp o (mQ x w th1 we1 u)) = q_v (sM hp o (mQ x (goR rest i u w).2 th' we' (goR rest i u w).1)) := by
    intro rest
    induction rest with
    | nil =>
      intro i hd hi w th1 we1 u okw hu1 hu2 hix v2
      rw [List.length_nil, Nat.add_zero] at hi
      refine ⟨th1, we1, ?_⟩
      have hac' : (mQ x w th1 we1 u).2.2.2.2.1.2.2.2 = A.length := hac
      rw [B128_17, gM_17s hx, hac', ← hi, if_pos (nI_le (Nat.le_refl _) (by omega)), B128_60]
      unfold goR
      rfl
    | cons e rest ih =>
      intro i hd hi w th1 we1 u okw hu1 hu2 hix v2
      rw [List.length_cons] at hi
      have hiA : i < A.length := by omega
      have hAe : A[i]? = some e := by
        have : (A.drop i)[0]? = some e := by rw [hd]; rfl
        rw [List.getElem?_drop, Nat.add_zero] at this
        exact this
      have hmem : e ∈ A := List.mem_of_getElem? hAe
      obtain ⟨r1, r2, r3⟩ := hI.1 i e hAe
      obtain ⟨v1, v2', v3⟩ := hA e hmem
      have k1 := hA1 e hmem
      obtain ⟨ck1, ck2, ck3⟩ := ck_mk e.1 v1 k1
      have hcs : A.drop (i + 1) = rest := by
        rw [← List.drop_drop, hd]
        rfl
      have hac' : (mQ x w th1 we1 u).2.2.2.2.1.2.2.2 = A.length := hac
      have hba : (mQ x w th1 we1 u).2.2.2.2.2.2.2.2.2.2.2.2.2.1 = -6 := hu1
      have r1' : (mQ x w th1 we1 u).2.2.2.2.1.1 i = nI (mkN e.1) := r1
      have r2' : (mQ x w th1 we1 u).2.2.2.2.1.2.1 i = nI e.2.1 := r2
      have r3' : (mQ x w th1 we1 u).2.2.2.2.1.2.2.1 i = nI e.2.2 := r3
      have okq : okW (mW (mQ x w th1 we1 u)) := by
        rw [mW_mQ]
        exact ok_uO okw _
      have hwn := s_mwhyNot (hp := sM hp o (mQ x w th1 we1 u)) (iM_s (y := mQ x w th1 we1 u) hx) okq (k := mkN e.1) (a := e.2.1) (b := e.2.2) ck2 v2' (by
        rcases v3 with h | h
        · exact Or.inl h
        · exact Or.inr (ck3.mpr h.1))
      rw [ck1, mW_mQ, wny_uO] at hwn
      rw [B128_17, gM_17s hx, gM_20s hx, gM_14s hx, rM_kis hx _ (i := i) (by omega), gM_15s hx, rM_whs hx _ (i := i) (by omega), gM_16s hx, rM_ots hx _ (i := i) (by omega), vM_s hx]
      simp only [hac', hba, r1', r2', r3']
      rw [hwn, er_i, if_neg (nI_ge (by omega) (by omega)), if_neg (show ¬ nI 0 ≤ -6 by decide)]
      have hw7 : wny w e.1 e.2.1 e.2.2 < 8 := by
        unfold wny wnk
        repeat' split
        all_goals omega
      by_cases hw : wny w e.1 e.2.1 e.2.2 = 0
      · have eu : u = (-6, u.2) := by rw [← hu1]
        have eu2 : u = (u.1, -6, u.2.2) := by rw [← hu2]
        have eg : goR (e :: rest) i u w = goR rest (i + 1) (ntU u i (act w e.1 e.2.1 e.2.2).1) (act w e.1 e.2.1 e.2.2).2 := if_pos hw
        rw [hw, if_pos (show nI 0 ≤ nI 0 by decide), B128_45, mQ_20 hx, ← eu, if_pos (show nI 0 ≤ nI 0 by decide), B128_52, mQ_21 hx, ← eu2, if_neg (not_not_intro (show nI 0 = nI 0 from rfl)), vM_s hx]
        obtain ⟨th2, we2, e2⟩ := s_goOne (hp := sM hp o (mQ x w th1 we1 u)) (iM_s (y := mQ x w th1 we1 u) hx) okq (i := i) (e := e) (by omega) r1 r2 r3 ⟨v1, v2', v3⟩ k1 (by rw [mW_mQ, wny_uO]; exact hw) hix
        have emu : muU (mQ x w th1 we1 u) = u := rfl
        rw [sM_s, mW_mQ, act_uO, emu, mQ_mQ, mQ_uO] at e2
        obtain ⟨th', we', e3⟩ := ih (i + 1) hcs (by omega) (act w e.1 e.2.1 e.2.2).2 th2 we2 (ntU u i (act w e.1 e.2.1 e.2.2).1) (ok_act okw v1 v2' v3 hw) hu1 hu2 (ntU_ix hix) (some (.int (nI 0)))
        refine ⟨th', we', ?_⟩
        rw [e2, er_v, B128_58 (nl_ref _), nI_add, eg, e3]
      · have hpos : ¬ nI (wny w e.1 e.2.1 e.2.2) ≤ nI 0 := nI_ge (by omega) (by omega)
        have hne : ¬ nI (wny w e.1 e.2.1 e.2.2) = nI 0 := fun z => hw ((nI_eq (by omega) (by omega)).mp z)
        have eg : goR (e :: rest) i u w = ((nI i, nI (wny w e.1 e.2.1 e.2.2), u.2.2), w) := if_neg hw
        refine ⟨th1, we1, ?_⟩
        rw [eg, if_neg hpos, B128_45, mQ_20 hx, if_neg hpos, B128_52, mQ_21 hx, if_pos hne, B128_58 (nl_ref _), nI_add, B128_17, gM_17s hx, gM_20s hx]
        have hba2 : (mQ x w th1 we1 ((nI i, u.2).1, nI (wny w e.1 e.2.1 e.2.2), (nI i, u.2).2.2)).2.2.2.2.2.2.2.2.2.2.2.2.2.1 = nI i := rfl
        simp only [hba2]
        rw [if_pos (show nI 0 ≤ nI i from nI_le (Nat.zero_le _) (by omega)), B128_60]
        split <;> rfl
  obtain ⟨th', we', e⟩ := key A 0 rfl (Nat.zero_add _) (mW x) (mth x) x.2.2.2.2.2.2.2.2.1 u0 ok rfl rfl (Or.inl rfl) none
  refine ⟨th', we', ?_⟩
  rw [← e]
  obtain ⟨⟨n, m, t, f, v, h, d⟩, g1, g2, g3, ⟨ki, wh, ot, ac⟩, g5, th, ha, we, fe, wi, od, go, ba, bw, am, aa, aw⟩ := x
  rw [E128, B128_0, pM_20 hx, pM_21s hx, pM_22s hx, pM_23s hx, pM_24s hx]
  rfl
theorem s_refusal (hx : iM hp o x) (ok : okM x) : ∃ x', cl pg 126 [.ref o] hp = q_i (RFn (csM x) (mW x)) (sM hp o x') ∧ kpM x x' ∧ ((RDn (csM x)).1 = none → mW x' = uO (GOn (csM x) (mW x)).2 (fun _ => 0) ∧ muU x' = (GOn (csM x) (mW x)).1 ∧ x'.2.2.2.2.1.2.2.2 = (RDn (csM x)).2.length) := by
  obtain ⟨ok1, ok2, ok3, ⟨ok4, ok5, ok6⟩, ok7, ok8⟩ := ok
  obtain ⟨ha, e1, h1⟩ := s_keepNow hx ok7
  obtain ⟨ki, wh, ot, ac, e2, h2⟩ := s_mfault (x := mH x ha) (iM_s (y := mH x ha) hx) ok4 ok5 ok6
  rw [sM_s] at e2
  obtain ⟨k1, k2, k3⟩ := RDn_ok (csM x)
  have hle : (csM x).length ≤ 60 := by
    rw [List.length_take]
    omega
  rw [E126, B126_0, vM hx, e1, er_v, vM_s hx, e2, er_i]
  unfold RFn
  cases hr : (RDn (csM x)).1 with
  | some pos =>
    have hr' : (rdP ((mH x ha).2.2.2.1.1.take (mH x ha).2.2.2.1.2) 0 0 0 0 []).1 = some pos := hr
    have hpos : ∀ (cs : List Nat) (p aw k a : Nat) (A : List (Nat × Nat × Nat)) (q : Nat), (rdP cs p aw k a A).1 = some q → q ≤ p + cs.length := by
      intro cs
      induction cs with
      | nil =>
        intro p aw k a A q hq
        unfold rdP at hq
        dsimp only at hq
        split at hq
        · cases hq
        · cases hq
          exact Nat.le_refl _
      | cons c cs ih =>
        intro p aw k a A q hq
        unfold rdP at hq
        rw [List.length_cons]
        cases hst : stP aw k a c with
        | none =>
          rw [hst] at hq
          cases hq
          omega
        | some r =>
          obtain ⟨aw', k', a', e⟩ := r
          rw [hst] at hq
          cases e with
          | none =>
            have := ih _ _ _ _ _ _ hq
            omega
          | some e =>
            have := ih _ _ _ _ _ _ hq
            omega
    have hpl := hpos _ _ _ _ _ _ _ hr
    refine ⟨mA (mH x ha) ki wh ot ac, ?_, ⟨rfl, rfl, rfl, rfl, h1, rfl, ok1⟩, fun z => by cases z⟩
    simp only [hr']
    rw [if_neg]
    · rfl
    · show ¬ nI pos < nI 0
      exact nI_nlt (Nat.zero_le _) (by omega)
  | none =>
    have hr' : (rdP ((mH x ha).2.2.2.1.1.take (mH x ha).2.2.2.1.2) 0 0 0 0 []).1 = none := hr
    obtain ⟨h3, h4⟩ := h2 hr'
    obtain ⟨th, we, e3⟩ := s_goDays (x := mA (mH x ha) ki wh ot ac) (iM_s (y := mA (mH x ha) ki wh ot ac) hx) ok1 (A := (RDn (csM x)).2) h3 h4 k1 k2 (Nat.le_trans k3 hle)
    have emw : mW (mA (mH x ha) ki wh ot ac) = mW x := rfl
    rw [sM_s, emw] at e3
    obtain ⟨q1, q2, q3⟩ := goR_ok (RDn (csM x)).2 0 u0 (mW x) ok1 k1 (Or.inl rfl)
    refine ⟨mQ (mA (mH x ha) ki wh ot ac) (goR (RDn (csM x)).2 0 u0 (mW x)).2 th we (goR (RDn (csM x)).2 0 u0 (mW x)).1, ?_, ⟨rfl, rfl, rfl, rfl, h1, q2.symm, q1⟩, fun _ => ⟨rfl, rfl, h3⟩⟩
    simp only [hr']
    rw [if_pos (show (none : Option Nat).elim (-6) nI < nI 0 by decide), vM_s hx, e3, er_v, gM_20s hx]
    simp only [if_true]
    have hn := (ixO_neg q3 (by omega)).1
    show (if (goR (RDn (csM x)).2 0 u0 (mW x)).1.1 < nI 0 then _ else _) = q_i (if (goR (RDn (csM x)).2 0 u0 (mW x)).1.1 = -6 then -6 else -3) _
    by_cases hg : (goR (RDn (csM x)).2 0 u0 (mW x)).1.1 = -6
    · rw [if_pos (hn.mpr hg), if_pos hg, B126_15]
    · rw [if_neg (fun z => hg (hn.mp z)), if_neg hg, B126_15]
/-- behind a refusal, back -/
theorem s_backM {x' : aM} (hx : iM hp o x) (ok : okM x) (hk : kpM x x') (z : Int32) : cl pg 139 [.ref o, .int z] (sM hp o x') = q_i z (sM hp o (mS x' (mW x) (mth x'))) ∧ smM x (mS x' (mW x) (mth x')) := by
  obtain ⟨k1, k2, k3, k4, k5, k6, k7⟩ := hk
  refine ⟨?_, rfl, k1, k2, k3, k4, k5.1⟩
  rw [s_back (iM_s hx) k5 k7 ok.1 k6, sM_s]
end RF
