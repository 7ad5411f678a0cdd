/-! The law: call by call the class answers as the reference. Printed by wip/whole/gen_law.py. -/
def lwS (L : Nat) (f : Nat → Int32) : pE := .inl (3, L, .inl f)
/-- what the heap holds as the law goes on -/
def hG (L : Nat) (f : Nat → Int32) (hp : pH) : Prop := hp[0]? = some (lwS L f) ∧ hp.length = 83 ∧ pm_sz hp = L + 3285 ∧ ∃ x m, Rel x m ∧ iX hp 1 x ∧ iM hp 61 m
def rsL (L : Nat) (X : Option pR) : Prop := ∃ hp', X = q_i (nI 1) hp' ∧ hp'.length = 83 ∧ pm_sz hp' = L + 3285
theorem rdS {hp : pH} {L i j : Nat} {f : Nat → Int32} (h : hp[0]? = some (lwS L f)) (hL : L ≤ 384) (hi : i + j < L) (F : Int32 → Option pR) : qa_i hp 0 3 (nI i + nI j) F = F (f (i + j)) := by
  rw [nI_add, ea_i h (pin_nI hi (by omega)), nI_clamp (by omega)]
theorem rdS0 {hp : pH} {L i : Nat} {f : Nat → Int32} (h : hp[0]? = some (lwS L f)) (hL : L ≤ 384) (hi : i < L) (F : Int32 → Option pR) : qa_i hp 0 3 (nI i) F = F (f i) := by
  rw [ea_i h (pin_nI hi (by omega)), nI_clamp (by omega)]
theorem hs_X {hp : pH} {L : Nat} {f : Nat → Int32} (h : hp[0]? = some (lwS L f)) (x : aX) : (sX hp 1 x)[0]? = some (lwS L f) := by
  rw [wr_other _ _ _ _ (Or.inl (by decide))]
  exact h
theorem hs_M {hp : pH} {L : Nat} {f : Nat → Int32} (h : hp[0]? = some (lwS L f)) (m : aM) : (sM hp 61 m)[0]? = some (lwS L f) := by
  rw [wr_other _ _ _ _ (Or.inl (by decide))]
  exact h
theorem iX_M {hp : pH} {x : aX} (hx : iX hp 1 x) (m : aM) : iX (sM hp 61 m) 1 x := isAt_other hx (Or.inl (Nat.le_refl 61))
theorem hG_next {hp : pH} {L : Nat} {f : Nat → Int32} {x x' : aX} {m m' : aM} (h0 : hp[0]? = some (lwS L f)) (h1 : hp.length = 83) (h2 : pm_sz hp = L + 3285) (hx : iX hp 1 x) (hm : iM hp 61 m) (R : Rel x' m') : hG L f (sM (sX hp 1 x') 61 m') := by
  refine ⟨hs_M (hs_X h0 x') m', ?_, ?_, x', m', R, iX_M (iX_s hx) m', iM_s (iM_X hm x')⟩
  · rw [wr_len, wr_len]
    exact h1
  · rw [wr_sz (cM 61 m) (cM 61 m') _ _ (iM_X hm x') rfl, wr_sz (cX 1 x) (cX 1 x') _ _ hx rfl]
    exact h2
theorem lg_same (z : Int64) : lg_cmp z z = nI 0 := (lg0 z z).mpr rfl
theorem lw_step {hp : pH} {L i : Nat} {f : Nat → Int32} (hL : L ≤ 384) (hi : i + 6 ≤ L) (hg : hG L f hp) (IH : ∀ hp, hG L f hp → rsL L (dn pg 180 10 [some (.ref 0), some (.ref 1), some (.ref 61), some (.int (nI (i + 6)))] [] hp)) : rsL L (dn pg 180 10 [some (.ref 0), some (.ref 1), some (.ref 61), some (.int (nI i))] [] hp) := by
  obtain ⟨h0, h1, h2, x, m, R, hx, hm⟩ := id hg
  have fin : ∀ (x' : aX) (m' : aM), Rel x' m' → rsL L (dn pg 180 641 [some (.ref 0), some (.ref 1), some (.ref 61), some (.int (nI i))] [] (sM (sX hp 1 x') 61 m')) := by
    intro x' m' R'
    rw [B180_641 (nl_ref _), nI_add]
    exact IH _ (hG_next h0 h1 h2 hx hm R')
  have fin0 : rsL L (dn pg 180 641 [some (.ref 0), some (.ref 1), some (.ref 61), some (.int (nI i))] [] hp) := by
    rw [B180_641 (nl_ref _), nI_add]
    exact IH _ hg
  rw [B180_10, en_a h0, show Int32.ofNat L = nI L from rfl, pk_sub (show 6 ≤ L by omega), if_neg (nI_nlt (by omega) (by omega)), rdS0 h0 hL (by omega)]
  by_cases c0 : f i &&& nI 31 = nI 0
  · obtain ⟨z, x', m', e1, e2, R'⟩ := st_one R hx hm (f (i + 1)) (f (i + 2)) (f (i + 3)) (f (i + 4)) (f (i + 5))
    have h0' := hs_X h0 x'
    have hm' := iM_X hm x'
    rw [if_pos c0, rdS h0 hL (j := 1) (by omega), rdS h0 hL (j := 2) (by omega), rdS h0 hL (j := 3) (by omega), rdS h0 hL (j := 4) (by omega), rdS h0 hL (j := 5) (by omega), vX hx, e1, er_i, rdS h0' hL (j := 1) (by omega), rdS h0' hL (j := 2) (by omega), rdS h0' hL (j := 3) (by omega), rdS h0' hL (j := 4) (by omega), rdS h0' hL (j := 5) (by omega), vM hm', e2, er_i, if_pos rfl]
    exact fin x' m' R'
  rw [if_neg c0]
  by_cases c1 : f i &&& nI 31 = nI 1
  · have ee : ∀ b : Bool, (b = true ↔ ¬ f (i + 3) = nI 0) → rsL L (dn pg 180 99 [some (.ref 0), some (.ref 1), some (.ref 61), some (.int (nI i))] [.int (bI b), .int (f (i + 2)), .int (f (i + 1)), .ref 1] hp) := by
      intro b hb
      obtain ⟨z, x', m', e1, e2, R'⟩ := st_treaty R hx hm (f (i + 1)) (f (i + 2)) b
      have h0' := hs_X h0 x'
      have hm' := iM_X hm x'
      have e3 : dn pg 180 120 [some (.ref 0), some (.ref 1), some (.ref 61), some (.int (nI i))] [.int (bI b), .int (f (i + 2)), .int (f (i + 1)), .ref 61, .int z] (sX hp 1 x') = dn pg 180 641 [some (.ref 0), some (.ref 1), some (.ref 61), some (.int (nI i))] [] (sM (sX hp 1 x') 61 m') := by
        rw [B180_120, vM hm', e2, er_i, if_pos rfl]
      rw [B180_99, vX hx, e1, er_i, rdS h0' hL (j := 1) (by omega), rdS h0' hL (j := 2) (by omega), rdS h0' hL (j := 3) (by omega)]
      cases b
      · have hz : f (i + 3) = nI 0 := by
          by_cases q : f (i + 3) = nI 0
          · exact q
          · exact absurd (hb.mpr q) (by decide)
        rw [if_pos hz]
        exact Eq.subst (motive := rsL L) e3.symm (fin x' m' R')
      · rw [if_neg (hb.mp rfl)]
        exact Eq.subst (motive := rsL L) e3.symm (fin x' m' R')
    rw [if_pos c1, rdS h0 hL (j := 1) (by omega), rdS h0 hL (j := 2) (by omega), rdS h0 hL (j := 3) (by omega)]
    by_cases hz : f (i + 3) = nI 0
    · rw [if_pos hz]
      exact ee false ⟨fun q => (by cases q), fun q => absurd hz q⟩
    · rw [if_neg hz]
      exact ee true ⟨fun _ => hz, fun _ => rfl⟩
  rw [if_neg c1]
  by_cases c2 : f i &&& nI 31 = nI 2
  · obtain ⟨z, x', m', e1, e2, R'⟩ := st_hair R hx hm (f (i + 1))
    have h0' := hs_X h0 x'
    have hm' := iM_X hm x'
    rw [if_pos c2, rdS h0 hL (j := 1) (by omega), vX hx, e1, er_i, rdS h0' hL (j := 1) (by omega), vM hm', e2, er_i, if_pos rfl]
    exact fin x' m' R'
  rw [if_neg c2]
  by_cases c3 : f i &&& nI 31 = nI 3
  · obtain ⟨z, x', m', e1, e2, R'⟩ := st_pay R hx hm (f (i + 1)) (f (i + 2)) (f (i + 3))
    have h0' := hs_X h0 x'
    have hm' := iM_X hm x'
    rw [if_pos c3, rdS h0 hL (j := 1) (by omega), rdS h0 hL (j := 2) (by omega), rdS h0 hL (j := 3) (by omega), vX hx, e1, er_i, rdS h0' hL (j := 1) (by omega), rdS h0' hL (j := 2) (by omega), rdS h0' hL (j := 3) (by omega), vM hm', e2, er_i, if_pos rfl]
    exact fin x' m' R'
  rw [if_neg c3]
  by_cases c4 : f i &&& nI 31 = nI 4
  · obtain ⟨z, x', m', e1, e2, R'⟩ := st_say R hx hm (f (i + 1))
    have h0' := hs_X h0 x'
    have hm' := iM_X hm x'
    rw [if_pos c4, rdS h0 hL (j := 1) (by omega), vX hx, e1, er_i, rdS h0' hL (j := 1) (by omega), vM hm', e2, er_i, if_pos rfl]
    exact fin x' m' R'
  rw [if_neg c4]
  by_cases c5 : f i &&& nI 31 = nI 5
  · obtain ⟨z, x', m', e1, e2, R'⟩ := st_wipe R hx hm 
    have h0' := hs_X h0 x'
    have hm' := iM_X hm x'
    rw [if_pos c5, vX hx, e1, er_i, vM hm', e2, er_i, if_pos rfl]
    exact fin x' m' R'
  rw [if_neg c5]
  by_cases c6 : f i &&& nI 31 = nI 6
  · obtain ⟨z, x', m', e1, e2, R'⟩ := st_fault R hx hm 
    have h0' := hs_X h0 x'
    have hm' := iM_X hm x'
    rw [if_pos c6, vX hx, e1, er_i, vM hm', e2, er_i, if_pos rfl]
    exact fin x' m' R'
  rw [if_neg c6]
  by_cases c7 : f i &&& nI 31 = nI 7
  · obtain ⟨z, x', m', e1, e2, R'⟩ := st_judge R hx hm (f (i + 1))
    have h0' := hs_X h0 x'
    have hm' := iM_X hm x'
    rw [if_pos c7, rdS h0 hL (j := 1) (by omega), vX hx, e1, er_i, rdS h0' hL (j := 1) (by omega), vM hm', e2, er_i, if_pos rfl]
    exact fin x' m' R'
  rw [if_neg c7]
  by_cases c8 : f i &&& nI 31 = nI 8
  · obtain ⟨z, x', m', e1, e2, R'⟩ := st_behind R hx hm (f (i + 1)) (f (i + 2))
    have h0' := hs_X h0 x'
    have hm' := iM_X hm x'
    rw [if_pos c8, rdS h0 hL (j := 1) (by omega), rdS h0 hL (j := 2) (by omega), vX hx, e1, er_i, rdS h0' hL (j := 1) (by omega), rdS h0' hL (j := 2) (by omega), vM hm', e2, er_i, if_pos rfl]
    exact fin x' m' R'
  rw [if_neg c8]
  by_cases c9 : f i &&& nI 31 = nI 9
  · obtain ⟨z, x', m', e1, e2, R'⟩ := st_states R hx hm (f (i + 1))
    have h0' := hs_X h0 x'
    have hm' := iM_X hm x'
    rw [if_pos c9, rdS h0 hL (j := 1) (by omega), vX hx, e1, er_i, rdS h0' hL (j := 1) (by omega), vM hm', e2, er_i, if_pos rfl]
    exact fin x' m' R'
  rw [if_neg c9]
  by_cases c10 : f i &&& nI 31 = nI 10
  · obtain ⟨z, x', m', e1, e2, R'⟩ := st_annexed R hx hm (f (i + 1))
    have h0' := hs_X h0 x'
    have hm' := iM_X hm x'
    rw [if_pos c10, rdS h0 hL (j := 1) (by omega), vX hx, e1, er_i, rdS h0' hL (j := 1) (by omega), vM hm', e2, er_i, if_pos rfl]
    exact fin x' m' R'
  rw [if_neg c10]
  by_cases c11 : f i &&& nI 31 = nI 11
  · obtain ⟨z, x', m', e1, e2, R'⟩ := st_done R hx hm 
    have h0' := hs_X h0 x'
    have hm' := iM_X hm x'
    rw [if_pos c11, vX hx, e1, er_i, vM hm', e2, er_i, if_pos rfl]
    exact fin x' m' R'
  rw [if_neg c11]
  by_cases c12 : f i &&& nI 31 = nI 12
  · obtain ⟨z, x', m', e1, e2, R'⟩ := st_sees R hx hm (f (i + 1)) (f (i + 2))
    have h0' := hs_X h0 x'
    have hm' := iM_X hm x'
    rw [if_pos c12, rdS h0 hL (j := 1) (by omega), rdS h0 hL (j := 2) (by omega), vX hx, e1, er_i, rdS h0' hL (j := 1) (by omega), rdS h0' hL (j := 2) (by omega), vM hm', e2, er_i, if_pos rfl]
    exact fin x' m' R'
  rw [if_neg c12]
  by_cases c13 : f i &&& nI 31 = nI 13
  · obtain ⟨z, x', m', e1, e2, R'⟩ := st_camps R hx hm (f (i + 1))
    have h0' := hs_X h0 x'
    have hm' := iM_X hm x'
    rw [if_pos c13, rdS h0 hL (j := 1) (by omega), vX hx, e1, er_i, rdS h0' hL (j := 1) (by omega), vM hm', e2, er_i, if_pos rfl]
    exact fin x' m' R'
  rw [if_neg c13]
  by_cases c14 : f i &&& nI 31 = nI 14
  · obtain ⟨z, x', m', e1, e2, R'⟩ := st_late R hx hm (f (i + 1))
    have h0' := hs_X h0 x'
    have hm' := iM_X hm x'
    rw [if_pos c14, rdS h0 hL (j := 1) (by omega), vX hx, e1, er_i, rdS h0' hL (j := 1) (by omega), vM hm', e2, er_i, if_pos rfl]
    exact fin x' m' R'
  rw [if_neg c14]
  by_cases c15 : f i &&& nI 31 = nI 15
  · obtain ⟨z, x', m', e1, e2, R'⟩ := st_stamps R hx hm (f (i + 1)) (f (i + 2)) (f (i + 3)) (f (i + 4)) (f (i + 5))
    have h0' := hs_X h0 x'
    have hm' := iM_X hm x'
    rw [if_pos c15, rdS h0 hL (j := 1) (by omega), rdS h0 hL (j := 2) (by omega), rdS h0 hL (j := 3) (by omega), rdS h0 hL (j := 4) (by omega), rdS h0 hL (j := 5) (by omega), vX hx, e1, er_i, rdS h0' hL (j := 1) (by omega), rdS h0' hL (j := 2) (by omega), rdS h0' hL (j := 3) (by omega), rdS h0' hL (j := 4) (by omega), rdS h0' hL (j := 5) (by omega), vM hm', e2, er_i, if_pos rfl]
    exact fin x' m' R'
  rw [if_neg c15]
  by_cases c16 : f i &&& nI 31 = nI 16
  · have ee : ∀ b : Bool, (b = true ↔ ¬ f (i + 2) = nI 0) → rsL L (dn pg 180 427 [some (.ref 0), some (.ref 1), some (.ref 61), some (.int (nI i))] [.int (bI b), .int (f (i + 1)), .ref 1] hp) := by
      intro b hb
      obtain ⟨z, x', m', e1, e2, R'⟩ := st_seen R hx hm (f (i + 1)) b
      have h0' := hs_X h0 x'
      have hm' := iM_X hm x'
      have e3 : dn pg 180 443 [some (.ref 0), some (.ref 1), some (.ref 61), some (.int (nI i))] [.int (bI b), .int (f (i + 1)), .ref 61, .int z] (sX hp 1 x') = dn pg 180 641 [some (.ref 0), some (.ref 1), some (.ref 61), some (.int (nI i))] [] (sM (sX hp 1 x') 61 m') := by
        rw [B180_443, vM hm', e2, er_i, if_pos rfl]
      rw [B180_427, vX hx, e1, er_i, rdS h0' hL (j := 1) (by omega), rdS h0' hL (j := 2) (by omega)]
      cases b
      · have hz : f (i + 2) = nI 0 := by
          by_cases q : f (i + 2) = nI 0
          · exact q
          · exact absurd (hb.mpr q) (by decide)
        rw [if_pos hz]
        exact Eq.subst (motive := rsL L) e3.symm (fin x' m' R')
      · rw [if_neg (hb.mp rfl)]
        exact Eq.subst (motive := rsL L) e3.symm (fin x' m' R')
    rw [if_pos c16, rdS h0 hL (j := 1) (by omega), rdS h0 hL (j := 2) (by omega)]
    by_cases hz : f (i + 2) = nI 0
    · rw [if_pos hz]
      exact ee false ⟨fun q => (by cases q), fun q => absurd hz q⟩
    · rw [if_neg hz]
      exact ee true ⟨fun _ => hz, fun _ => rfl⟩
  rw [if_neg c16]
  by_cases c17 : f i &&& nI 31 = nI 17
  · obtain ⟨z, x', m', e1, e2, R'⟩ := st_forget R hx hm 
    have h0' := hs_X h0 x'
    have hm' := iM_X hm x'
    rw [if_pos c17, vX hx, e1, er_i, vM hm', e2, er_i, if_pos rfl]
    exact fin x' m' R'
  rw [if_neg c17]
  by_cases c18 : f i &&& nI 31 = nI 18
  · obtain ⟨z, x', m', e1, e2, R'⟩ := st_fits R hx hm (f (i + 1))
    have h0' := hs_X h0 x'
    have hm' := iM_X hm x'
    rw [if_pos c18, rdS h0 hL (j := 1) (by omega), vX hx, e1, er_i, rdS h0' hL (j := 1) (by omega), vM hm', e2, er_i, if_pos rfl]
    exact fin x' m' R'
  rw [if_neg c18]
  by_cases c19 : f i &&& nI 31 = nI 19
  · obtain ⟨z, x', m', e1, e2, R'⟩ := st_ask R hx hm (f (i + 1))
    have h0' := hs_X h0 x'
    have hm' := iM_X hm x'
    rw [if_pos c19, rdS h0 hL (j := 1) (by omega), vX hx, e1, er_i, rdS h0' hL (j := 1) (by omega), vM hm', e2, er_i, if_pos rfl]
    exact fin x' m' R'
  rw [if_neg c19]
  by_cases c20 : f i &&& nI 31 = nI 20
  · obtain ⟨z, x', m', e1, e2, R'⟩ := st_lift R hx hm (f (i + 1))
    have h0' := hs_X h0 x'
    have hm' := iM_X hm x'
    rw [if_pos c20, rdS h0 hL (j := 1) (by omega), vX hx, e1, er_i, rdS h0' hL (j := 1) (by omega), vM hm', e2, er_i, if_pos rfl]
    exact fin x' m' R'
  rw [if_neg c20]
  by_cases c21 : f i &&& nI 31 = nI 21
  · obtain ⟨z, x', m', e1, e2, R'⟩ := st_votes R hx hm (f (i + 1)) (f (i + 2)) (f (i + 3)) (f (i + 4))
    have h0' := hs_X h0 x'
    have hm' := iM_X hm x'
    rw [if_pos c21, rdS h0 hL (j := 1) (by omega), rdS h0 hL (j := 2) (by omega), rdS h0 hL (j := 3) (by omega), rdS h0 hL (j := 4) (by omega), vX hx, e1, er_l, rdS h0' hL (j := 1) (by omega), rdS h0' hL (j := 2) (by omega), rdS h0' hL (j := 3) (by omega), rdS h0' hL (j := 4) (by omega), vM hm', e2, er_l, if_pos (lg_same z)]
    exact fin x' m' R'
  rw [if_neg c21]
  by_cases c22 : f i &&& nI 31 = nI 22
  · obtain ⟨z, x', m', e1, e2, R'⟩ := st_year R hx hm (f (i + 1)) (f (i + 2)) (f (i + 3))
    have h0' := hs_X h0 x'
    have hm' := iM_X hm x'
    rw [if_pos c22, rdS h0 hL (j := 1) (by omega), rdS h0 hL (j := 2) (by omega), rdS h0 hL (j := 3) (by omega), vX hx, e1, er_i, rdS h0' hL (j := 1) (by omega), rdS h0' hL (j := 2) (by omega), rdS h0' hL (j := 3) (by omega), vM hm', e2, er_i, if_pos rfl]
    exact fin x' m' R'
  rw [if_neg c22]
  by_cases c23 : f i &&& nI 31 = nI 23
  · obtain ⟨z, x', m', e1, e2, R'⟩ := st_image R hx hm (f (i + 1))
    have h0' := hs_X h0 x'
    have hm' := iM_X hm x'
    rw [if_pos c23, rdS h0 hL (j := 1) (by omega), vX hx, e1, er_i, rdS h0' hL (j := 1) (by omega), vM hm', e2, er_i, if_pos rfl]
    exact fin x' m' R'
  rw [if_neg c23]
  by_cases c24 : f i &&& nI 31 = nI 24
  · obtain ⟨z, x', m', e1, e2, R'⟩ := st_restore R hx hm (f (i + 1))
    have h0' := hs_X h0 x'
    have hm' := iM_X hm x'
    rw [if_pos c24, rdS h0 hL (j := 1) (by omega), vX hx, e1, er_i, rdS h0' hL (j := 1) (by omega), vM hm', e2, er_i, if_pos rfl]
    exact fin x' m' R'
  rw [if_neg c24]
  by_cases c25 : f i &&& nI 31 = nI 25
  · obtain ⟨z, x', m', e1, e2, R'⟩ := st_told R hx hm (f (i + 1))
    have h0' := hs_X h0 x'
    have hm' := iM_X hm x'
    rw [if_pos c25, rdS h0 hL (j := 1) (by omega), vX hx, e1, er_i, rdS h0' hL (j := 1) (by omega), vM hm', e2, er_i, if_pos rfl]
    exact fin x' m' R'
  rw [if_neg c25]
  exact fin0
theorem lw_stop {hp : pH} {L i : Nat} {f : Nat → Int32} (hL : L ≤ 384) (hi : ¬ i + 6 ≤ L) (hi2 : i ≤ 1000) (hg : hG L f hp) : rsL L (dn pg 180 10 [some (.ref 0), some (.ref 1), some (.ref 61), some (.int (nI i))] [] hp) := by
  obtain ⟨h0, h1, h2, _⟩ := hg
  have hlt : nI L - nI 6 < nI i := by
    rw [Int32.lt_iff_toInt_lt, nI_toInt (by omega)]
    by_cases h6 : 6 ≤ L
    · rw [pk_sub h6, nI_toInt (by omega)]
      omega
    · have : ∀ l, l < 6 → (nI l - nI 6).toInt = (l : Int) - 6 := by decide
      rw [this L (by omega)]
      omega
  rw [B180_10, en_a h0, show Int32.ofNat L = nI L from rfl, if_pos hlt, ez1]
  exact ⟨hp, rfl, h1, h2⟩
theorem lw_loop {L : Nat} {f : Nat → Int32} (hL : L ≤ 384) : ∀ k i, L ≤ i + 6 * k → i ≤ 390 → ∀ hp, hG L f hp → rsL L (dn pg 180 10 [some (.ref 0), some (.ref 1), some (.ref 61), some (.int (nI i))] [] hp)
  | 0, i, hk, hi, hp, hg => lw_stop hL (by omega) (by omega) hg
  | k + 1, i, hk, hi, hp, hg => by
    by_cases h : i + 6 ≤ L
    · exact lw_step hL h hg (fun hp' hg' => lw_loop hL k (i + 6) (by omega) (by omega) hp' hg')
    · exact lw_stop hL h (by omega) hg
theorem hG_0 (L : Nat) (f : Nat → Int32) : hG L f (([lwS L f] ++ cX 1 x0_) ++ cM 61 m0_) := by
  refine ⟨rfl, rfl, ?_, x0_, m0_, Rel_0, ?_, ?_⟩
  · rfl
  · exact (isAt_app.mp (isAt_app.mp (show isAt ([lwS L f] ++ (cX 1 x0_ ++ cM 61 m0_)) 0 ([lwS L f] ++ (cX 1 x0_ ++ cM 61 m0_)) from isAt_pre [] _)).2).1
  · exact isAt_pre ([lwS L f] ++ cX 1 x0_) (cM 61 m0_)
/-- the law's run -/
theorem lw_run {L : Nat} {f : Nat → Int32} (hL : L ≤ 384) : rsL L (cl pg 180 [.ref 0] [lwS L f]) := by
  have e1 := n_X [lwS L f]
  have e2 := n_M ([lwS L f] ++ cX 1 x0_)
  have l2 : ([lwS L f] ++ cX 1 x0_).length = 61 := rfl
  have l1 : [lwS L f].length = 1 := rfl
  rw [l1] at e1
  rw [l2] at e2
  have v1 := vA [lwS L f] 8 [.null, .null, .null, .null, .null, .null, .null, .null]
  have v2 := vA ([lwS L f] ++ cX 1 x0_) 9 [.null, .null, .null, .null, .int 0, .int 0, .int 0, .null, .null, .null, .null, .int 0, .null, .int 0, .null, .null, .null, .int 0, .null, .null, .int 0, .int 0, .int 0, .int 0, .int 0, .null, .null, .null, .null, .null, .null, .null, .int 0, .int 0]
  rw [l1] at v1
  rw [l2] at v2
  rw [E180, B180_0 (nl_ref _), l1, v1, e1, er_v, l2, v2, e2, er_v]
  exact lw_loop hL 70 0 (by omega) (by omega) _ (hG_0 L f)
