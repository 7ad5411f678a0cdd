/-! The reference goes through the days, and back. -/
abbrev mhd (x : aM) : List Nat := x.2.2.2.2.2.2.2.1
abbrev muU (x : aM) : aU := x.2.2.2.2.2.2.2.2.2.2.2.2.2
abbrev mH (x : aM) (ha : List Nat) : aM := (x.1, x.2.1, x.2.2.1, x.2.2.2.1, x.2.2.2.2.1, x.2.2.2.2.2.1, x.2.2.2.2.2.2.1, ha, x.2.2.2.2.2.2.2.2)
/-- world, what stands for then and were, and the course replaced -/
def mQ (x : aM) (w : aW) (th we : Nat → Int32) (u : aU) : aM := ((w.1, w.2.1, w.2.2.1, w.2.2.2.1, w.2.2.2.2.2), x.2.1, x.2.2.1, x.2.2.2.1, x.2.2.2.2.1, x.2.2.2.2.2.1, th, x.2.2.2.2.2.2.2.1, we, x.2.2.2.2.2.2.2.2.2.1, x.2.2.2.2.2.2.2.2.2.2.1, x.2.2.2.2.2.2.2.2.2.2.2.1, x.2.2.2.2.2.2.2.2.2.2.2.2.1, u)
def hdP (ha : List Nat) (w : aW) : Prop := ha.length = 27 ∧ (∀ j, j < 8 → ha.getD j 0 = w.1.getD j 0 ∧ ha.getD (8 + j) 0 = w.2.2.1.getD j 0 ∧ ha.getD (16 + j) 0 = w.2.2.2.1.getD j 0) ∧ ha.getD 24 0 = w.2.2.2.2.2.1 ∧ ha.getD 25 0 = w.2.2.2.2.2.2.1 ∧ ha.getD 26 0 = w.2.2.2.2.2.2.2
theorem gset {l : List Nat} {n i j y : Nat} (hl : l.length = n) (hi : i < n) : (l.set i y).getD j 0 = if j = i then y else l.getD j 0 := getD_set _ _ _ _ _ (by omega)
section KN
variable {hp : pH} {o : Nat} {x : aM}
theorem s_keepNow (hx : iM hp o x) (hl : (mhd x).length = 27) : ∃ ha, cl pg 127 [.ref o] hp = q_v (sM hp o (mH x ha)) ∧ hdP ha (mW x) := by
  obtain ⟨⟨n, m, t, f, v, h, d⟩, g1, g2, g3, g4, g5, th, ha, we, fe, wi, od, go, u⟩ := x
  have key : ∀ k i, i + k = 8 → ∀ ha1 : List Nat, ha1.length = 27 → (∀ j, j < i → ha1.getD j 0 = n.getD j 0 ∧ ha1.getD (8 + j) 0 = t.getD j 0 ∧ ha1.getD (16 + j) 0 = f.getD j 0) → ∃ ha', dn pg 127 2 [some (.ref o), some (.int (nI i))] [] (sM hp o ((n, m, t, f, v, h, d), g1, g2, g3, g4, g5, th, ha1, we, fe, wi, od, go, u)) = q_v (sM hp o ((n, m, t, f, v, h, d), g1, g2, g3, g4, g5, th, ha', we, fe, wi, od, go, u)) ∧ hdP ha' (n, m, t, f, (fun _ => 0), v, h, d) := by
    intro k
    induction k with
    | zero =>
      intro i hi ha1 h1 h2
      have : i = 8 := by omega
      subst this
      have l1 : (ha1.set 24 v).length = 27 := by rw [List.length_set]; exact h1
      have l2 : ((ha1.set 24 v).set 25 h).length = 27 := by rw [List.length_set]; exact l1
      have l3 : (((ha1.set 24 v).set 25 h).set 26 d).length = 27 := by rw [List.length_set]; exact l2
      refine ⟨((ha1.set 24 v).set 25 h).set 26 d, ?_, l3, ?_, ?_, ?_, ?_⟩
      · rw [B127_2, if_pos (by decide), gM_19s hx, gM_4s hx]
        dsimp only
        rw [wM_has hx (i := 24) (by omega) h1, gM_19s hx, gM_5s hx]
        dsimp only
        rw [wM_has hx (i := 25) (by omega) l1, gM_19s hx, gM_6s hx]
        dsimp only
        rw [wM_has hx (i := 26) (by omega) l2]
      · intro j hj
        dsimp only
        rw [gset l2 (by omega), gset l2 (by omega), gset l2 (by omega), gset l1 (by omega), gset l1 (by omega), gset l1 (by omega), gset h1 (by omega), gset h1 (by omega), gset h1 (by omega)]
        rw [if_neg (by omega), if_neg (by omega), if_neg (by omega), if_neg (by omega), if_neg (by omega), if_neg (by omega), if_neg (by omega), if_neg (by omega), if_neg (by omega)]
        exact h2 j hj
      · rw [gset l2 (by omega), gset l1 (by omega), gset h1 (by omega), if_neg (by omega), if_neg (by omega), if_pos rfl]
      · rw [gset l2 (by omega), gset l1 (by omega), if_neg (by omega), if_pos rfl]
      · rw [gset l2 (by omega), if_pos rfl]
    | succ k ih =>
      intro i hi ha1 h1 h2
      have l1 : (ha1.set i (n.getD i 0)).length = 27 := by rw [List.length_set]; exact h1
      have l2 : ((ha1.set i (n.getD i 0)).set (8 + i) (t.getD i 0)).length = 27 := by rw [List.length_set]; exact l1
      have l3 : (((ha1.set i (n.getD i 0)).set (8 + i) (t.getD i 0)).set (16 + i) (f.getD i 0)).length = 27 := by rw [List.length_set]; exact l2
      obtain ⟨ha', e, h3⟩ := ih (i + 1) (by omega) _ l3 (by
        intro j hj
        rw [gset l2 (by omega), gset l2 (by omega), gset l2 (by omega), gset l1 (by omega), gset l1 (by omega), gset l1 (by omega), gset h1 (by omega), gset h1 (by omega), gset h1 (by omega)]
        by_cases hq : j = i
        · subst hq
          refine ⟨?_, ?_, ?_⟩
          · rw [if_neg (by omega), if_neg (by omega), if_pos rfl]
          · rw [if_neg (by omega), if_pos rfl]
          · rw [if_pos rfl]
        · rw [if_neg (by omega), if_neg (by omega), if_neg hq, if_neg (by omega), if_neg (by omega), if_neg (by omega), if_neg (by omega), if_neg (by omega), if_neg (by omega)]
          exact h2 j (by omega))
      refine ⟨ha', ?_, h3⟩
      rw [B127_2, if_neg (nI_ge (by omega) (by omega)), gM_19s hx, gM_0s hx, rM_ns hx _ (i := i) (by omega)]
      dsimp only
      rw [wM_has hx (i := i) (by omega) h1, gM_19s hx, gM_2s hx, rM_ts hx _ (i := i) (by omega)]
      dsimp only
      rw [nI_add 8 i, wM_has hx (i := 8 + i) (by omega) l1, gM_19s hx, gM_3s hx, rM_fs hx _ (i := i) (by omega)]
      dsimp only
      rw [nI_add 16 i, wM_has hx (i := 16 + i) (by omega) l2, nI_add i 1]
      exact e
  obtain ⟨ha', e, h3⟩ := key 8 0 rfl ha hl (fun j hj => absurd hj (Nat.not_lt_zero _))
  rw [sM_i hx] at e
  refine ⟨ha', ?_, h3⟩
  rw [E127, B127_0 (nl_ref _)]
  exact e
theorem s_back {y : aW} (hx : iM hp o x) (hh : hdP (mhd x) y) (ok : okW (mW x)) (oy : okW y) (hm : y.2.1 = (mW x).2.1) (z : Int32) : cl pg 139 [.ref o, .int z] hp = q_i z (sM hp o (mS x y (mth x))) := by
  obtain ⟨⟨n, m, t, f, v, h, d⟩, g1, g2, g3, g4, g5, th, ha, we, fe, wi, od, go, u⟩ := x
  obtain ⟨n', m', t', f', fo', v', h', d'⟩ := y
  obtain ⟨⟨l1, _, l3, l4⟩, _⟩ := ok
  obtain ⟨⟨k1, _, k3, k4⟩, _⟩ := oy
  obtain ⟨hl, h1, h2, h3, h4⟩ := hh
  dsimp only [mW] at l1 l3 l4 k1 k3 k4 hl h1 h2 h3 h4 hm
  subst hm
  have key : ∀ k i, i + k = 8 → dn pg 139 2 [some (.ref o), some (.int z), some (.int (nI i))] [] (sM hp o ((cpL n n' i, m', cpL t t' i, cpL f f' i, v, h, d), g1, g2, g3, g4, g5, th, ha, we, fe, wi, od, go, u)) = q_i z (sM hp o ((n', m', t', f', v', h', d'), g1, g2, g3, g4, g5, th, ha, we, fe, wi, od, go, u)) := by
    intro k
    induction k with
    | zero =>
      intro i hi
      have : i = 8 := by omega
      subst this
      rw [B139_2, if_pos (by decide), gM_19s hx, rM_has hx _ (i := 24) (by omega)]
      dsimp only
      rw [h2, pM_4s hx, gM_19s hx, rM_has hx _ (i := 25) (by omega)]
      dsimp only
      rw [h3, pM_5s hx, gM_19s hx, rM_has hx _ (i := 26) (by omega)]
      dsimp only
      rw [h4, pM_6s hx, cpL_n l1 k1, cpL_n l3 k3, cpL_n l4 k4]
    | succ k ih =>
      intro i hi
      have hi8 : i < 8 := by omega
      obtain ⟨e1, e2, e3⟩ := h1 i hi8
      rw [B139_2, if_neg (nI_ge (by omega) (by omega)), gM_0s hx, gM_19s hx, rM_has hx _ (i := i) (by omega)]
      dsimp only
      rw [e1, wM_ns hx hi8 (cpL_len l1 k1 (by omega)), gM_2s hx, gM_19s hx, nI_add 8 i, rM_has hx _ (i := 8 + i) (by omega)]
      dsimp only
      rw [e2, wM_ts hx hi8 (cpL_len l3 k3 (by omega)), gM_3s hx, gM_19s hx, nI_add 16 i, rM_has hx _ (i := 16 + i) (by omega)]
      dsimp only
      rw [e3, wM_fs hx hi8 (cpL_len l4 k4 (by omega)), cpL_set l1 k1 hi8, cpL_set l3 k3 hi8, cpL_set l4 k4 hi8, nI_add i 1]
      exact ih (i + 1) (by omega)
  rw [E139, B139_0 (nl_int _)]
  have := key 8 0 rfl
  rw [cpL_0, cpL_0, cpL_0, sM_i hx] at this
  exact this
end KN
-- what a change of nations is
def lpC (tk : Nat) : Nat → Nat
  | 0 => 0
  | k + 1 => lpC tk k + (if hs tk k = true then 1 else 0)
def lpF (tk : Nat) : Nat → Option Nat
  | 0 => none
  | k + 1 => (lpF tk k).elim (if hs tk k = true then some k else none) some
theorem lp_8 : ∀ tk, tk < 256 → lpC tk 8 = pop tk ∧ lpF tk 8 = if tk = 0 then none else some (low tk) := by decide +kernel
theorem hs_2 : ∀ i, i < 8 → ∀ j, j < 8 → hs (2 ^ i) j = decide (j = i) := by decide +kernel
theorem hs_0 (j : Nat) : hs 0 j = false := by unfold hs; exact Nat.zero_testBit j
theorem tkd_bit (w : aW) (j : Nat) (hj : j < 8) : ∀ k, k ≤ 8 → hs (tkd w k) j = (decide (j < k) && !decide (pd w j = w.1.getD j 0))
  | 0, _ => by
    show hs 0 j = _
    rw [hs_0]
    simp
  | k + 1, hk => by
    have ih := tkd_bit w j hj k (by omega)
    have e : hs (tkd w (k + 1)) j = (hs (tkd w k) j || hs (if pd w k = w.1.getD k 0 then 0 else 2 ^ k) j) := Nat.testBit_or _ _ _
    rw [e, ih]
    by_cases hjk : j = k
    · subst hjk
      by_cases hp : pd w j = w.1.getD j 0
      · rw [if_pos hp, hs_0]
        simp [hp]
      · rw [if_neg hp, hs_2 j hj j hj]
        simp [-List.getD_eq_getElem?_getD, hp]
    · have e2 : decide (j < k + 1) = decide (j < k) := decide_eq_decide.mpr (by omega)
      rw [e2]
      split
      · rw [hs_0, Bool.or_false]
      · rw [hs_2 k (by omega) j hj]
        simp [hjk]
/-- an act's bits are those whose nation it changed -/
theorem act_bit {w : aW} (ok : okW w) {k a b : Nat} (ha : a < 8) (hb : b < 8 ∨ k = 6) (j : Nat) (hj : j < 8) : hs (act w k a b).1 j = !decide ((act w k a b).2.1.getD j 0 = w.1.getD j 0) := by
  have same : ∀ w' : aW, w'.1 = w.1 → hs 0 j = !decide (w'.1.getD j 0 = w.1.getD j 0) := by
    intro w' h
    rw [h, hs_0]
    simp
  unfold act
  split
  · exact same _ rfl
  split
  · exact same _ rfl
  split
  · have hb : b < 8 := by omega
    show hs (tkb w b (w.1.getD a 0)) j = !decide ((w.1.set b (w.1.getD a 0)).getD j 0 = w.1.getD j 0)
    rw [gset ok.1.1 hb]
    unfold tkb
    by_cases hq : w.1.getD b 0 = w.1.getD a 0
    · rw [if_pos hq, hs_0]
      by_cases hjb : j = b
      · rw [if_pos hjb, hjb, hq]
        simp
      · rw [if_neg hjb]
        simp
    · rw [if_neg hq, hs_2 b hb j hj]
      by_cases hjb : j = b
      · rw [if_pos hjb, hjb]
        have : ¬ w.1.getD a 0 = w.1.getD b 0 := fun z => hq z.symm
        simp only [this, decide_true, decide_false, Bool.not_false]
      · rw [if_neg hjb]
        simp [hjb]
  split
  · exact same _ rfl
  split
  · exact same _ rfl
  split
  · exact same _ rfl
  split
  · show hs (tkd w 8) j = !decide ((dyN w 8).getD j 0 = w.1.getD j 0)
    rw [tkd_bit w j hj 8 (Nat.le_refl _), dyN_get hj, if_pos hj]
    simp [hj]
  split
  · exact same _ rfl
  · exact same _ rfl
theorem act_mesh (w : aW) (k a b : Nat) : (act w k a b).2.2.1 = w.2.1 := by
  unfold act
  split
  · rfl
  split
  · rfl
  split
  · rfl
  split
  · rfl
  split
  · rfl
  split
  · rfl
  split
  · rfl
  split
  · rfl
  · rfl
theorem act_fo (w : aW) (k a b : Nat) : (act w k a b).2.2.2.2.2.1 = w.2.2.2.2.1 := by
  unfold act
  split
  · rfl
  split
  · rfl
  split
  · rfl
  split
  · rfl
  split
  · rfl
  split
  · rfl
  split
  · rfl
  split
  · rfl
  · rfl
theorem act_uO (w : aW) (k a b : Nat) (fo : Nat → Int32) : act (uO w fo) k a b = ((act w k a b).1, uO (act w k a b).2 fo) := by
  unfold act
  split
  · rfl
  split
  · rfl
  split
  · rfl
  split
  · rfl
  split
  · rfl
  split
  · rw [show gsv (uO w fo) b 8 = gsv w b 8 from rfl]
    rfl
  split
  · rw [show dyN (uO w fo) 8 = dyN w 8 from rfl, show tkd (uO w fo) 8 = tkd w 8 from rfl]
    rfl
  split
  · rfl
  · rfl
theorem wny_uO (w : aW) (k a b : Nat) (fo : Nat → Int32) : wny (uO w fo) k a b = wny w k a b := rfl
theorem goR_uO (fo : Nat → Int32) : ∀ (A : List (Nat × Nat × Nat)) (i : Nat) (u : aU) (w : aW), goR A i u (uO w fo) = ((goR A i u w).1, uO (goR A i u w).2 fo)
  | [], _, _, _ => rfl
  | e :: r, i, u, w => by
    unfold goR
    rw [wny_uO]
    split
    · rw [act_uO]
      exact goR_uO fo r _ _ _
    · rfl
/-- where an index stands, or none -/
def ixO (z : Int32) (n : Nat) : Prop := z = -6 ∨ ∃ j, j < n ∧ z = nI j
theorem ixO_le {z : Int32} {m n : Nat} (h : ixO z m) (hm : m ≤ n) : ixO z n := by
  rcases h with h | ⟨j, h1, h2⟩
  · exact Or.inl h
  · exact Or.inr ⟨j, by omega, h2⟩
theorem ixO_neg {z : Int32} {n : Nat} (h : ixO z n) (hn : n < 2 ^ 30) : (z < nI 0) = (z = -6) ∧ (nI 0 ≤ z) = (¬ z = -6) := by
  rcases h with h | ⟨j, h1, h2⟩
  · subst h
    exact ⟨by simp only [eq_iff_iff, iff_true]; decide, by simp only [not_true_eq_false, eq_iff_iff, iff_false]; decide⟩
  · subst h2
    have n6 : ¬ nI j = -6 := nI_ne6 (by omega)
    refine ⟨?_, ?_⟩
    · simp only [n6, eq_iff_iff, iff_false]
      exact nI_nlt (Nat.zero_le _) (by omega)
    · simp only [n6, not_false_eq_true, eq_iff_iff, iff_true]
      exact nI_le (Nat.zero_le _) (by omega)
theorem ntU_ix {u : aU} {i tk : Nat} (h : ixO u.2.2.2.1 i) : ixO (ntU u i tk).2.2.2.1 (i + 1) := by
  unfold ntU
  dsimp only
  split
  · exact Or.inr ⟨i, by omega, rfl⟩
  · exact ixO_le h (by omega)
theorem goR_ok : ∀ (A : List (Nat × Nat × Nat)) (i : Nat) (u : aU) (w : aW), okW w → (∀ e ∈ A, vAct e) → ixO u.1 i → okW (goR A i u w).2 ∧ (goR A i u w).2.2.1 = w.2.1 ∧ ixO (goR A i u w).1.1 (i + A.length)
  | [], i, u, w, ok, _, hu => ⟨ok, rfl, hu⟩
  | e :: r, i, u, w, ok, hA, hu => by
    have hv := hA e (List.mem_cons_self ..)
    unfold goR
    by_cases hw : wny w e.1 e.2.1 e.2.2 = 0
    · rw [if_pos hw]
      obtain ⟨h1, h2, h3⟩ := goR_ok r (i + 1) (ntU u i (act w e.1 e.2.1 e.2.2).1) (act w e.1 e.2.1 e.2.2).2 (ok_act ok hv.1 hv.2.1 hv.2.2 hw) (fun q hq => hA q (List.mem_cons_of_mem _ hq)) (ixO_le hu (by omega))
      refine ⟨h1, h2.trans (act_mesh _ _ _ _), ?_⟩
      rw [List.length_cons]
      rw [show i + (r.length + 1) = i + 1 + r.length by omega]
      exact h3
    · rw [if_neg hw]
      exact ⟨ok, rfl, Or.inr ⟨i, by rw [List.length_cons]; omega, rfl⟩⟩
section GO
variable {hp : pH} {o : Nat} {x : aM}
theorem s_goOne (hx : iM hp o x) (ok : okW (mW x)) {i : Nat} {e : Nat × Nat × Nat} (hi : i < 60) (hk : x.2.2.2.2.1.1 i = nI (mkN e.1)) (hwh : x.2.2.2.2.1.2.1 i = nI e.2.1) (hot : x.2.2.2.2.1.2.2.1 i = nI e.2.2) (hv : vAct e) (h1 : 1 ≤ e.1) (hw : wny (mW x) e.1 e.2.1 e.2.2 = 0) (hu : ixO (muU x).2.2.2.1 i) : ∃ th we, cl pg 132 [.ref o, .int (nI i)] hp = q_v (sM hp o (mQ x (act (mW x) e.1 e.2.1 e.2.2).2 th we (ntU (muU x) i (act (mW x) e.1 e.2.1 e.2.2).1))) := by
  obtain ⟨k, a, b⟩ := e
  obtain ⟨v1, v2, v3⟩ := hv
  dsimp only at hk hwh hot v1 v2 v3 h1 hw
  obtain ⟨ck1, ck2, ck3⟩ := ck_mk k v1 h1
  obtain ⟨⟨n, m, t, f, v, h, d⟩, g1, g2, g3, ⟨ki, wh, ot, ac⟩, g5, th, ha, we, fe, wi, od, go, ba, bw, am, aa, aw⟩ := x
  dsimp only at hk hwh hot hu
  -- were
  have fst : ∀ q j, j + q = 8 → ∀ we1 : Nat → Int32, (∀ l, l < j → we1 l = nI (n.getD l 0)) → ∃ we', (∀ l, l < 8 → we' l = nI (n.getD l 0)) ∧ dn pg 132 2 [some (.ref o), some (.int (nI i)), some (.int (nI j)), none] [] (sM hp o ((n, m, t, f, v, h, d), g1, g2, g3, (ki, wh, ot, ac), g5, th, ha, we1, fe, wi, od, go, ba, bw, am, aa, aw)) = dn pg 132 2 [some (.ref o), some (.int (nI i)), some (.int (nI 8)), none] [] (sM hp o ((n, m, t, f, v, h, d), g1, g2, g3, (ki, wh, ot, ac), g5, th, ha, we', fe, wi, od, go, ba, bw, am, aa, aw)) := by
    intro q
    induction q with
    | zero =>
      intro j hj we1 hwe
      have : j = 8 := by omega
      subst this
      exact ⟨we1, hwe, rfl⟩
    | succ q ih =>
      intro j hj we1 hwe
      obtain ⟨we', hh, e⟩ := ih (j + 1) (by omega) (upd we1 j (nI (n.getD j 0))) (by
        intro l hl
        by_cases hq : l = j
        · rw [hq, pk_us]
        · rw [pk_un hq]
          exact hwe l (by omega))
      refine ⟨we', hh, ?_⟩
      rw [B132_2, if_neg (nI_ge (by omega) (by omega)), gM_25s hx, gM_0s hx, rM_ns hx _ (i := j) (by omega)]
      dsimp only
      rw [wM_wes hx (by omega), nI_add, e]
  obtain ⟨we', hwe, e1⟩ := fst 8 0 rfl we (fun l hl => absurd hl (Nat.not_lt_zero _))
  rw [sM_i hx] at e1
  -- what happens
  have hap := s_happen (hp := sM hp o ((n, m, t, f, v, h, d), g1, g2, g3, (ki, wh, ot, ac), g5, th, ha, we', fe, wi, od, go, ba, bw, am, aa, aw)) (o := o) (x := ((n, m, t, f, v, h, d), g1, g2, g3, (ki, wh, ot, ac), g5, th, ha, we', fe, wi, od, go, ba, bw, am, aa, aw)) (iM_s hx) ok (k := mkN k) (a := a) (b := b) ck2 v2 (by
    rcases v3 with h | ⟨h, h'⟩
    · exact Or.inl h
    · exact Or.inr ⟨ck3.mpr h, h'⟩) (by rw [ck1]; exact hw)
  rw [ck1] at hap
  obtain ⟨th', e2⟩ := hap
  rw [sM_s] at e2
  have hbit : ∀ j, j < 8 → hs (act (mW ((n, m, t, f, v, h, d), g1, g2, g3, (ki, wh, ot, ac), g5, th, ha, we, fe, wi, od, go, ba, bw, am, aa, aw)) k a b).1 j = !decide ((act (mW ((n, m, t, f, v, h, d), g1, g2, g3, (ki, wh, ot, ac), g5, th, ha, we, fe, wi, od, go, ba, bw, am, aa, aw)) k a b).2.1.getD j 0 = n.getD j 0) := fun j hj => act_bit ok v2 (by omega) j hj
  have ok' := ok_act ok v1 v2 v3 hw
  have htk := act_tk ok (k := k) (a := a) (b := b) (by omega)
  have hmw : mW ((n, m, t, f, v, h, d), g1, g2, g3, (ki, wh, ot, ac), g5, th, ha, we', fe, wi, od, go, ba, bw, am, aa, aw) = mW ((n, m, t, f, v, h, d), g1, g2, g3, (ki, wh, ot, ac), g5, th, ha, we, fe, wi, od, go, ba, bw, am, aa, aw) := rfl
  rw [hmw] at e2
  refine ⟨th', we', ?_⟩
  generalize hR : act (mW ((n, m, t, f, v, h, d), g1, g2, g3, (ki, wh, ot, ac), g5, th, ha, we, fe, wi, od, go, ba, bw, am, aa, aw)) k a b = R at e2 hbit ok' htk ⊢
  obtain ⟨tk, n', m', t', f', fo', vv⟩ := R
  dsimp only at hbit htk
  have hn : ∀ j, j < 8 → n.getD j 0 < 4 := fun j hj => (ok.2.1 j hj).1
  have hn' : ∀ j, j < 8 → n'.getD j 0 < 4 := fun j hj => (ok'.2.1 j hj).1
  obtain ⟨l1, l2⟩ := lp_8 tk htk
  -- the counting
  have snd : ∀ q j, j + q = 8 → ∀ v3, dn pg 132 31 [some (.ref o), some (.int (nI i)), some (.int (nI j)), v3] [] (sM hp o ((n', m', t', f', vv), g1, g2, g3, (ki, wh, ot, ac), g5, th', ha, we', fe, wi, od, go, ba, bw, am + lpC tk j, (if aa = -6 then (lpF tk j).elim (-6) (fun _ => nI i) else aa), (if aa = -6 then (lpF tk j).elim aw nI else aw))) = q_v (sM hp o ((n', m', t', f', vv), g1, g2, g3, (ki, wh, ot, ac), g5, th', ha, we', fe, wi, od, go, ba, bw, am + lpC tk 8, (if aa = -6 then (lpF tk 8).elim (-6) (fun _ => nI i) else aa), (if aa = -6 then (lpF tk 8).elim aw nI else aw))) := by
    intro q
    induction q with
    | zero =>
      intro j hj v3
      have : j = 8 := by omega
      subst this
      rw [B132_31, if_pos (by decide)]
    | succ q ih =>
      intro j hj v3
      have hj8 : j < 8 := by omega
      have hb := hbit j hj8
      have a1 := hn j hj8
      have a2 := hn' j hj8
      have eC : lpC tk (j + 1) = lpC tk j + (if hs tk j = true then 1 else 0) := rfl
      have eF : lpF tk (j + 1) = (lpF tk j).elim (if hs tk j = true then some j else none) some := rfl
      have hih := ih (j + 1) (by omega)
      rw [B132_31, if_neg (nI_ge (by omega) (by omega)), gM_0s hx, rM_ns hx _ hj8, gM_25s hx, rM_wes hx _ hj8]
      simp only [hwe j hj8]
      by_cases hs0 : hs tk j = false
      · have hq : n'.getD j 0 = n.getD j 0 := by
          rw [hs0] at hb
          simpa using hb.symm
        have eC' : lpC tk (j + 1) = lpC tk j := by rw [eC, hs0]; rfl
        have eF' : lpF tk (j + 1) = lpF tk j := by
          rw [eF, hs0]
          cases lpF tk j <;> rfl
        rw [eC', eF'] at hih
        rw [if_pos (congrArg nI hq), B132_46 (nl_int _), gM_22s hx, if_pos (show nI 0 = nI 0 from rfl), B132_55]
        dsimp only
        rw [nI_add, Nat.add_zero, pM_22s hx, if_pos (show nI 0 = nI 0 from rfl), B132_65, gM_24s hx, B132_67, pM_24s hx, if_pos (show nI 0 = nI 0 from rfl), B132_76, gM_23s hx, B132_78 (nl_int _), pM_23s hx, nI_add]
        exact hih _
      · have hs1 : hs tk j = true := by simpa using hs0
        have hq : ¬ n'.getD j 0 = n.getD j 0 := by
          rw [hs1] at hb
          simpa using hb.symm
        have eC' : lpC tk (j + 1) = lpC tk j + 1 := by rw [eC, if_pos hs1]
        rw [if_neg (fun z => hq ((nI_eq (by omega) (by omega)).mp z)), B132_46 (nl_int _), gM_22s hx, if_neg (show ¬ nI 1 = nI 0 by decide), B132_55]
        dsimp only
        rw [nI_add, pM_22s hx, if_neg (show ¬ nI 1 = nI 0 by decide), gM_23s hx]
        dsimp only
        rcases hu with h6 | ⟨jj, hjj, haa⟩
        · -- none yet before this act
          have haa : aa = -6 := h6
          simp only [haa, if_true] at hih ⊢
          cases hF : lpF tk j with
          | none =>
            have eF' : lpF tk (j + 1) = some j := by rw [eF, hF, if_pos hs1]; rfl
            rw [eC', eF'] at hih
            have o1 : (none : Option Nat).elim (-6 : Int32) (fun _ => nI i) = -6 := rfl
            have o2 : (none : Option Nat).elim aw nI = aw := rfl
            have o3 : (some j).elim (-6 : Int32) (fun _ => nI i) = nI i := rfl
            have o4 : (some j).elim aw nI = nI j := rfl
            simp only [o1, o2, o3, o4] at hih ⊢
            rw [if_neg (show ¬ nI 0 ≤ -6 by decide), B132_67, pM_24s hx, if_neg (show ¬ nI 1 = nI 0 by decide), gM_23s hx]
            dsimp only
            rw [if_neg (show ¬ nI 0 ≤ -6 by decide), B132_78 (nl_int _), pM_23s hx, nI_add]
            exact hih _
          | some r =>
            have eF' : lpF tk (j + 1) = some r := by rw [eF, hF]; rfl
            rw [eC', eF'] at hih
            have o1 : (some r).elim (-6 : Int32) (fun _ => nI i) = nI i := rfl
            have o2 : (some r).elim aw nI = nI r := rfl
            simp only [o1, o2] at hih ⊢
            rw [if_pos (nI_le (Nat.zero_le _) (by omega)), B132_65, gM_24s hx, B132_67, pM_24s hx, if_neg (show ¬ nI 1 = nI 0 by decide), gM_23s hx]
            dsimp only
            rw [if_pos (nI_le (Nat.zero_le _) (by omega)), B132_76, gM_23s hx, B132_78 (nl_int _), pM_23s hx, nI_add]
            exact hih _
        · have haa' : ¬ aa = -6 := by
            intro z
            rw [haa] at z
            exact nI_ne6 (by omega) z
          have hle : nI 0 ≤ aa := by
            rw [haa]
            exact nI_le (Nat.zero_le _) (by omega)
          rw [eC'] at hih
          simp only [if_neg haa'] at hih ⊢
          rw [if_pos hle, B132_65, gM_24s hx, B132_67, pM_24s hx, if_neg (show ¬ nI 1 = nI 0 by decide), gM_23s hx]
          dsimp only
          rw [if_pos hle, B132_76, gM_23s hx, B132_78 (nl_int _), pM_23s hx, nI_add]
          exact hih _
  rw [E132, B132_0 (nl_int _), e1, B132_2, if_pos (by decide), gM_14s hx, rM_kis hx _ hi, gM_15s hx, rM_whs hx _ hi, gM_16s hx, rM_ots hx _ hi, vM_s hx]
  dsimp only
  rw [hk, hwh, hot, e2, er_v]
  have e3 := snd 8 0 rfl none
  have e4 : (if aa = -6 then (lpF tk 0).elim (-6) (fun _ => nI i) else aa) = aa := by
    split
    · rename_i h6
      exact h6.symm
    · rfl
  have e5 : (if aa = -6 then (lpF tk 0).elim aw nI else aw) = aw := by
    split <;> rfl
  have e6 : am + lpC tk 0 = am := rfl
  rw [e4, e5, e6] at e3
  rw [show sM hp o (mS ((n, m, t, f, v, h, d), g1, g2, g3, (ki, wh, ot, ac), g5, th, ha, we', fe, wi, od, go, ba, bw, am, aa, aw) (tk, n', m', t', f', fo', vv).2 th') = sM hp o ((n', m', t', f', vv), g1, g2, g3, (ki, wh, ot, ac), g5, th', ha, we', fe, wi, od, go, ba, bw, am, aa, aw) from rfl, e3, l1, l2]
  congr 2
  show _ = (_, _, _, _, _, _, _, _, _, _, _, _, _, _, _, _, (if ¬ tk = 0 ∧ aa = -6 then nI i else aa), (if ¬ tk = 0 ∧ aa = -6 then nI (low tk) else aw))
  by_cases h0 : tk = 0
  · simp only [h0, if_true, Option.elim, not_true_eq_false, false_and, if_false]
    by_cases h6 : aa = -6
    · simp only [h6, if_true]
    · simp only [h6, if_false]
  · by_cases h6 : aa = -6
    · simp only [h0, h6, if_true, if_false, Option.elim, not_false_eq_true, true_and]
    · simp only [h0, h6, if_false, not_false_eq_true, true_and]
end GO
