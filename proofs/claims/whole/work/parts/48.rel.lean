/-! Class and reference side by side. -/
def dW (w : aW) : g0T := (w.1, w.2.1, w.2.2.1, w.2.2.2.1, w.2.2.2.2.2)
def rS (s : aS) (q : (List Nat) × (List Nat) × Nat) : Prop := q.2.2 = s.2.2 ∧ ∀ i, i < s.2.2 → q.1.getD i 0 = s.1.getD i 0 ∧ q.2.1.getD i 0 = (if hs s.2.1 i = true then 1 else 0)
def okQ (q : (List Nat) × (List Nat) × Nat) : Prop := q.1.length = 8 ∧ q.2.1.length = 8 ∧ q.2.2 ≤ 8 ∧ (∀ i, i < 8 → q.1.getD i 0 < 61) ∧ ∀ i, i < 8 → q.2.1.getD i 0 < 2
def rN (n : aN) (y : aY) : Prop := symW n.2.1 ∧ y.1 = dW n.2.1 ∧ y.2.1 = n.2.2.1 ∧ rS n.2.2.2 y.2.2 ∧ okQ y.2.2
def rP (x : aX) (m : aM) : Prop := m.2.2.2.1.1.length = 60 ∧ m.2.2.2.1.2 = x.2.2.2.1.2.2.2.2.1 ∧ ∀ i, i < x.2.2.2.1.2.2.2.2.1 → m.2.2.2.1.1.getD i 0 = x.2.2.2.1.1.getD i 0
def rI (x : aX) (m : aM) (k : Nat) : Prop := m.2.2.2.2.2.1.2.1 k = (imX x k).1 ∧ ((imX x k).1 = true → ∃ y, sgP m.2.2.2.2.2.1.1 k y ∧ rN (imX x k) y)
abbrev vis (m : aM) : aY := (m.1, m.2.1, m.2.2.1)
def Rel (x : aX) (m : aM) : Prop := okX x ∧ rN x.1 (vis m) ∧ rP x m ∧ ((mhd m).length = 27 ∧ m.2.2.2.2.2.1.1.length = 160) ∧ rI x m 0 ∧ rI x m 1
theorem lnY_of {n : aN} {y : aY} (ok : okN n) (h : rN n y) : lnY y := by
  obtain ⟨_, h1, h2, _, h4⟩ := h
  obtain ⟨a1, a2, a3⟩ := ok
  unfold lnY
  rw [h1, h2]
  exact ⟨a1.1.1, a1.1.2.1, a1.1.2.2.1, a1.1.2.2.2, a2.1.1, a2.1.2, h4.1, h4.2.1⟩
theorem mW_of {m : aM} {w : aW} (h : m.1 = dW w) : mW m = uO w (fun _ => 0) := by
  unfold mW
  rw [h]
  rfl
theorem take_eq {a b : List Nat} {n : Nat} (ha : a.length = 60) (hb : b.length = 60) (hn : n ≤ 60) (h : ∀ i, i < n → a.getD i 0 = b.getD i 0) : a.take n = b.take n := by
  apply List.ext_getElem?
  intro i
  by_cases hi : i < n
  · rw [List.getElem?_take_of_lt hi, List.getElem?_take_of_lt hi]
    have := h i hi
    rw [List.getD_eq_getElem?_getD, List.getD_eq_getElem?_getD, List.getElem?_eq_getElem (show i < a.length by omega), List.getElem?_eq_getElem (show i < b.length by omega)] at this
    rw [List.getElem?_eq_getElem (show i < a.length by omega), List.getElem?_eq_getElem (show i < b.length by omega)]
    exact congrArg some this
  · rw [List.getElem?_eq_none (by rw [List.length_take]; omega), List.getElem?_eq_none (by rw [List.length_take]; omega)]
theorem Rel_cs {x : aX} {m : aM} (R : Rel x m) : csM m = csX x := by
  obtain ⟨ok, _, ⟨p1, p2, p3⟩, _⟩ := R
  obtain ⟨l1, l2, l3⟩ := ok.2.2.2.1
  show m.2.2.2.1.1.take m.2.2.2.1.2 = x.2.2.2.1.1.take x.2.2.2.1.2.2.2.2.1
  rw [p2]
  exact take_eq p1 l1 l2 p3
theorem Rel_mW {x : aX} {m : aM} (R : Rel x m) : mW m = uO x.1.2.1 (fun _ => 0) := mW_of R.2.1.2.1
theorem Rel_okW {x : aX} {m : aM} (R : Rel x m) : okW (mW m) := by
  rw [Rel_mW R]
  exact ok_uO R.1.1.1 _
theorem Rel_sym {x : aX} {m : aM} (R : Rel x m) : symW (mW m) := by
  rw [Rel_mW R]
  exact R.2.1.1
theorem Rel_okM {x : aX} {m : aM} (R : Rel x m) : okM m := by
  have h1 := Rel_okW R
  obtain ⟨ok, ⟨n1, n2, n3, n4, n5⟩, ⟨p1, p2, p3⟩, ⟨q1, q2⟩, _⟩ := R
  obtain ⟨l1, l2, l3⟩ := ok.2.2.2.1
  refine ⟨h1, ?_, n5, ⟨p1, ?_, ?_⟩, q1, q2⟩
  · have n3 : m.2.1 = x.1.2.2.1 := n3
    rw [n3]
    exact ok.1.2.1
  · rw [p2]
    exact l2
  · intro i hi
    rw [p2] at hi
    rw [p3 i hi]
    exact l3 i hi
/-- the same images -/
theorem Rel_mk {x x' : aX} {m m' : aM} (R : Rel x m) (okx : okX x') (h1 : x'.2.1 = x.2.1) (h2 : x'.2.2.1 = x.2.2.1) (hN : rN x'.1 (vis m')) (hP : rP x' m') (h5 : m'.2.2.2.2.2.1 = m.2.2.2.2.2.1) (h6 : (mhd m').length = 27) : Rel x' m' := by
  obtain ⟨_, _, _, ⟨_, q2⟩, i0, i1⟩ := R
  have e : ∀ k, imX x' k = imX x k := fun k => by
    show (if k = 0 then x'.2.1 else x'.2.2.1) = if k = 0 then x.2.1 else x.2.2.1
    rw [h1, h2]
  refine ⟨okx, hN, hP, ⟨h6, ?_⟩, ?_, ?_⟩
  · rw [h5]
    exact q2
  · unfold rI
    rw [h5, e 0]
    exact i0
  · unfold rI
    rw [h5, e 1]
    exact i1
/-- nothing that shows has changed in the class -/
def svX (x x' : aX) : Prop := okX x' ∧ dW x'.1.2.1 = dW x.1.2.1 ∧ x'.1.2.2.1 = x.1.2.2.1 ∧ x'.1.2.2.2 = x.1.2.2.2 ∧ x'.2.1 = x.2.1 ∧ x'.2.2.1 = x.2.2.1 ∧ x'.2.2.2.1.1 = x.2.2.2.1.1 ∧ x'.2.2.2.1.2.2.2.2.1 = x.2.2.2.1.2.2.2.2.1
theorem dW_f {w w' : aW} (h : dW w' = dW w) : w'.2.2.2.1 = w.2.2.2.1 := congrArg (fun q : g0T => q.2.2.2.1) h
theorem symW_d {w w' : aW} (h : dW w' = dW w) (hs' : symW w) : symW w' := by
  intro i j hi hj
  rw [dW_f h]
  exact hs' i j hi hj
theorem Rel_same {x x' : aX} {m m' : aM} (R : Rel x m) (hx : svX x x') (hm : smM m m') : Rel x' m' := by
  obtain ⟨s1, s2, s3, s4, s5, s6, s7, s8⟩ := hx
  obtain ⟨t1, t2, t3, t4, t5, t6⟩ := hm
  obtain ⟨_, ⟨n1, n2, n3, n4, n5⟩, ⟨p1, p2, p3⟩, _⟩ := id R
  have ev : vis m' = vis m := by
    show (m'.1, m'.2.1, m'.2.2.1) = (m.1, m.2.1, m.2.2.1)
    rw [t1, t2, t3]
  refine Rel_mk R s1 s5 s6 ?_ ?_ t5 t6
  · rw [ev]
    refine ⟨symW_d s2 n1, ?_, ?_, ?_, n5⟩
    · rw [s2]
      exact n2
    · rw [s3]
      exact n3
    · rw [s4]
      exact n4
  · refine ⟨?_, ?_, ?_⟩
    · rw [t4]
      exact p1
    · rw [t4, s8]
      exact p2
    · rw [t4, s7, s8]
      exact p3
theorem svX_sm {x x' : aX} (ok : okX x) (h : smX x x') : svX x x' := by
  have h' := smX_ok h ok
  obtain ⟨p, k, e, p1, p2, p3⟩ := h
  subst e
  exact ⟨h', rfl, rfl, rfl, rfl, rfl, p1, p2⟩
theorem svX_Q {x : aX} (ok : okX x) (q : aQ) : svX x (xQ x q) := ⟨ok, rfl, rfl, rfl, rfl, rfl, rfl, rfl⟩
theorem svX_B {x : aX} (ok : okX x) {b : aB} (hb : b.1.length = 3) : svX x (xB x b) := by
  obtain ⟨k1, k2, k3, k4, k5, k6, k7⟩ := ok
  exact ⟨⟨k1, k2, k3, k4, k5, k6, hb⟩, rfl, rfl, rfl, rfl, rfl, rfl, rfl⟩
theorem svX_Y {x : aX} (ok : okX x) {w : aW} (hw : okW w) : svX x (xY x w) := by
  obtain ⟨k1, k2, k3, k4, k5, k6, k7⟩ := ok
  exact ⟨⟨k1, k2, k3, k4, k5, hw, k7⟩, rfl, rfl, rfl, rfl, rfl, rfl, rfl⟩
theorem svX_f {x : aX} (ok : okX x) (fo : Nat → Int32) : svX x (xW x (uO x.1.2.1 fo)) := by
  obtain ⟨⟨a1, a2, a3⟩, k2, k3, k4, k5, k6, k7⟩ := ok
  exact ⟨⟨⟨ok_uO a1 fo, a2, a3⟩, k2, k3, k4, k5, k6, k7⟩, rfl, rfl, rfl, rfl, rfl, rfl, rfl⟩
theorem svX_i {x : aX} (ok : okX x) : svX x x := ⟨ok, rfl, rfl, rfl, rfl, rfl, rfl, rfl⟩
theorem smM_i {m : aM} (h : (mhd m).length = 27) : smM m m := ⟨rfl, rfl, rfl, rfl, rfl, h⟩
/-- another world -/
theorem Rel_W {x : aX} {m m' : aM} (R : Rel x m) {w' : aW} (ok' : okW w') (sy : symW w') (h1 : m'.1 = dW w') (h2 : m'.2.1 = m.2.1) (h3 : m'.2.2.1 = m.2.2.1) (h4 : m'.2.2.2.1 = m.2.2.2.1) (h5 : m'.2.2.2.2.2.1 = m.2.2.2.2.2.1) (h6 : (mhd m').length = 27) : Rel (xW x w') m' := by
  obtain ⟨⟨⟨a1, a2, a3⟩, k2, k3, k4, k5, k6, k7⟩, ⟨n1, n2, n3, n4, n5⟩, ⟨p1, p2, p3⟩, _⟩ := id R
  refine Rel_mk R ⟨⟨ok', a2, a3⟩, k2, k3, k4, k5, k6, k7⟩ rfl rfl ⟨sy, h1, ?_, ?_, ?_⟩ ⟨?_, ?_, ?_⟩ h5 h6
  · show m'.2.1 = _
    rw [h2]
    exact n3
  · show rS x.1.2.2.2 m'.2.2.1
    rw [h3]
    exact n4
  · show okQ m'.2.2.1
    rw [h3]
    exact n5
  · rw [h4]
    exact p1
  · rw [h4]
    exact p2
  · rw [h4]
    exact p3
theorem Rel_C {x : aX} {m : aM} (R : Rel x m) {c' : aC} (ok' : okC c') : Rel (xC x c') (m.1, c', m.2.2) := by
  obtain ⟨⟨⟨a1, a2, a3⟩, k2, k3, k4, k5, k6, k7⟩, ⟨n1, n2, n3, n4, n5⟩, hP, ⟨q1, _⟩, _⟩ := id R
  exact Rel_mk R ⟨⟨a1, ok', a3⟩, k2, k3, k4, k5, k6, k7⟩ rfl rfl ⟨n1, n2, rfl, n4, n5⟩ hP rfl q1
theorem Rel_S {x : aX} {m : aM} (R : Rel x m) {s' : aS} {q' : (List Nat) × (List Nat) × Nat} (ok' : okS s') (hq : okQ q') (hr : rS s' q') : Rel (xS x s') (m.1, m.2.1, q', m.2.2.2) := by
  obtain ⟨⟨⟨a1, a2, a3⟩, k2, k3, k4, k5, k6, k7⟩, ⟨n1, n2, n3, n4, n5⟩, hP, ⟨q1, _⟩, _⟩ := id R
  exact Rel_mk R ⟨⟨a1, a2, ok'⟩, k2, k3, k4, k5, k6, k7⟩ rfl rfl ⟨n1, n2, n3, hr, hq⟩ hP rfl q1
theorem Rel_P {x : aX} {m : aM} (R : Rel x m) {p' : aP} {q' : (List Nat) × Nat} (ok' : okP p') (hl : q'.1.length = 60) (hn : q'.2 = p'.2.2.2.2.1) (hr : ∀ i, i < p'.2.2.2.2.1 → q'.1.getD i 0 = p'.1.getD i 0) : Rel (xP x p') (m.1, m.2.1, m.2.2.1, q', m.2.2.2.2) := by
  obtain ⟨⟨k1, k2, k3, k4, k5, k6, k7⟩, hN, _, ⟨q1, _⟩, _⟩ := id R
  exact Rel_mk R ⟨k1, k2, k3, ok', k5, k6, k7⟩ rfl rfl hN ⟨hl, hn, hr⟩ rfl q1
-- treaties on both sides
theorem sym_trF {w : aW} (ok : okW w) (hs' : symW w) {a b : Nat} (ha : a < 8) (hb : b < 8) (is : Bool) : symW (uF w (trF w a b is)) := by
  have hl : w.2.2.2.1.length = 8 := ok.1.2.2.2
  have hl2 : (w.2.2.2.1.set a (sb (w.2.2.2.1.getD a 0) b is)).length = 8 := by rw [List.length_set]; exact hl
  have h1 : ∀ i, i < 8 → w.2.2.2.1.getD i 0 < 256 := fun i hi => (ok.2.1 i hi).2.2.2
  have h2 : ∀ i, i < 8 → (w.2.2.2.1.set a (sb (w.2.2.2.1.getD a 0) b is)).getD i 0 < 256 := by
    intro i hi
    rw [getD_set _ _ _ _ _ (by omega)]
    split
    · exact sb_lt' (h1 a ha) hb is
    · exact h1 i hi
  have hsb : ∀ v, v < 256 → ∀ i, i < 8 → ∀ j, j < 8 → hs (sb v i is) j = if j = i then is else hs v j := by
    intro v hv i hi j hj
    cases is
    · rw [(sb_hs v hv i hi j hj).2]
      by_cases h : j = i
      · simp [h]
      · simp [h]
    · rw [(sb_hs v hv i hi j hj).1]
      by_cases h : j = i
      · simp [h]
      · simp [h]
  have key : ∀ i j, i < 8 → j < 8 → hs ((trF w a b is).getD i 0) j = if (i = a ∧ j = b) ∨ (i = b ∧ j = a) then is else hs (w.2.2.2.1.getD i 0) j := by
    intro i j hi hj
    unfold trF
    rw [getD_set _ _ _ _ _ (by omega)]
    by_cases hib : i = b
    · rw [if_pos hib, hsb _ (h2 b hb) a ha j hj]
      by_cases hja : j = a
      · rw [if_pos hja, if_pos (Or.inr ⟨hib, hja⟩)]
      · rw [if_neg hja, getD_set _ _ _ _ _ (by omega)]
        by_cases hba : b = a
        · rw [if_pos hba, hsb _ (h1 a ha) b hb j hj, if_neg (by omega), if_neg (by omega), hib, hba]
        · rw [if_neg hba, if_neg (by omega), hib]
    · rw [if_neg hib, getD_set _ _ _ _ _ (by omega)]
      by_cases hia : i = a
      · rw [if_pos hia, hsb _ (h1 a ha) b hb j hj]
        by_cases hjb : j = b
        · rw [if_pos hjb, if_pos (Or.inl ⟨hia, hjb⟩)]
        · rw [if_neg hjb, if_neg (by omega), hia]
      · rw [if_neg hia, if_neg (by omega)]
  intro i j hi hj
  show hs ((trF w a b is).getD i 0) j = hs ((trF w a b is).getD j 0) i
  rw [key i j hi hj, key j i hj hi, hs' i j hi hj]
  by_cases h : (i = a ∧ j = b) ∨ (i = b ∧ j = a)
  · rw [if_pos h, if_pos (by omega)]
  · rw [if_neg h, if_neg (by omega)]
theorem sym_act {w : aW} (ok : okW w) (hs' : symW w) {k a b : Nat} (ha : a < 8) (hb : b < 8 ∨ k = 6) : symW (act w k a b).2 := by
  unfold act
  by_cases k4 : k = 4
  · rw [if_neg (by omega), if_neg (by omega), if_neg (by omega), if_pos k4]
    exact sym_trF ok hs' ha (by omega) true
  · (repeat' split) <;> first | exact hs' | contradiction
theorem sym_goR : ∀ (A : List (Nat × Nat × Nat)) (i : Nat) (u : aU) (w : aW), okW w → symW w → (∀ e ∈ A, vAct e) → symW (goR A i u w).2
  | [], _, _, _, _, hs', _ => hs'
  | e :: r, i, u, w, ok, hs', hA => by
    obtain ⟨v1, v2, v3⟩ := hA e (List.mem_cons_self ..)
    unfold goR
    by_cases h : wny w e.1 e.2.1 e.2.2 = 0
    · rw [if_pos h]
      exact sym_goR r _ _ _ (ok_act ok v1 v2 v3 h) (sym_act ok hs' v2 (by omega)) (fun q hq => hA q (List.mem_cons_of_mem _ hq))
    · rw [if_neg h]
      exact hs'
theorem sym_GO {w : aW} (ok : okW w) (hs' : symW w) (cs : List Nat) : symW (GOn cs w).2 := sym_goR _ _ _ _ ok hs' (RDn_ok cs).1
theorem ok_GO {w : aW} (ok : okW w) (cs : List Nat) : okW (GOn cs w).2 := (goR_ok _ 0 u0 w ok (RDn_ok cs).1 (Or.inl rfl)).1
theorem GO_uO (cs : List Nat) (w : aW) (fo : Nat → Int32) : GOn cs (uO w fo) = ((GOn cs w).1, uO (GOn cs w).2 fo) := goR_uO fo _ _ _ _
theorem RF_uO (cs : List Nat) (w : aW) (fo : Nat → Int32) : RFn cs (uO w fo) = RFn cs w := by
  unfold RFn
  rw [GO_uO]
theorem JD_uO (cs : List Nat) (w : aW) (fo : Nat → Int32) (z : Nat) : JDn cs (uO w fo) z = JDn cs w z := by
  unfold JDn
  rw [RF_uO, GO_uO]
theorem BH_uO (cs : List Nat) (w : aW) (fo : Nat → Int32) (i z : Nat) : BHn cs (uO w fo) i z = BHn cs w i z := by
  unfold BHn
  rw [RF_uO, GO_uO, ONn_uO]
theorem ST_uO (cs : List Nat) (w : aW) (fo : Nat → Int32) (z : Nat) : STn cs (uO w fo) z = STn cs w z := by
  unfold STn
  rw [RF_uO, GO_uO, ALn_uO]
theorem AN_uO (cs : List Nat) (w : aW) (fo : Nat → Int32) (z : Nat) : ANn cs (uO w fo) z = ANn cs w z := by
  unfold ANn
  rw [RF_uO, GO_uO]
theorem DN_uO (cs : List Nat) (w : aW) (fo : Nat → Int32) : DNn cs (uO w fo) = DNn cs w := by
  unfold DNn
  rw [RF_uO]
