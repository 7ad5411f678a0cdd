/-! Blocks of cells: a heap written from place o on. -/
def wr : pH → Nat → List pE → pH
  | hp, _, [] => hp
  | hp, o, c :: cs => wr (hp.set o c) (o + 1) cs
def isAt (hp : pH) (o : Nat) (cs : List pE) : Prop := ∀ j, j < cs.length → hp[o + j]? = cs[j]?
theorem wr_len : ∀ (cs : List pE) (hp : pH) (o : Nat), (wr hp o cs).length = hp.length
  | [], _, _ => rfl
  | c :: cs, hp, o => by
    show (wr (hp.set o c) (o + 1) cs).length = _
    rw [wr_len cs, List.length_set]
theorem wr_other : ∀ (cs : List pE) (hp : pH) (o k : Nat), (k < o ∨ o + cs.length ≤ k) → (wr hp o cs)[k]? = hp[k]?
  | [], _, _, _, _ => rfl
  | c :: cs, hp, o, k, h => by
    rw [List.length_cons] at h
    show (wr (hp.set o c) (o + 1) cs)[k]? = _
    rw [wr_other cs _ _ _ (by omega), List.getElem?_set_ne (by omega)]
theorem isAt.le {hp : pH} {o : Nat} {cs : List pE} (h : isAt hp o cs) (h0 : 0 < cs.length) : o + cs.length ≤ hp.length := by
  have := h (cs.length - 1) (by omega)
  rw [List.getElem?_eq_getElem (l := cs) (by omega)] at this
  have := (List.getElem?_eq_some_iff.mp this).1
  omega
theorem isAt_wr : ∀ (cs : List pE) (hp : pH) (o : Nat), o + cs.length ≤ hp.length → isAt (wr hp o cs) o cs
  | [], _, _, _ => fun j hj => absurd hj (Nat.not_lt_zero _)
  | c :: cs, hp, o, h => by
    rw [List.length_cons] at h
    intro j hj
    show (wr (hp.set o c) (o + 1) cs)[o + j]? = _
    match j with
    | 0 =>
      rw [wr_other cs _ _ _ (by omega), Nat.add_zero, List.getElem?_set_self (by omega)]
      rfl
    | j + 1 =>
      have := isAt_wr cs (hp.set o c) (o + 1) (by rw [List.length_set]; omega) j (by rw [List.length_cons] at hj; omega)
      rw [show o + (j + 1) = o + 1 + j by omega, this]
      rfl
theorem set_same {α : Type} : ∀ (l : List α) (k : Nat) (e : α), l[k]? = some e → l.set k e = l
  | [], _, _, h => by simp at h
  | x :: l, 0, e, h => by cases h; rfl
  | x :: l, k + 1, e, h => by
    show x :: l.set k e = _
    rw [set_same l k e h]
theorem wr_self : ∀ (cs : List pE) (hp : pH) (o : Nat), isAt hp o cs → wr hp o cs = hp
  | [], _, _, _ => rfl
  | c :: cs, hp, o, h => by
    show wr (hp.set o c) (o + 1) cs = hp
    rw [set_same hp o c (h 0 (by simp))]
    exact wr_self cs hp (o + 1) fun j hj => by
      have := h (j + 1) (by rw [List.length_cons]; omega)
      rw [show o + (j + 1) = o + 1 + j by omega] at this
      exact this
theorem wr_set : ∀ (cs : List pE) (hp : pH) (o k : Nat) (e : pE), (k < o ∨ o + cs.length ≤ k) → wr (hp.set k e) o cs = (wr hp o cs).set k e
  | [], _, _, _, _, _ => rfl
  | c :: cs, hp, o, k, e, h => by
    rw [List.length_cons] at h
    show wr ((hp.set k e).set o c) (o + 1) cs = (wr (hp.set o c) (o + 1) cs).set k e
    rw [List.set_comm _ _ (by omega : k ≠ o), wr_set cs _ _ _ _ (by omega)]
theorem wr_wr : ∀ (cs cs' : List pE) (hp : pH) (o : Nat), cs.length = cs'.length → wr (wr hp o cs) o cs' = wr hp o cs'
  | [], [], _, _, _ => rfl
  | [], _ :: _, _, _, h => by cases h
  | _ :: _, [], _, _, h => by cases h
  | c :: cs, c' :: cs', hp, o, h => by
    show wr ((wr (hp.set o c) (o + 1) cs).set o c') (o + 1) cs' = wr (hp.set o c') (o + 1) cs'
    rw [← wr_set cs _ _ _ _ (by omega), List.set_set, wr_wr cs cs' _ _ (by simpa using h)]
theorem wr_at {cs : List pE} {hp : pH} {o : Nat} (h : isAt hp o cs) (j : Nat) (hj : j < cs.length) (e : pE) : hp.set (o + j) e = wr hp o (cs.set j e) := by
  have key : ∀ (cs : List pE) (hp : pH) (o j : Nat), isAt hp o cs → j < cs.length → wr hp o (cs.set j e) = hp.set (o + j) e := by
    intro cs
    induction cs with
    | nil => intro _ _ j _ hj; cases hj
    | cons c cs ih =>
      intro hp o j h hj
      have ht : isAt hp (o + 1) cs := fun i hi => by
        have := h (i + 1) (by rw [List.length_cons]; omega)
        rw [show o + (i + 1) = o + 1 + i by omega] at this
        exact this
      match j with
      | 0 =>
        show wr (hp.set o e) (o + 1) cs = hp.set (o + 0) e
        rw [wr_set cs _ _ _ _ (by omega), wr_self cs _ _ ht]
        rfl
      | j + 1 =>
        show wr (hp.set o c) (o + 1) (cs.set j e) = _
        rw [set_same hp o c (h 0 (by simp)), ih hp (o + 1) j ht (by rw [List.length_cons] at hj; omega)]
        congr 1
        omega
  exact (key cs hp o j h hj).symm
theorem wr_to {cs cs' : List pE} {hp : pH} {o : Nat} (h : isAt hp o cs) (j : Nat) (hj : j < cs.length) {e : pE} (he : cs.set j e = cs') : hp.set (o + j) e = wr hp o cs' := by
  subst he
  exact wr_at h j hj e
theorem isAt_other {hp : pH} {o p : Nat} {cs ds : List pE} (h : isAt hp p ds) (hd : p + ds.length ≤ o ∨ o + cs.length ≤ p) : isAt (wr hp o cs) p ds := fun j hj => by
  rw [wr_other cs _ _ _ (by omega)]
  exact h j hj
theorem isAt_app {hp : pH} {o : Nat} {cs ds : List pE} : isAt hp o (cs ++ ds) ↔ isAt hp o cs ∧ isAt hp (o + cs.length) ds := by
  constructor
  · intro h
    refine ⟨fun j hj => ?_, fun j hj => ?_⟩
    · rw [h j (by rw [List.length_append]; omega), List.getElem?_append_left hj]
    · have := h (cs.length + j) (by rw [List.length_append]; omega)
      rw [show o + (cs.length + j) = o + cs.length + j by omega, List.getElem?_append_right (by omega), Nat.add_sub_cancel_left] at this
      exact this
  · rintro ⟨h1, h2⟩ j hj
    rw [List.length_append] at hj
    by_cases hlt : j < cs.length
    · rw [h1 j hlt, List.getElem?_append_left hlt]
    · have := h2 (j - cs.length) (by omega)
      rw [show o + cs.length + (j - cs.length) = o + j by omega] at this
      rw [this, List.getElem?_append_right (by omega)]
theorem wr_app : ∀ (cs ds : List pE) (hp : pH) (o : Nat), wr hp o (cs ++ ds) = wr (wr hp o cs) (o + cs.length) ds
  | [], _, _, _ => rfl
  | c :: cs, ds, hp, o => by
    show wr (hp.set o c) (o + 1) (cs ++ ds) = wr (wr (hp.set o c) (o + 1) cs) (o + (cs.length + 1)) ds
    rw [wr_app cs ds, show o + (cs.length + 1) = o + 1 + cs.length by omega]
theorem isAt_cons {hp : pH} {o : Nat} {c : pE} {cs : List pE} : isAt hp o (c :: cs) ↔ hp[o]? = some c ∧ isAt hp (o + 1) cs := by
  constructor
  · intro h
    refine ⟨h 0 (by simp), fun j hj => ?_⟩
    have := h (j + 1) (by rw [List.length_cons]; omega)
    rw [show o + (j + 1) = o + 1 + j by omega] at this
    exact this
  · rintro ⟨h1, h2⟩ j hj
    match j with
    | 0 => exact h1
    | j + 1 =>
      have := h2 j (by rw [List.length_cons] at hj; omega)
      rw [show o + (j + 1) = o + 1 + j by omega]
      exact this
/-- a part of a block is written -/
theorem wr_mid {hp : pH} {o : Nat} {as bs bs' cs : List pE} (h : isAt hp o (as ++ (bs ++ cs))) (hl : bs.length = bs'.length) : wr hp (o + as.length) bs' = wr hp o (as ++ (bs' ++ cs)) := by
  obtain ⟨h1, h2⟩ := isAt_app.mp h
  obtain ⟨h2, h3⟩ := isAt_app.mp h2
  rw [wr_app, wr_self as hp o h1, wr_app, wr_self cs]
  rw [← hl]
  exact isAt_other h3 (by rw [← hl]; omega)
theorem wr_sz : ∀ (cs ds : List pE) (hp : pH) (o : Nat), isAt hp o cs → cs.map pm_esz = ds.map pm_esz → pm_sz (wr hp o ds) = pm_sz hp
  | [], [], _, _, _, _ => rfl
  | [], _ :: _, _, _, _, h => by cases h
  | _ :: _, [], _, _, _, h => by cases h
  | c :: cs, d :: ds, hp, o, h, he => by
    obtain ⟨h1, h2⟩ := isAt_cons.mp h
    rw [List.map_cons, List.map_cons] at he
    obtain ⟨e1, e2⟩ := List.cons.inj he
    show pm_sz (wr (hp.set o d) (o + 1) ds) = _
    have h3 : isAt (hp.set o d) (o + 1) cs := fun j hj => by
      rw [List.getElem?_set_ne (by omega)]
      exact h2 j hj
    rw [wr_sz cs ds _ _ h3 e2, pm_sz_set hp o d c h1 e1.symm]
-- arrays of small numbers
def aI (n : Nat) (xs : List Nat) : pE := .inl (0, n, .inl (fun j => nI (xs.getD j 0)))
def aR (n : Nat) (f : Nat → Int32) : pE := .inl (0, n, .inl f)
def aZ (n : Nat) (f : Nat → Bool) : pE := .inl (1, n, .inl (fun j => bI (f j)))
def aL (n : Nat) (f : Nat → Int64) : pE := .inl (2, n, .inr (.inl f))
theorem getD_set {α : Type} (xs : List α) (i j : Nat) (y d : α) (h : i < xs.length) : (xs.set i y).getD j d = if j = i then y else xs.getD j d := by
  rw [List.getD_eq_getElem?_getD, List.getD_eq_getElem?_getD]
  by_cases hj : j = i
  · subst hj
    rw [List.getElem?_set_self h, if_pos rfl]
    rfl
  · rw [List.getElem?_set_ne (Ne.symm hj), if_neg hj]
theorem upd_I {xs : List Nat} {i y : Nat} (h : i < xs.length) : upd (fun j => nI (xs.getD j 0)) i (nI y) = fun j => nI ((xs.set i y).getD j 0) := by
  funext j
  rw [getD_set _ _ _ _ _ h]
  unfold upd
  split <;> rfl
def updZ (f : Nat → Bool) (i : Nat) (b : Bool) : Nat → Bool := fun j => if j = i then b else f j
theorem upd_Z {f : Nat → Bool} {i : Nat} {b : Bool} : upd (fun j => bI (f j)) i (bI b) = fun j => bI (updZ f i b j) := by
  funext j
  unfold upd updZ
  split <;> rfl
theorem rd_I {hp : pH} {a n i : Nat} {xs : List Nat} (h : hp[a]? = some (aI n xs)) (hi : i < n) (hn : n < 2 ^ 31) (F : Int32 → Option pR) : qa_i hp a 0 (nI i) F = F (nI (xs.getD i 0)) := by
  rw [ea_i h (pin_nI hi hn), nI_clamp (by omega)]
theorem rd_R {hp : pH} {a n i : Nat} {f : Nat → Int32} (h : hp[a]? = some (aR n f)) (hi : i < n) (hn : n < 2 ^ 31) (F : Int32 → Option pR) : qa_i hp a 0 (nI i) F = F (f i) := by
  rw [ea_i h (pin_nI hi hn), nI_clamp (by omega)]
theorem rd_Z {hp : pH} {a n i : Nat} {f : Nat → Bool} (h : hp[a]? = some (aZ n f)) (hi : i < n) (hn : n < 2 ^ 31) (F : Int32 → Option pR) : qa_i hp a 1 (nI i) F = F (bI (f i)) := by
  rw [ea_i h (pin_nI hi hn), nI_clamp (by omega)]
theorem rd_L {hp : pH} {a n i : Nat} {f : Nat → Int64} (h : hp[a]? = some (aL n f)) (hi : i < n) (hn : n < 2 ^ 31) (F : Int64 → Option pR) : qa_l hp a (nI i) F = F (f i) := by
  rw [ea_l h (pin_nI hi hn), nI_clamp (by omega)]
theorem st_I {hp : pH} {a n i y : Nat} {xs : List Nat} (h : hp[a]? = some (aI n xs)) (hi : i < n) (hn : n < 2 ^ 31) (hl : xs.length = n) (F : pH → Option pR) : qx_i hp a 0 (nI i) (nI y) F = F (hp.set a (aI n (xs.set i y))) := by
  rw [ex_i h (pin_nI hi hn), nI_clamp (by omega), upd_I (by omega)]
  rfl
theorem st_R {hp : pH} {a n i : Nat} {f : Nat → Int32} (h : hp[a]? = some (aR n f)) (hi : i < n) (hn : n < 2 ^ 31) (y : Int32) (F : pH → Option pR) : qx_i hp a 0 (nI i) y F = F (hp.set a (aR n (upd f i y))) := by
  rw [ex_i h (pin_nI hi hn), nI_clamp (by omega)]
  rfl
theorem st_Z {hp : pH} {a n i : Nat} {f : Nat → Bool} (h : hp[a]? = some (aZ n f)) (hi : i < n) (hn : n < 2 ^ 31) (b : Bool) (F : pH → Option pR) : qx_i hp a 1 (nI i) (bI b) F = F (hp.set a (aZ n (updZ f i b))) := by
  rw [ex_i h (pin_nI hi hn), nI_clamp (by omega), upd_Z]
  rfl
theorem st_L {hp : pH} {a n i : Nat} {f : Nat → Int64} (h : hp[a]? = some (aL n f)) (hi : i < n) (hn : n < 2 ^ 31) (y : Int64) (F : pH → Option pR) : qx_l hp a (nI i) y F = F (hp.set a (aL n (vp_updL f i y))) := by
  rw [ex_l h (pin_nI hi hn), nI_clamp (by omega)]
  rfl
