/-! The class's Pad: signs into acts. -/
theorem rgb {a b c : Nat} (hc : c < 2 ^ 31) (ha : a < 2 ^ 31) (hb : b < 2 ^ 31) : rg (nI a) (nI b) (nI c) = decide (a ≤ c ∧ c ≤ b) := by
  rw [rg_nI hc ha hb, Bool.decide_and]
/-- what a sign makes of what is awaited: 0 an act, 1 a deed, 2 another, 3 a strength; none: it can not stand there -/
def stP (aw k a c : Nat) : Option (Nat × Nat × Nat × Option (Nat × Nat × Nat)) :=
  if aw = 0 then (if c = 46 then some (0, 0, 0, some (7, 0, 0)) else if c = 103 then some (3, 6, 0, none) else if 65 ≤ c ∧ c ≤ 72 then some (1, 7, c - 65, none) else none)
  else if aw = 1 then (if c = 37 then some (0, 0, 0, some (8, a, 0)) else if c = 47 then some (0, 0, 0, some (5, a, 0)) else if c = 94 then some (0, 0, 0, some (2, a, 0)) else if c = 95 then some (0, 0, 0, some (1, a, 0)) else if c = 120 then some (2, 3, a, none) else if c = 126 then some (2, 4, a, none) else none)
  else if aw = 2 then (if 65 ≤ c ∧ c ≤ 72 then some (0, 0, 0, some (k, a, c - 65)) else none)
  else (if 49 ≤ c ∧ c ≤ 57 then some (0, 0, 0, some (6, 0, c - 48)) else none)
def vAct (e : Nat × Nat × Nat) : Prop := e.1 < 9 ∧ e.2.1 < 8 ∧ (e.2.2 < 8 ∨ e.1 = 6 ∧ e.2.2 < 100)
/-- what the rows hold of the acts read, and of the one begun -/
def PInv (A : List (Nat × Nat × Nat)) (aw k a : Nat) (ki wh ot : Nat → Int32) : Prop :=
  (∀ (j : Nat) (e : Nat × Nat × Nat), A[j]? = some e → ki j = nI e.1 ∧ wh j = nI e.2.1 ∧ ot j = nI e.2.2) ∧ (aw = 1 → wh A.length = nI a ∧ ot A.length = nI 0) ∧ (aw = 2 → wh A.length = nI a ∧ ki A.length = nI k) ∧ (aw = 3 → wh A.length = nI 0 ∧ ki A.length = nI 6)
theorem PInv_app {A : List (Nat × Nat × Nat)} {e : Nat × Nat × Nat} {aw k a : Nat} {ki wh ot ki' wh' ot' : Nat → Int32} (h : PInv A aw k a ki wh ot) (hs : ∀ j, j < A.length → ki' j = ki j ∧ wh' j = wh j ∧ ot' j = ot j) (hn : ki' A.length = nI e.1 ∧ wh' A.length = nI e.2.1 ∧ ot' A.length = nI e.2.2) : PInv (A ++ [e]) 0 0 0 ki' wh' ot' := by
  refine ⟨fun j q hq => ?_, fun z => (by omega), fun z => (by omega), fun z => (by omega)⟩
  by_cases hj : j < A.length
  · rw [List.getElem?_append_left hj] at hq
    obtain ⟨e1, e2, e3⟩ := hs j hj
    rw [e1, e2, e3]
    exact h.1 j q hq
  · rw [List.getElem?_append_right (by omega)] at hq
    have hj2 : j - A.length < 1 := (List.getElem?_eq_some_iff.mp hq).1
    have hj3 : j = A.length := by omega
    subst hj3
    rw [Nat.sub_self] at hq
    cases hq
    exact hn
section PD
variable {hp : pH} {o ln ac c : Nat} {sg : List Nat} {ki wh ot : Nat → Int32}
theorem s_close (hx : iP hp o (sg, ki, wh, ot, ln, ac)) : cl pg 32 [.ref o] hp = q_i (nI 0) (sP hp o (sg, ki, wh, ot, ln, ac + 1)) := by
  rw [E32, B32_0, gP_5 hx, nI_add, pP_5 hx]
theorem s_takeFirst (hx : iP hp o (sg, ki, wh, ot, ln, ac)) (ha : ac < 60) (hc : c < 128) : cl pg 31 [.ref o, .int (nI c)] hp = q_i (nI (if c = 46 then 0 else if c = 103 then 3 else if 65 ≤ c ∧ c ≤ 72 then 1 else 4)) (sP hp o (sg, upd ki ac (nI (if c = 103 then 6 else 7)), upd wh ac (nI (if 65 ≤ c ∧ c ≤ 72 then c - 65 else 0)), upd ot ac (nI 0), ln, if c = 46 then ac + 1 else ac)) := by
  have hcc : ∀ d, d < 128 → (nI c = nI d) = (c = d) := fun d hd => propext (nI_eq (by omega) (by omega))
  have e25 : ∀ (x : Nat) (ki' wh' : Nat → Int32), iP hp o (sg, ki, wh, ot, ln, ac) → dn pg 31 25 [some (.ref o), some (.int (nI c))] [.int (nI x), .int (nI ac), .ref (o + 3)] (sP hp o (sg, ki', wh', ot, ln, ac)) = q_i (nI (if c = 46 then 0 else if c = 103 then 3 else if 65 ≤ c ∧ c ≤ 72 then 1 else 4)) (sP hp o (sg, ki', upd wh' ac (nI x), upd ot ac (nI 0), ln, if c = 46 then ac + 1 else ac)) := by
    intro x ki' wh' hx
    rw [B31_25, wP_whs hx ha, gP_3s hx, gP_5s hx, wP_ots hx ha]
    simp only [hcc 46 (by omega), hcc 103 (by omega), s_within, er_i, rgb (show c < 2 ^ 31 by omega) (show 65 < 2 ^ 31 by decide) (show 72 < 2 ^ 31 by decide), bI_0, B31_51, vP_s hx]
    by_cases c1 : c = 46
    · rw [if_neg (fun z => z c1), if_pos c1, if_pos c1, s_close (iP_s hx), er_i, sP_s]
    rw [if_pos c1, if_neg c1, if_neg c1]
    by_cases c2 : c = 103
    · rw [if_neg (fun z => z c2), if_pos c2]
    rw [if_pos c2, if_neg c2]
    by_cases c3 : 65 ≤ c ∧ c ≤ 72
    · simp [c3]
    · simp [c3]
  have e10 : ∀ x : Nat, dn pg 31 10 [some (.ref o), some (.int (nI c))] [.int (nI x), .int (nI ac), .ref (o + 2)] hp = q_i (nI (if c = 46 then 0 else if c = 103 then 3 else if 65 ≤ c ∧ c ≤ 72 then 1 else 4)) (sP hp o (sg, upd ki ac (nI x), upd wh ac (nI (if 65 ≤ c ∧ c ≤ 72 then c - 65 else 0)), upd ot ac (nI 0), ln, if c = 46 then ac + 1 else ac)) := by
    intro x
    rw [B31_10, wP_ki hx ha, gP_2s hx, gP_5s hx]
    simp only [s_within, er_i, rgb (show c < 2 ^ 31 by omega) (show 65 < 2 ^ 31 by decide) (show 72 < 2 ^ 31 by decide), bI_0]
    by_cases c3 : 65 ≤ c ∧ c ≤ 72
    · rw [if_neg (by simp [c3]), pk_sub c3.1, e25 _ _ _ hx]
      simp only [c3, and_self, ↓reduceIte]
    · rw [if_pos (by simp [c3]), e25 _ _ _ hx]
      simp only [c3, ↓reduceIte]
  rw [E31, B31_0, gP_1 hx, gP_5 hx]
  simp only [hcc 103 (by omega), e10]
  by_cases c2 : c = 103
  · simp [c2]
  · simp [c2]
def ddo (c : Nat) : Option Nat := if c = 37 then some 8 else if c = 47 then some 5 else if c = 94 then some 2 else if c = 95 then some 1 else if c = 120 then some 3 else if c = 126 then some 4 else none
theorem s_deedOf (hc : c < 128) : cl pg 34 [.int (nI c)] hp = q_i ((ddo c).elim (-6) nI) hp := by
  have hcc : ∀ d, d < 128 → (nI c = nI d) = (c = d) := fun d hd => propext (nI_eq (by omega) (by omega))
  rw [E34, B34_0]
  simp only [hcc 37 (by omega), hcc 47 (by omega), hcc 94 (by omega), hcc 95 (by omega), hcc 120 (by omega), hcc 126 (by omega)]
  unfold ddo
  (repeat' split) <;> rfl
theorem nI_ne6 {k : Nat} (h : k < 2 ^ 31) : ¬ nI k = (-6 : Int32) := by
  intro z
  have a := nI_toInt h
  rw [z, show ((-6 : Int32)).toInt = -6 from rfl] at a
  omega
theorem s_takeDeed (hx : iP hp o (sg, ki, wh, ot, ln, ac)) (ha : ac < 60) (hc : c < 128) : cl pg 33 [.ref o, .int (nI c)] hp = (match ddo c with
  | none => q_i (nI 4) hp
  | some k => if k = 3 ∨ k = 4 then q_i (nI 2) (sP hp o (sg, upd ki ac (nI k), wh, ot, ln, ac)) else q_i (nI 0) (sP hp o (sg, upd ki ac (nI k), wh, ot, ln, ac + 1))) := by
  cases hd : ddo c with
  | none =>
    have hdo : cl pg 34 [.int (nI c)] hp = q_i (-6) hp := by rw [s_deedOf hc, hd]; rfl
    rw [E33, B33_0, hdo, er_i, if_neg (fun z => z rfl)]
  | some k =>
    have hk : k < 9 := by
      unfold ddo at hd
      (repeat' split at hd) <;> simp at hd <;> omega
    have hkk : ∀ d, d < 9 → (nI k = nI d) = (k = d) := fun d hd => propext (nI_eq (by omega) (by omega))
    have hdo : cl pg 34 [.int (nI c)] hp = q_i (nI k) hp := by rw [s_deedOf hc, hd]; rfl
    rw [E33, B33_0, hdo, er_i, if_pos (nI_ne6 (by omega)), gP_1 hx, gP_5 hx, wP_ki hx ha]
    simp only [hkk 3 (by omega), hkk 4 (by omega), B33_20, B33_24]
    by_cases k3 : k = 3
    · rw [if_pos k3, if_pos (Or.inl k3)]
    rw [if_neg k3]
    by_cases k4 : k = 4
    · rw [if_neg (fun z => z k4), if_pos (Or.inr k4)]
    rw [if_pos k4, if_neg (fun z => z.elim k3 k4), vP_s hx, s_close (iP_s hx), er_i, sP_s]
theorem upd_lt {f : Nat → Int32} {k j : Nat} {x : Int32} (h : j < k) : upd f k x j = f j := pk_un (by omega)
/-- a sign is taken -/
theorem s_take {A : List (Nat × Nat × Nat)} {aw k a : Nat} (hx : iP hp o (sg, ki, wh, ot, ln, A.length)) (ha : A.length < 60) (hc : c < 128) (haw : aw < 4) (hI : PInv A aw k a ki wh ot) :
    ∃ ki' wh' ot' : Nat → Int32, match stP aw k a c with
      | none => cl pg 30 [.ref o, .int (nI aw), .int (nI c)] hp = q_i (nI 4) (sP hp o (sg, ki', wh', ot', ln, A.length)) ∧ PInv A 0 0 0 ki' wh' ot'
      | some (aw', k', a', none) => cl pg 30 [.ref o, .int (nI aw), .int (nI c)] hp = q_i (nI aw') (sP hp o (sg, ki', wh', ot', ln, A.length)) ∧ PInv A aw' k' a' ki' wh' ot'
      | some (aw', k', a', some e) => cl pg 30 [.ref o, .int (nI aw), .int (nI c)] hp = q_i (nI aw') (sP hp o (sg, ki', wh', ot', ln, A.length + 1)) ∧ PInv (A ++ [e]) aw' k' a' ki' wh' ot' := by
  have hkk : ∀ d, d < 9 → (nI aw = nI d) = (aw = d) := fun d hd => propext (nI_eq (by omega) (by omega))
  have keep : ∀ {ki' wh' ot' : Nat → Int32}, (∀ j, j < A.length → ki' j = ki j ∧ wh' j = wh j ∧ ot' j = ot j) → ∀ (j : Nat) (e : Nat × Nat × Nat), A[j]? = some e → ki' j = nI e.1 ∧ wh' j = nI e.2.1 ∧ ot' j = nI e.2.2 := by
    intro ki' wh' ot' h j e he
    obtain ⟨e1, e2, e3⟩ := h j (List.getElem?_eq_some_iff.mp he).1
    rw [e1, e2, e3]
    exact hI.1 j e he
  have hin : ∀ d, d < 9 → True := fun _ _ => trivial
  rw [E30, B30_0, gP_5 hx, s_within, er_i]
  dsimp only
  rw [rgb (by omega) (by decide) (by decide)]
  simp only [hkk 0 (by omega), hkk 1 (by omega), hkk 2 (by omega), bI_0, B30_35, B30_53]
  rw [if_pos (by simp; omega)]
  unfold stP
  by_cases a0 : aw = 0
  · rw [if_pos a0, if_pos a0, vP hx, s_takeFirst hx ha hc, er_i]
    refine ⟨upd ki A.length (nI (if c = 103 then 6 else 7)), upd wh A.length (nI (if 65 ≤ c ∧ c ≤ 72 then c - 65 else 0)), upd ot A.length (nI 0), ?_⟩
    have hs : ∀ j, j < A.length → upd ki A.length (nI (if c = 103 then 6 else 7)) j = ki j ∧ upd wh A.length (nI (if 65 ≤ c ∧ c ≤ 72 then c - 65 else 0)) j = wh j ∧ upd ot A.length (nI 0) j = ot j := fun j hj => ⟨upd_lt hj, upd_lt hj, upd_lt hj⟩
    by_cases c1 : c = 46
    · subst c1
      exact ⟨rfl, PInv_app hI hs ⟨pk_us, pk_us, pk_us⟩⟩
    rw [if_neg c1, if_neg c1, if_neg c1]
    by_cases c2 : c = 103
    · subst c2
      exact ⟨rfl, keep hs, fun z => (by omega), fun z => (by omega), fun _ => ⟨pk_us, pk_us⟩⟩
    rw [if_neg c2, if_neg c2]
    by_cases c3 : 65 ≤ c ∧ c ≤ 72
    · simp only [c3, and_self, ↓reduceIte] at hs ⊢
      exact ⟨trivial, keep hs, fun _ => ⟨pk_us, pk_us⟩, fun z => (by omega), fun z => (by omega)⟩
    · rw [if_neg c3, if_neg c3]
      exact ⟨rfl, keep hs, fun z => (by omega), fun z => (by omega), fun z => (by omega)⟩
  rw [if_neg a0, if_neg a0]
  by_cases a1 : aw = 1
  · obtain ⟨i1, i2⟩ := hI.2.1 a1
    rw [if_pos a1, if_pos a1, vP hx, s_takeDeed hx ha hc]
    have ks : ∀ x j, j < A.length → upd ki A.length x j = ki j ∧ wh j = wh j ∧ ot j = ot j := fun x j hj => ⟨upd_lt hj, rfl, rfl⟩
    unfold ddo
    by_cases c1 : c = 37
    · subst c1
      exact ⟨_, _, _, rfl, PInv_app hI (ks _) ⟨pk_us, i1, i2⟩⟩
    rw [if_neg c1, if_neg c1]
    by_cases c2 : c = 47
    · subst c2
      exact ⟨_, _, _, rfl, PInv_app hI (ks _) ⟨pk_us, i1, i2⟩⟩
    rw [if_neg c2, if_neg c2]
    by_cases c3 : c = 94
    · subst c3
      exact ⟨_, _, _, rfl, PInv_app hI (ks _) ⟨pk_us, i1, i2⟩⟩
    rw [if_neg c3, if_neg c3]
    by_cases c4 : c = 95
    · subst c4
      exact ⟨_, _, _, rfl, PInv_app hI (ks _) ⟨pk_us, i1, i2⟩⟩
    rw [if_neg c4, if_neg c4]
    by_cases c5 : c = 120
    · subst c5
      exact ⟨_, _, _, rfl, keep (ks (nI 3)), fun z => (by omega), fun _ => ⟨i1, pk_us⟩, fun z => (by omega)⟩
    rw [if_neg c5, if_neg c5]
    by_cases c6 : c = 126
    · subst c6
      exact ⟨_, _, _, rfl, keep (ks (nI 4)), fun z => (by omega), fun _ => ⟨i1, pk_us⟩, fun z => (by omega)⟩
    rw [if_neg c6, if_neg c6]
    refine ⟨ki, wh, ot, ?_, hI.1, fun z => (by omega), fun z => (by omega), fun z => (by omega)⟩
    show qr_i (q_i (nI 4) hp) _ = _
    rw [er_i, sP_i hx]
  rw [if_neg a1, if_neg a1]
  by_cases a2 : aw = 2
  · obtain ⟨i1, i2⟩ := hI.2.2.1 a2
    rw [if_pos a2, if_pos a2, gP_3 hx, gP_5 hx, wP_ot hx ha, s_within, er_i, rgb (by omega) (by decide) (by decide)]
    simp only [bI_0]
    have ks : ∀ x j, j < A.length → ki j = ki j ∧ wh j = wh j ∧ upd ot A.length x j = ot j := fun x j hj => ⟨rfl, rfl, upd_lt hj⟩
    by_cases c3 : 65 ≤ c ∧ c ≤ 72
    · rw [if_pos c3, if_neg (by simp [c3]), vP_s hx, s_close (iP_s hx), er_i, sP_s]
      exact ⟨_, _, _, rfl, PInv_app hI (ks _) ⟨i2, i1, by rw [pk_us, pk_sub c3.1]⟩⟩
    · rw [if_neg c3, if_pos (by simp [c3])]
      exact ⟨_, _, _, rfl, keep (ks _), fun z => (by omega), fun z => (by omega), fun z => (by omega)⟩
  have a3 : aw = 3 := by omega
  obtain ⟨i1, i2⟩ := hI.2.2.2 a3
  rw [if_neg a2, if_neg a2, gP_3 hx, gP_5 hx, wP_ot hx ha, s_within, er_i, rgb (by omega) (by decide) (by decide)]
  simp only [bI_0]
  have ks : ∀ x j, j < A.length → ki j = ki j ∧ wh j = wh j ∧ upd ot A.length x j = ot j := fun x j hj => ⟨rfl, rfl, upd_lt hj⟩
  by_cases c3 : 49 ≤ c ∧ c ≤ 57
  · rw [if_pos c3, if_neg (by simp [c3]), vP_s hx, s_close (iP_s hx), er_i, sP_s]
    exact ⟨_, _, _, rfl, PInv_app hI (ks _) ⟨i2, i1, by rw [pk_us, pk_sub (by omega)]⟩⟩
  · rw [if_neg c3, if_pos (by simp [c3])]
    exact ⟨_, _, _, rfl, keep (ks _), fun z => (by omega), fun z => (by omega), fun z => (by omega)⟩
end PD
