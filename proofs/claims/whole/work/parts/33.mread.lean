/-! The reference reads its pad. -/
abbrev mA (x : aM) (ki wh ot : Nat → Int32) (ac : Nat) : aM := (x.1, x.2.1, x.2.2.1, x.2.2.2.1, (ki, wh, ot, ac), x.2.2.2.2.2)
/-- kinds as the class numbers them, as the reference does -/
def mkN (k : Nat) : Nat := if k = 8 then 5 else if k = 6 then 6 else if k = 7 then 7 else k - 1
theorem ck_mk : ∀ k, k < 9 → 1 ≤ k → ckN (mkN k) = k ∧ mkN k < 8 ∧ (mkN k = 6 ↔ k = 6) := by decide
def dueN (aw k : Nat) : Nat := if aw = 2 then (if k = 3 then 2 else 3) else if aw = 3 then 4 else aw
def MInv (A : List (Nat × Nat × Nat)) (aw a : Nat) (ki wh ot : Nat → Int32) : Prop :=
  (∀ (j : Nat) (e : Nat × Nat × Nat), A[j]? = some e → ki j = nI (mkN e.1) ∧ wh j = nI e.2.1 ∧ ot j = nI e.2.2) ∧ (aw = 1 ∨ aw = 2 → wh A.length = nI a) ∧ (aw = 3 → wh A.length = nI 0)
theorem MInv_app {A : List (Nat × Nat × Nat)} {e : Nat × Nat × Nat} {aw a : Nat} {ki wh ot ki' wh' ot' : Nat → Int32} (h : MInv A aw a ki wh ot) (hs : ∀ j, j < A.length → ki' j = ki j ∧ wh' j = wh j ∧ ot' j = ot j) (hn : ki' A.length = nI (mkN e.1) ∧ wh' A.length = nI e.2.1 ∧ ot' A.length = nI e.2.2) : MInv (A ++ [e]) 0 0 ki' wh' ot' := by
  refine ⟨fun j q hq => ?_, fun z => (by omega), fun z => (by omega)⟩
  by_cases hj : j < A.length
  · rw [List.getElem?_append_left hj] at hq
    obtain ⟨e1, e2, e3⟩ := hs j hj
    rw [e1, e2, e3]
    exact h.1 j q hq
  · rw [List.getElem?_append_right (by omega)] at hq
    have hj2 : j - A.length < 1 := (List.getElem?_eq_some_iff.mp hq).1
    have hj3 : j = A.length := by omega
    subst hj3
    rw [Nat.sub_self] at hq
    cases hq
    exact hn
/-- the kinds that are read -/
def vKnd (aw k : Nat) : Prop := aw = 2 → k = 3 ∨ k = 4
theorem stP_knd {aw k a c : Nat} {r : Nat × Nat × Nat × Option (Nat × Nat × Nat)} (hv : vKnd aw k) (h : stP aw k a c = some r) : vKnd r.1 r.2.1 ∧ ∀ e, r.2.2.2 = some e → 1 ≤ e.1 := by
  unfold stP at h
  unfold vKnd at hv ⊢
  split at h
  · split at h
    · cases h
      exact ⟨fun z => (by dsimp only at z; omega), fun e he => by cases he; decide⟩
    · split at h
      · cases h
        exact ⟨fun z => (by dsimp only at z; omega), fun e he => by cases he⟩
      · split at h
        · cases h
          exact ⟨fun z => (by dsimp only at z; omega), fun e he => by cases he⟩
        · cases h
  · split at h
    · split at h
      · cases h
        exact ⟨fun z => (by dsimp only at z; omega), fun e he => by cases he; dsimp only; omega⟩
      · split at h
        · cases h
          exact ⟨fun z => (by dsimp only at z; omega), fun e he => by cases he; dsimp only; omega⟩
        · split at h
          · cases h
            exact ⟨fun z => (by dsimp only at z; omega), fun e he => by cases he; dsimp only; omega⟩
          · split at h
            · cases h
              exact ⟨fun z => (by dsimp only at z; omega), fun e he => by cases he; dsimp only; omega⟩
            · split at h
              · cases h
                exact ⟨fun _ => Or.inl rfl, fun e he => by cases he⟩
              · split at h
                · cases h
                  exact ⟨fun _ => Or.inr rfl, fun e he => by cases he⟩
                · cases h
    · split at h
      · split at h
        · cases h
          refine ⟨fun z => (by dsimp only at z; omega), fun e he => ?_⟩
          cases he
          dsimp only
          have := hv (by assumption)
          omega
        · cases h
      · split at h
        · cases h
          exact ⟨fun z => (by dsimp only at z; omega), fun e he => by cases he; dsimp only; omega⟩
        · cases h
theorem rdP_knd : ∀ (cs : List Nat) (pos aw k a : Nat) (A : List (Nat × Nat × Nat)), vKnd aw k → (∀ e ∈ A, 1 ≤ e.1) → ∀ e ∈ (rdP cs pos aw k a A).2, 1 ≤ e.1
  | [], _, _, _, _, _, _, hA => hA
  | c :: cs, pos, aw, k, a, A, hv, hA => by
    unfold rdP
    cases hs : stP aw k a c with
    | none => exact hA
    | some r =>
      obtain ⟨aw', k', a', e⟩ := r
      have h1 := stP_knd hv hs
      cases e with
      | none => exact rdP_knd cs _ _ _ _ _ h1.1 hA
      | some e =>
        refine rdP_knd cs _ _ _ _ _ h1.1 fun q hq => ?_
        rcases List.mem_append.mp hq with h | h
        · exact hA q h
        · rw [List.mem_singleton.mp h]
          exact h1.2 e rfl
section MR
variable {hp : pH} {o ac c : Nat} {x : aM} {ki wh ot : Nat → Int32}
theorem s_mclose (hx : iM hp o (mA x ki wh ot ac)) (ha : ac < 60) (z1 z2 : Int32) : cl pg 123 [.ref o, .int z1, .int z2] hp = q_i (nI 0) (sM hp o (mA x (upd ki ac z1) wh (upd ot ac z2) (ac + 1))) := by
  rw [E123, B123_0, gM_14 hx, gM_17 hx]
  dsimp only
  rw [wM_ki hx ha, gM_16s hx, gM_17s hx]
  dsimp only
  rw [wM_ots hx ha, gM_17s hx]
  dsimp only
  rw [nI_add, pM_17s hx]
theorem s_isLetter (hc : c < 128) (hp : pH) : cl pg 122 [.int (nI c)] hp = q_i (bI (decide (65 ≤ c ∧ c ≤ 72))) hp := by
  rw [E122, B122_0, s_in _ (by decide) (by decide), er_i, qz_b, rgb (by omega) (by decide) (by decide)]
theorem s_readOn {A : List (Nat × Nat × Nat)} {aw k a : Nat} (hx : iM hp o (mA x ki wh ot A.length)) (ha : A.length < 60) (hc : c < 128) (haw : aw < 4) (hk : vKnd aw k) (hI : MInv A aw a ki wh ot) : ∃ ki' wh' ot' : Nat → Int32,
    match stP aw k a c with
    | none => cl pg 120 [.ref o, .int (nI (dueN aw k)), .int (nI c)] hp = q_i (-6) (sM hp o (mA x ki' wh' ot' A.length))
    | some (aw', k', a', none) => cl pg 120 [.ref o, .int (nI (dueN aw k)), .int (nI c)] hp = q_i (nI (dueN aw' k')) (sM hp o (mA x ki' wh' ot' A.length)) ∧ MInv A aw' a' ki' wh' ot'
    | some (aw', k', a', some e) => cl pg 120 [.ref o, .int (nI (dueN aw k)), .int (nI c)] hp = q_i (nI (dueN aw' k')) (sM hp o (mA x ki' wh' ot' (A.length + 1))) ∧ MInv (A ++ [e]) aw' a' ki' wh' ot' := by
  have hcc : ∀ d, d < 128 → (nI c = nI d) = (c = d) := fun d hd => propext (nI_eq (by omega) (by omega))
  have keep : ∀ {ki' wh' ot' : Nat → Int32}, (∀ j, j < A.length → ki' j = ki j ∧ wh' j = wh j ∧ ot' j = ot j) → ∀ (j : Nat) (e : Nat × Nat × Nat), A[j]? = some e → ki' j = nI (mkN e.1) ∧ wh' j = nI e.2.1 ∧ ot' j = nI e.2.2 := by
    intro ki' wh' ot' h j e he
    obtain ⟨e1, e2, e3⟩ := h j (List.getElem?_eq_some_iff.mp he).1
    rw [e1, e2, e3]
    exact hI.1 j e he
  have cls : ∀ z1 z2 : Int32, ∀ j, j < A.length → upd ki A.length z1 j = ki j ∧ wh j = wh j ∧ upd ot A.length z2 j = ot j := fun z1 z2 j hj => ⟨upd_lt hj, rfl, upd_lt hj⟩
  rw [E120, B120_0]
  unfold stP
  by_cases a0 : aw = 0
  · subst a0
    have e0 : dueN 0 k = 0 := rfl
    rw [e0, if_pos rfl, if_pos rfl, vM hx]
    have at12 : ∀ z : Nat, dn pg 121 12 [some (.ref o), some (.int (nI c))] [.int (nI z), .int (nI A.length), .ref (o + 11)] hp = (if 65 ≤ c ∧ c ≤ 72 then q_i (nI 1) (sM hp o (mA x ki (upd wh A.length (nI z)) ot A.length)) else if c = 103 then q_i (nI 4) (sM hp o (mA x ki (upd wh A.length (nI z)) ot A.length)) else if c = 46 then q_i (nI 0) (sM hp o (mA x (upd ki A.length (nI 7)) (upd wh A.length (nI z)) (upd ot A.length (nI 0)) (A.length + 1))) else q_i (-6) (sM hp o (mA x ki (upd wh A.length (nI z)) ot A.length))) := by
      intro z
      rw [B121_12, wM_wh hx ha, s_isLetter hc, er_i]
      simp only [bI_0, hcc 103 (by omega), hcc 46 (by omega), B121_32]
      by_cases c3 : 65 ≤ c ∧ c ≤ 72
      · rw [if_neg (by simp [c3]), if_pos c3]
      · rw [if_pos (by simp [c3]), if_neg c3]
        by_cases c2 : c = 103
        · rw [if_neg (not_not_intro c2), if_pos c2]
        · rw [if_pos c2, if_neg c2]
          by_cases c1 : c = 46
          · rw [if_neg (not_not_intro c1), if_pos c1, vM_s hx, s_mclose (iM_s hx) ha, er_i, sM_s]
          · rw [if_pos c1, if_neg c1]
    have e21 : cl pg 121 [.ref o, .int (nI c)] hp = dn pg 121 12 [some (.ref o), some (.int (nI c))] [.int (nI (if 65 ≤ c ∧ c ≤ 72 then c - 65 else 0)), .int (nI A.length), .ref (o + 11)] hp := by
      rw [E121, B121_0, gM_15 hx, gM_17 hx, s_isLetter hc, er_i]
      simp only [bI_0]
      by_cases c3 : 65 ≤ c ∧ c ≤ 72
      · rw [if_neg (by simp [c3]), pk_sub c3.1, if_pos c3]
      · rw [if_pos (by simp [c3]), if_neg c3]
    rw [e21, at12]
    have ws : ∀ z : Int32, ∀ j, j < A.length → ki j = ki j ∧ upd wh A.length z j = wh j ∧ ot j = ot j := fun z j hj => ⟨rfl, upd_lt hj, rfl⟩
    have ws3 : ∀ z1 z z2 : Int32, ∀ j, j < A.length → upd ki A.length z1 j = ki j ∧ upd wh A.length z j = wh j ∧ upd ot A.length z2 j = ot j := fun z1 z z2 j hj => ⟨upd_lt hj, upd_lt hj, upd_lt hj⟩
    by_cases c1 : c = 46
    · subst c1
      exact ⟨_, _, _, rfl, MInv_app hI (ws3 _ _ _) ⟨pk_us, pk_us, pk_us⟩⟩
    rw [if_neg c1]
    by_cases c2 : c = 103
    · subst c2
      exact ⟨_, _, _, rfl, keep (ws _), fun z => (by omega), fun _ => pk_us⟩
    rw [if_neg c2, if_neg c2, if_neg c1]
    by_cases c3 : 65 ≤ c ∧ c ≤ 72
    · rw [if_pos c3, if_pos c3, if_pos c3, er_i]
      exact ⟨_, _, _, rfl, keep (ws _), fun _ => pk_us, fun z => (by omega)⟩
    · rw [if_neg c3, if_neg c3, if_neg c3, er_i]
      exact ⟨_, _, _, rfl⟩
  rw [if_neg a0]
  by_cases a1 : aw = 1
  · subst a1
    have i1 := hI.2.1 (Or.inl rfl)
    have e0 : dueN 1 k = 1 := rfl
    rw [e0, if_neg (show ¬ nI 1 = nI 0 by decide), if_pos (show nI 1 = nI 1 from rfl), if_pos (show (1 : Nat) = 1 from rfl), vM hx, E124, B124_0]
    simp only [hcc 37 (by omega), hcc 47 (by omega), hcc 94 (by omega), hcc 95 (by omega), hcc 120 (by omega), hcc 126 (by omega), vM hx, s_mclose hx ha, er_i]
    by_cases c1 : c = 37
    · subst c1
      exact ⟨_, _, _, rfl, MInv_app hI (cls _ _) ⟨pk_us, i1, pk_us⟩⟩
    rw [if_neg c1, if_neg c1]
    by_cases c2 : c = 47
    · subst c2
      exact ⟨_, _, _, rfl, MInv_app hI (cls _ _) ⟨pk_us, i1, pk_us⟩⟩
    rw [if_neg c2, if_neg c2]
    by_cases c3 : c = 94
    · subst c3
      exact ⟨_, _, _, rfl, MInv_app hI (cls _ _) ⟨pk_us, i1, pk_us⟩⟩
    rw [if_neg c3, if_neg c3]
    by_cases c4 : c = 95
    · subst c4
      exact ⟨_, _, _, rfl, MInv_app hI (cls _ _) ⟨pk_us, i1, pk_us⟩⟩
    rw [if_neg c4, if_neg c4]
    by_cases c5 : c = 120
    · subst c5
      refine ⟨ki, wh, ot, ?_, hI.1, fun _ => i1, fun z => (by omega)⟩
      rw [sM_i hx]
      rfl
    rw [if_neg c5, if_neg c5]
    by_cases c6 : c = 126
    · subst c6
      refine ⟨ki, wh, ot, ?_, hI.1, fun _ => i1, fun z => (by omega)⟩
      rw [sM_i hx]
      rfl
    rw [if_neg c6, if_neg c6]
    refine ⟨ki, wh, ot, ?_⟩
    rw [sM_i hx]
    rfl
  rw [if_neg a1]
  by_cases a2 : aw = 2
  · subst a2
    have i1 := hI.2.1 (Or.inr rfl)
    rw [if_pos rfl]
    have fin : ∀ d kk, (d = 2 ∧ kk = 2 ∨ d = 3 ∧ kk = 3) → kk = mkN k → ∃ ki' wh' ot' : Nat → Int32,
        match (if 65 ≤ c ∧ c ≤ 72 then some (0, 0, 0, some (k, a, c - 65)) else none : Option (Nat × Nat × Nat × Option (Nat × Nat × Nat))) with
        | none => (if nI d = nI 0 then qv hp o 9 (qr_i (cl pg 121 [.ref o, .int (nI c)] hp) (fun y1 hp1 => q_i y1 hp1)) else if nI d = nI 1 then qv hp o 9 (qr_i (cl pg 124 [.ref o, .int (nI c)] hp) (fun y2 hp2 => q_i y2 hp2)) else if nI d = nI 4 then qr_i (cl pg 109 [.long (nI c).toInt64, .long (lN 49), .long (lN 57)] hp) (fun y3 hp3 => if y3 = nI 0 then dn pg 120 24 [some (.ref o), some (.int (nI d)), some (.int (nI c))] [.int (-6)] hp3 else qv hp3 o 9 (qr_i (cl pg 123 [.ref o, .int (nI 6), .int (nI c - (nI 48))] hp3) (fun y4 hp4 => dn pg 120 24 [some (.ref o), some (.int (nI d)), some (.int (nI c))] [.int y4] hp4))) else qr_i (cl pg 122 [.int (nI c)] hp) (fun y5 hp5 => if y5 = nI 0 then dn pg 120 41 [some (.ref o), some (.int (nI d)), some (.int (nI c))] [.int (-6)] hp5 else if ¬ nI d = (nI 2) then dn pg 120 35 [some (.ref o), some (.int (nI d)), some (.int (nI c))] [.int (nI 3), .ref o] hp5 else dn pg 120 35 [some (.ref o), some (.int (nI d)), some (.int (nI c))] [.int (nI 2), .ref o] hp5)) = q_i (-6) (sM hp o (mA x ki' wh' ot' A.length))
        | some (aw', k', a', none) => True
        | some (aw', k', a', some e) => (if nI d = nI 0 then qv hp o 9 (qr_i (cl pg 121 [.ref o, .int (nI c)] hp) (fun y1 hp1 => q_i y1 hp1)) else if nI d = nI 1 then qv hp o 9 (qr_i (cl pg 124 [.ref o, .int (nI c)] hp) (fun y2 hp2 => q_i y2 hp2)) else if nI d = nI 4 then qr_i (cl pg 109 [.long (nI c).toInt64, .long (lN 49), .long (lN 57)] hp) (fun y3 hp3 => if y3 = nI 0 then dn pg 120 24 [some (.ref o), some (.int (nI d)), some (.int (nI c))] [.int (-6)] hp3 else qv hp3 o 9 (qr_i (cl pg 123 [.ref o, .int (nI 6), .int (nI c - (nI 48))] hp3) (fun y4 hp4 => dn pg 120 24 [some (.ref o), some (.int (nI d)), some (.int (nI c))] [.int y4] hp4))) else qr_i (cl pg 122 [.int (nI c)] hp) (fun y5 hp5 => if y5 = nI 0 then dn pg 120 41 [some (.ref o), some (.int (nI d)), some (.int (nI c))] [.int (-6)] hp5 else if ¬ nI d = (nI 2) then dn pg 120 35 [some (.ref o), some (.int (nI d)), some (.int (nI c))] [.int (nI 3), .ref o] hp5 else dn pg 120 35 [some (.ref o), some (.int (nI d)), some (.int (nI c))] [.int (nI 2), .ref o] hp5)) = q_i (nI (dueN aw' k')) (sM hp o (mA x ki' wh' ot' (A.length + 1))) ∧ MInv (A ++ [e]) aw' a' ki' wh' ot' := by
      intro d kk hd hkk
      have n0 : ¬ nI d = nI 0 := fun z => by have := (nI_eq (by omega) (by omega)).mp z; omega
      have n1 : ¬ nI d = nI 1 := fun z => by have := (nI_eq (by omega) (by omega)).mp z; omega
      have n4 : ¬ nI d = nI 4 := fun z => by have := (nI_eq (by omega) (by omega)).mp z; omega
      simp only [if_neg n0, if_neg n1, if_neg n4]
      rw [s_isLetter hc, er_i]
      simp only [bI_0, B120_35, B120_41, vM hx]
      by_cases c3 : 65 ≤ c ∧ c ≤ 72
      · rw [if_pos c3, if_neg (by simp [c3]), pk_sub c3.1]
        rcases hd with ⟨rfl, rfl⟩ | ⟨rfl, rfl⟩
        · rw [if_neg (by decide), s_mclose hx ha, er_i]
          exact ⟨_, _, _, rfl, MInv_app hI (cls _ _) ⟨by rw [pk_us, hkk], i1, pk_us⟩⟩
        · rw [if_pos (by decide), s_mclose hx ha, er_i]
          exact ⟨_, _, _, rfl, MInv_app hI (cls _ _) ⟨by rw [pk_us, hkk], i1, pk_us⟩⟩
      · rw [if_neg c3, if_pos (by simp [c3])]
        refine ⟨ki, wh, ot, ?_⟩
        rw [sM_i hx]
    rcases hk rfl with h3 | h4
    · subst h3
      obtain ⟨ki', wh', ot', h⟩ := fin 2 2 (Or.inl ⟨rfl, rfl⟩) rfl
      refine ⟨ki', wh', ot', ?_⟩
      by_cases c3 : 65 ≤ c ∧ c ≤ 72
      · rw [if_pos c3] at h ⊢
        exact h
      · rw [if_neg c3] at h ⊢
        exact h
    · subst h4
      obtain ⟨ki', wh', ot', h⟩ := fin 3 3 (Or.inr ⟨rfl, rfl⟩) rfl
      refine ⟨ki', wh', ot', ?_⟩
      by_cases c3 : 65 ≤ c ∧ c ≤ 72
      · rw [if_pos c3] at h ⊢
        exact h
      · rw [if_neg c3] at h ⊢
        exact h
  have a3 : aw = 3 := by omega
  subst a3
  have i1 := hI.2.2 rfl
  have e0 : dueN 3 k = 4 := rfl
  rw [e0, if_neg (show ¬ nI 4 = nI 0 by decide), if_neg (show ¬ nI 4 = nI 1 by decide), if_pos (show nI 4 = nI 4 from rfl), if_neg (show ¬ (3 : Nat) = 2 by decide), s_in _ (by decide) (by decide), er_i, rgb (by omega) (by decide) (by decide)]
  simp only [bI_0, B120_24, vM hx]
  by_cases c3 : 49 ≤ c ∧ c ≤ 57
  · rw [if_pos c3, if_neg (by simp [c3]), pk_sub (by omega), s_mclose hx ha, er_i]
    exact ⟨_, _, _, rfl, MInv_app hI (cls _ _) ⟨pk_us, i1, pk_us⟩⟩
  · rw [if_neg c3, if_pos (by simp [c3])]
    refine ⟨ki, wh, ot, ?_⟩
    rw [sM_i hx]
theorem s_mfault (hx : iM hp o x) (hl : x.2.2.2.1.1.length = 60) (hn : x.2.2.2.1.2 ≤ 60) (hc : ∀ i, i < x.2.2.2.1.2 → x.2.2.2.1.1.getD i 0 < 128) : ∃ ki' wh' ot' ac', cl pg 119 [.ref o] hp = q_i ((rdP (x.2.2.2.1.1.take x.2.2.2.1.2) 0 0 0 0 []).1.elim (-6) nI) (sM hp o (mA x ki' wh' ot' ac')) ∧ ((rdP (x.2.2.2.1.1.take x.2.2.2.1.2) 0 0 0 0 []).1 = none → ac' = (rdP (x.2.2.2.1.1.take x.2.2.2.1.2) 0 0 0 0 []).2.length ∧ MInv (rdP (x.2.2.2.1.1.take x.2.2.2.1.2) 0 0 0 0 []).2 0 0 ki' wh' ot') := by
  obtain ⟨g0, g1, g2, ⟨sg, ln⟩, ⟨ki, wh, ot, ac⟩, g5, g6⟩ := x
  dsimp only at hl hn hc ⊢
  have key : ∀ cs i aw k a A ki wh ot, (sg.take ln).drop i = cs → i + cs.length = ln → A.length ≤ i → aw < 4 → vKnd aw k → MInv A aw a ki wh ot → ∃ ki' wh' ot' ac', dn pg 119 7 [some (.ref o), some (.int (nI (dueN aw k))), some (.int (nI i))] [] (sM hp o (g0, g1, g2, (sg, ln), (ki, wh, ot, A.length), g5, g6)) = q_i ((rdP cs i aw k a A).1.elim (-6) nI) (sM hp o (g0, g1, g2, (sg, ln), (ki', wh', ot', ac'), g5, g6)) ∧ ((rdP cs i aw k a A).1 = none → ac' = (rdP cs i aw k a A).2.length ∧ MInv (rdP cs i aw k a A).2 0 0 ki' wh' ot') := by
    intro cs
    induction cs with
    | nil =>
      intro i aw k a A ki wh ot hd hi hA haw hk hI
      rw [List.length_nil, Nat.add_zero] at hi
      subst hi
      refine ⟨ki, wh, ot, A.length, ?_, fun _ => ⟨rfl, hI.1, fun z => (by omega), fun z => (by omega)⟩⟩
      rw [B119_7, gM_13s hx]
      dsimp only
      rw [if_pos (nI_le (Nat.le_refl i) (by omega)), gM_13s hx]
      simp only [B119_31]
      unfold rdP
      have hdn : dueN aw k ≤ 4 ∧ (dueN aw k = 0 ↔ aw = 0) := by
        unfold dueN
        split
        · split <;> omega
        · split <;> omega
      by_cases h0 : aw = 0
      · rw [if_neg (not_not_intro (congrArg nI (hdn.2.mpr h0))), if_pos h0]
        rfl
      · rw [if_pos (fun z => h0 (hdn.2.mp ((nI_eq (by omega) (by omega)).mp z))), if_neg h0]
        rfl
    | cons c cs ih =>
      intro i aw k a A ki wh ot hd hi hA haw hk hI
      rw [List.length_cons] at hi
      have hiln : i < ln := by omega
      have hci : sg.getD i 0 = c := by
        have h1 : ((sg.take ln).drop i)[0]? = some c := by rw [hd]; rfl
        rw [List.getElem?_drop, Nat.add_zero, List.getElem?_take_of_lt hiln] at h1
        rw [List.getD_eq_getElem?_getD, h1]
        rfl
      have hcs : (sg.take ln).drop (i + 1) = cs := by
        rw [← List.drop_drop, hd]
        rfl
      have hc128 : c < 128 := by rw [← hci]; exact hc i hiln
      rw [B119_7, gM_13s hx]
      dsimp only
      rw [if_neg (nI_ge hiln (by omega)), gM_12s hx, rM_sgs hx _ (by omega), vM_s hx]
      dsimp only
      rw [hci]
      obtain ⟨ki', wh', ot', hs⟩ := s_readOn (x := (g0, g1, g2, (sg, ln), (ki, wh, ot, A.length), g5, g6)) (iM_s (y := (g0, g1, g2, (sg, ln), (ki, wh, ot, A.length), g5, g6)) hx) (by omega) hc128 haw hk hI
      unfold rdP
      cases hst : stP aw k a c with
      | none =>
        rw [hst] at hs
        refine ⟨ki', wh', ot', A.length, ?_, fun z => by cases z⟩
        rw [hs, er_i, if_neg (by decide), sM_s]
        rfl
      | some r =>
        obtain ⟨aw', k', a', e⟩ := r
        have haw' := stP_aw hst
        have hk' := (stP_knd hk hst).1
        dsimp only at haw' hk'
        rw [hst] at hs
        have hdn : dueN aw' k' ≤ 4 := by
          unfold dueN
          split
          · split <;> omega
          · split <;> omega
        have ge0 : nI 0 ≤ nI (dueN aw' k') := nI_le (Nat.zero_le _) (by omega)
        cases e with
        | none =>
          obtain ⟨h1, h2⟩ := hs
          obtain ⟨x1, x2, x3, x4, h3, h4⟩ := ih (i + 1) aw' k' a' A ki' wh' ot' hcs (by omega) (by omega) haw' hk' h2
          refine ⟨x1, x2, x3, x4, ?_, h4⟩
          rw [h1, er_i, if_pos ge0, nI_add, sM_s]
          exact h3
        | some e =>
          obtain ⟨h1, h2⟩ := hs
          have hle : (A ++ [e]).length = A.length + 1 := by rw [List.length_append, List.length_singleton]
          obtain ⟨x1, x2, x3, x4, h3, h4⟩ := ih (i + 1) aw' k' a' (A ++ [e]) ki' wh' ot' hcs (by omega) (by omega) haw' hk' h2
          refine ⟨x1, x2, x3, x4, ?_, h4⟩
          rw [h1, er_i, if_pos ge0, nI_add, sM_s]
          rw [hle] at h3
          exact h3
  obtain ⟨x1, x2, x3, x4, h3, h4⟩ := key (sg.take ln) 0 0 0 0 [] ki wh ot rfl (by rw [List.length_take]; omega) (Nat.le_refl _) (by omega) (fun z => by omega) ⟨fun j e h => by simp at h, fun z => (by omega), fun z => (by omega)⟩
  refine ⟨x1, x2, x3, x4, ?_, h4⟩
  rw [E119, B119_0, pM_17 hx]
  exact h3
end MR
