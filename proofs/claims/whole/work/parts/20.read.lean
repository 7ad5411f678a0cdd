/-! The class's Pad: the text read. -/
/-- the fault's place, and the acts ahead of it -/
def rdP : List Nat → Nat → Nat → Nat → Nat → List (Nat × Nat × Nat) → Option Nat × List (Nat × Nat × Nat)
  | [], pos, aw, _, _, A => (if aw = 0 then none else some pos, A)
  | c :: cs, pos, aw, k, a, A => match stP aw k a c with
    | none => (some pos, A)
    | some (aw', k', a', none) => rdP cs (pos + 1) aw' k' a' A
    | some (aw', k', a', some e) => rdP cs (pos + 1) aw' k' a' (A ++ [e])
theorem stP_aw {aw k a c : Nat} {r : Nat × Nat × Nat × Option (Nat × Nat × Nat)} (h : stP aw k a c = some r) : r.1 < 4 := by
  unfold stP at h
  (repeat' split at h) <;> first
    | (cases h; done)
    | (cases h
       show _ < 4
       omega)
/-- what is begun -/
def vCur (aw k a : Nat) : Prop := (aw = 1 ∨ aw = 2 → a < 8) ∧ (aw = 2 → k < 9)
theorem stP_ok {aw k a c : Nat} {r : Nat × Nat × Nat × Option (Nat × Nat × Nat)} (hv : vCur aw k a) (haw : aw < 4) (h : stP aw k a c = some r) : vCur r.1 r.2.1 r.2.2.1 ∧ ∀ e, r.2.2.2 = some e → vAct e := by
  obtain ⟨h1, h2⟩ := hv
  have h3 : aw = 1 ∨ aw = 2 → a < 8 := h1
  unfold stP at h
  unfold vCur vAct
  (repeat' split at h) <;> first
    | (cases h; done)
    | (cases h
       dsimp only
       refine ⟨⟨fun z => ?_, fun z => ?_⟩, fun e he => ?_⟩
       · omega
       · omega
       · first
         | (cases he; done)
         | (cases he
            exact ⟨by dsimp only; omega, by dsimp only; omega, by dsimp only; omega⟩))
theorem rdP_ok : ∀ (cs : List Nat) (pos aw k a : Nat) (A : List (Nat × Nat × Nat)), aw < 4 → vCur aw k a → (∀ e ∈ A, vAct e) → ∀ e ∈ (rdP cs pos aw k a A).2, vAct e
  | [], _, _, _, _, _, _, _, hA => hA
  | c :: cs, pos, aw, k, a, A, haw, hv, hA => by
    unfold rdP
    cases hs : stP aw k a c with
    | none => exact hA
    | some r =>
      obtain ⟨aw', k', a', e⟩ := r
      have h1 := stP_ok hv haw hs
      have h2 := stP_aw hs
      cases e with
      | none => exact rdP_ok cs _ _ _ _ _ h2 h1.1 hA
      | some e =>
        refine rdP_ok cs _ _ _ _ _ h2 h1.1 fun q hq => ?_
        rcases List.mem_append.mp hq with h | h
        · exact hA q h
        · rw [List.mem_singleton.mp h]
          exact h1.2 e rfl
theorem rdP_len : ∀ (cs : List Nat) (pos aw k a : Nat) (A : List (Nat × Nat × Nat)), (rdP cs pos aw k a A).2.length ≤ A.length + cs.length
  | [], _, _, _, _, _ => Nat.le_refl _
  | c :: cs, pos, aw, k, a, A => by
    unfold rdP
    rw [List.length_cons]
    cases stP aw k a c with
    | none => dsimp only; omega
    | some r =>
      obtain ⟨aw', k', a', e⟩ := r
      cases e with
      | none => have := rdP_len cs (pos + 1) aw' k' a' A; dsimp only; omega
      | some e => have := rdP_len cs (pos + 1) aw' k' a' (A ++ [e]); rw [List.length_append, List.length_singleton] at this; dsimp only; omega
section RD
variable {hp : pH} {o ln ac : Nat} {sg : List Nat} {ki wh ot : Nat → Int32}
theorem s_read (hx : iP hp o (sg, ki, wh, ot, ln, ac)) (hl : sg.length = 60) (hn : ln ≤ 60) (hc : ∀ i, i < ln → sg.getD i 0 < 128) :
    ∃ ki' wh' ot' : Nat → Int32, cl pg 29 [.ref o] hp = q_i ((rdP (sg.take ln) 0 0 0 0 []).1.elim (-6) nI) (sP hp o (sg, ki', wh', ot', ln, (rdP (sg.take ln) 0 0 0 0 []).2.length)) ∧ PInv (rdP (sg.take ln) 0 0 0 0 []).2 0 0 0 ki' wh' ot' := by
  have key : ∀ (rest : List Nat) (i aw k a : Nat) (A : List (Nat × Nat × Nat)) (ki wh ot : Nat → Int32), (sg.take ln).drop i = rest → i + rest.length = ln → A.length ≤ i → aw < 4 → PInv A aw k a ki wh ot → ∃ ki' wh' ot' : Nat → Int32, dn pg 29 7 [some (.ref o), some (.int (nI aw)), some (.int (nI i))] [] (sP hp o (sg, ki, wh, ot, ln, A.length)) = q_i ((rdP rest i aw k a A).1.elim (-6) nI) (sP hp o (sg, ki', wh', ot', ln, (rdP rest i aw k a A).2.length)) ∧ PInv (rdP rest i aw k a A).2 0 0 0 ki' wh' ot' := by
    intro rest
    induction rest with
    | nil =>
      intro i aw k a A ki wh ot hd hi hA haw hI
      have : i = ln := by simpa using hi
      subst this
      refine ⟨ki, wh, ot, ?_, hI.1, fun z => (by omega), fun z => (by omega), fun z => (by omega)⟩
      rw [B29_7, gP_4s hx]
      dsimp only
      rw [if_pos (nI_le (Nat.le_refl i) (by omega)), B29_29, gP_4s hx]
      simp only [B29_35]
      unfold rdP
      by_cases h0 : aw = 0
      · subst h0
        rw [if_neg (fun z => z rfl)]
        rfl
      · rw [if_pos (fun z => h0 ((nI_eq (by omega) (by omega)).mp z)), if_neg h0]
        rfl
    | cons c cs ih =>
      intro i aw k a A ki wh ot hd hi hA haw hI
      rw [List.length_cons] at hi
      have hiln : i < ln := by omega
      have hci : sg.getD i 0 = c := by
        have h1 : ((sg.take ln).drop i)[0]? = some c := by rw [hd]; rfl
        rw [List.getElem?_drop, Nat.add_zero, List.getElem?_take_of_lt hiln] at h1
        rw [List.getD_eq_getElem?_getD, h1]
        rfl
      have hcs : (sg.take ln).drop (i + 1) = cs := by
        rw [← List.drop_drop, hd]
        rfl
      have hc128 : c < 128 := by rw [← hci]; exact hc i hiln
      rw [B29_7, gP_4s hx]
      dsimp only
      rw [if_neg (nI_ge hiln (by omega)), if_neg (nI_ge (by omega) (by omega)), gP_0s hx, rP_sgs hx _ (by omega), vP_s hx]
      dsimp only
      rw [hci]
      obtain ⟨ki', wh', ot', hs⟩ := s_take (iP_s hx) (by omega) hc128 haw hI
      unfold rdP
      cases hst : stP aw k a c with
      | none =>
        rw [hst] at hs
        obtain ⟨h1, h2⟩ := hs
        refine ⟨ki', wh', ot', ?_, h2⟩
        rw [h1, er_i, if_neg (fun z => z rfl), sP_s]
        rfl
      | some r =>
        obtain ⟨aw', k', a', e⟩ := r
        have haw' := stP_aw hst
        dsimp only at haw'
        rw [hst] at hs
        have ne4 : ¬ nI aw' = nI 4 := fun z => by have := (nI_eq (by omega) (by omega)).mp z; omega
        cases e with
        | none =>
          obtain ⟨h1, h2⟩ := hs
          obtain ⟨x1, x2, x3, h3, h4⟩ := ih (i + 1) aw' k' a' A ki' wh' ot' hcs (by omega) (by omega) haw' h2
          refine ⟨x1, x2, x3, ?_, h4⟩
          rw [h1, er_i, if_pos ne4, nI_add, sP_s]
          exact h3
        | some e =>
          obtain ⟨h1, h2⟩ := hs
          have hle : (A ++ [e]).length = A.length + 1 := by rw [List.length_append, List.length_singleton]
          obtain ⟨x1, x2, x3, h3, h4⟩ := ih (i + 1) aw' k' a' (A ++ [e]) ki' wh' ot' hcs (by omega) (by omega) haw' h2
          refine ⟨x1, x2, x3, ?_, h4⟩
          rw [h1, er_i, if_pos ne4, nI_add, sP_s]
          rw [hle] at h3
          exact h3
  obtain ⟨x1, x2, x3, h3, h4⟩ := key (sg.take ln) 0 0 0 0 [] ki wh ot rfl (by rw [List.length_take]; omega) (Nat.le_refl _) (by omega) ⟨fun j e h => by simp at h, fun z => (by omega), fun z => (by omega), fun z => (by omega)⟩
  refine ⟨x1, x2, x3, ?_, h4⟩
  rw [E29, B29_0, pP_5 hx]
  exact h3
end RD
