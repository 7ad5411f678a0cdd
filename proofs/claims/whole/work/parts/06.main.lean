/-! What a step does to the heap's size; whole runs. -/
def pm_Mono (f : pS → Option pS) : Prop := ∀ s s' : pS, f s = some s' → s.2.2.2.length ≤ s'.2.2.2.length ∧ pm_sz s.2.2.2 ≤ pm_sz s'.2.2.2
section Monos
variable {a b : Nat} {x : Int32} {y : Int64} {f : Int32 → Int32 → Int32} {g : Int64 → Int64 → Int64} {c1 : Int32 → Bool} {c2 : Int32 → Int32 → Bool} {sl : List (Int32 × Nat)}
theorem mo_iload : pm_Mono (op_iload a) := by
  intro s s' h
  unfold op_iload at h
  (repeat' split at h) <;> first | (cases h; exact ⟨Nat.le_refl _, Nat.le_refl _⟩) | cases h
theorem mo_lload : pm_Mono (op_lload a) := by
  intro s s' h
  unfold op_lload at h
  (repeat' split at h) <;> first | (cases h; exact ⟨Nat.le_refl _, Nat.le_refl _⟩) | cases h
theorem mo_aload : pm_Mono (op_aload a) := by
  intro s s' h
  unfold op_aload at h
  (repeat' split at h) <;> first | (cases h; exact ⟨Nat.le_refl _, Nat.le_refl _⟩) | cases h
theorem mo_istore : pm_Mono (op_istore a) := by
  intro s s' h
  unfold op_istore at h
  (repeat' split at h) <;> first | (cases h; exact ⟨Nat.le_refl _, Nat.le_refl _⟩) | cases h
theorem mo_lstore : pm_Mono (op_lstore a) := by
  intro s s' h
  unfold op_lstore at h
  (repeat' split at h) <;> first | (cases h; exact ⟨Nat.le_refl _, Nat.le_refl _⟩) | cases h
theorem mo_astore : pm_Mono (op_astore a) := by
  intro s s' h
  unfold op_astore at h
  (repeat' split at h) <;> first | (cases h; exact ⟨Nat.le_refl _, Nat.le_refl _⟩) | cases h
theorem mo_ic : pm_Mono (op_ic x) := by
  intro s s' h
  unfold op_ic at h
  (repeat' split at h) <;> first | (cases h; exact ⟨Nat.le_refl _, Nat.le_refl _⟩) | cases h
theorem mo_lc : pm_Mono (op_lc y) := by
  intro s s' h
  unfold op_lc at h
  (repeat' split at h) <;> first | (cases h; exact ⟨Nat.le_refl _, Nat.le_refl _⟩) | cases h
theorem mo_iinc : pm_Mono (op_iinc a x) := by
  intro s s' h
  unfold op_iinc at h
  (repeat' split at h) <;> first | (cases h; exact ⟨Nat.le_refl _, Nat.le_refl _⟩) | cases h
theorem mo_bin : pm_Mono (op_bin f) := by
  intro s s' h
  unfold op_bin at h
  (repeat' split at h) <;> first | (cases h; exact ⟨Nat.le_refl _, Nat.le_refl _⟩) | cases h
theorem mo_div : pm_Mono (op_div f) := by
  intro s s' h
  unfold op_div at h
  (repeat' split at h) <;> first | (cases h; exact ⟨Nat.le_refl _, Nat.le_refl _⟩) | cases h
theorem mo_lbin : pm_Mono (op_lbin g) := by
  intro s s' h
  unfold op_lbin at h
  (repeat' split at h) <;> first | (cases h; exact ⟨Nat.le_refl _, Nat.le_refl _⟩) | cases h
theorem mo_ldiv : pm_Mono (op_ldiv g) := by
  intro s s' h
  unfold op_ldiv at h
  (repeat' split at h) <;> first | (cases h; exact ⟨Nat.le_refl _, Nat.le_refl _⟩) | cases h
theorem mo_i2l : pm_Mono (op_i2l) := by
  intro s s' h
  unfold op_i2l at h
  (repeat' split at h) <;> first | (cases h; exact ⟨Nat.le_refl _, Nat.le_refl _⟩) | cases h
theorem mo_l2i : pm_Mono (op_l2i) := by
  intro s s' h
  unfold op_l2i at h
  (repeat' split at h) <;> first | (cases h; exact ⟨Nat.le_refl _, Nat.le_refl _⟩) | cases h
theorem mo_lcmp : pm_Mono (op_lcmp) := by
  intro s s' h
  unfold op_lcmp at h
  (repeat' split at h) <;> first | (cases h; exact ⟨Nat.le_refl _, Nat.le_refl _⟩) | cases h
theorem mo_dup : pm_Mono (op_dup) := by
  intro s s' h
  unfold op_dup at h
  (repeat' split at h) <;> first | (cases h; exact ⟨Nat.le_refl _, Nat.le_refl _⟩) | cases h
theorem mo_dup2 : pm_Mono (op_dup2) := by
  intro s s' h
  unfold op_dup2 at h
  (repeat' split at h) <;> first | (cases h; exact ⟨Nat.le_refl _, Nat.le_refl _⟩) | cases h
theorem mo_pop : pm_Mono (op_pop) := by
  intro s s' h
  unfold op_pop at h
  (repeat' split at h) <;> first | (cases h; exact ⟨Nat.le_refl _, Nat.le_refl _⟩) | cases h
theorem mo_goto : pm_Mono (op_goto a) := by
  intro s s' h
  unfold op_goto at h
  (repeat' split at h) <;> first | (cases h; exact ⟨Nat.le_refl _, Nat.le_refl _⟩) | cases h
theorem mo_if : pm_Mono (op_if c1 a) := by
  intro s s' h
  unfold op_if at h
  (repeat' split at h) <;> first | (cases h; exact ⟨Nat.le_refl _, Nat.le_refl _⟩) | cases h
theorem mo_icmp : pm_Mono (op_icmp c2 a) := by
  intro s s' h
  unfold op_icmp at h
  (repeat' split at h) <;> first | (cases h; exact ⟨Nat.le_refl _, Nat.le_refl _⟩) | cases h
theorem mo_sw : pm_Mono (op_sw a sl) := by
  intro s s' h
  unfold op_sw at h
  (repeat' split at h) <;> first | (cases h; exact ⟨Nat.le_refl _, Nat.le_refl _⟩) | cases h
theorem mo_getI : pm_Mono (op_getI a b) := by
  intro s s' h
  unfold op_getI at h
  (repeat' split at h) <;> first | (cases h; exact ⟨Nat.le_refl _, Nat.le_refl _⟩) | cases h
theorem mo_getA : pm_Mono (op_getA a b) := by
  intro s s' h
  unfold op_getA at h
  (repeat' split at h) <;> first | (cases h; exact ⟨Nat.le_refl _, Nat.le_refl _⟩) | cases h
theorem mo_iald : pm_Mono (op_iald a) := by
  intro s s' h
  unfold op_iald at h
  (repeat' split at h) <;> first | (cases h; exact ⟨Nat.le_refl _, Nat.le_refl _⟩) | cases h
theorem mo_lald : pm_Mono (op_lald) := by
  intro s s' h
  unfold op_lald at h
  (repeat' split at h) <;> first | (cases h; exact ⟨Nat.le_refl _, Nat.le_refl _⟩) | cases h
theorem mo_alen : pm_Mono (op_alen a) := by
  intro s s' h
  unfold op_alen at h
  (repeat' split at h) <;> first | (cases h; exact ⟨Nat.le_refl _, Nat.le_refl _⟩) | cases h
theorem mo_objinit : pm_Mono (op_objinit) := by
  intro s s' h
  unfold op_objinit at h
  (repeat' split at h) <;> first | (cases h; exact ⟨Nat.le_refl _, Nat.le_refl _⟩) | cases h
theorem mo_max : pm_Mono (op_max) := by
  intro s s' h
  unfold op_max at h
  (repeat' split at h) <;> first | (cases h; exact ⟨Nat.le_refl _, Nat.le_refl _⟩) | cases h
theorem mo_putI : pm_Mono (op_putI a b) := by
  intro s s' h
  unfold op_putI at h
  split at h
  · split at h
    · rename_i ha
      split at h
      · cases h
        exact ⟨Nat.le_of_eq List.length_set.symm, Nat.le_of_eq (pm_sz_set _ _ _ _ ha (by simp [pm_esz])).symm⟩
      · cases h
    · cases h
  · cases h
theorem mo_putZ : pm_Mono (op_putZ a b) := by
  intro s s' h
  unfold op_putZ at h
  split at h
  · split at h
    · rename_i ha
      split at h
      · cases h
        exact ⟨Nat.le_of_eq List.length_set.symm, Nat.le_of_eq (pm_sz_set _ _ _ _ ha (by simp [pm_esz])).symm⟩
      · cases h
    · cases h
  · cases h
theorem mo_putA : pm_Mono (op_putA a b) := by
  intro s s' h
  unfold op_putA at h
  split at h
  · split at h
    · rename_i ha
      split at h
      · cases h
        exact ⟨Nat.le_of_eq List.length_set.symm, Nat.le_of_eq (pm_sz_set _ _ _ _ ha (by simp [pm_esz])).symm⟩
      · cases h
    · cases h
  · cases h
theorem mo_iast : pm_Mono (op_iast) := by
  intro s s' h
  unfold op_iast at h
  split at h
  · split at h
    · rename_i ha
      split at h
      · cases h
        refine ⟨Nat.le_of_eq List.length_set.symm, Nat.le_of_eq (Eq.symm ?_)⟩
        exact pm_sz_set _ _ _ _ ha rfl
      · cases h
    · cases h
  · cases h
theorem mo_zast : pm_Mono (op_zast) := by
  intro s s' h
  unfold op_zast at h
  split at h
  · split at h
    · rename_i ha
      split at h
      · cases h
        refine ⟨Nat.le_of_eq List.length_set.symm, Nat.le_of_eq (Eq.symm ?_)⟩
        exact pm_sz_set _ _ _ _ ha rfl
      · cases h
    · cases h
  · cases h
theorem mo_last : pm_Mono (op_last) := by
  intro s s' h
  unfold op_last at h
  split at h
  · split at h
    · rename_i ha
      split at h
      · cases h
        refine ⟨Nat.le_of_eq List.length_set.symm, Nat.le_of_eq (Eq.symm ?_)⟩
        exact pm_sz_set _ _ _ _ ha rfl
      · cases h
    · cases h
  · cases h
theorem mo_newa : pm_Mono (op_newa a) := by
  intro s s' h
  unfold op_newa at h
  split at h
  · split at h
    · cases h
      exact ⟨by simp, by rw [pm_sz_app]; exact Nat.le_add_right _ _⟩
    · cases h
  · cases h
theorem mo_new {fs : List Value} : pm_Mono (op_new a fs) := by
  intro s s' h
  unfold op_new at h
  cases h
  exact ⟨by simp, by rw [pm_sz_app]; exact Nat.le_add_right _ _⟩
end Monos
section Steps9
variable {G : pG} {T : pT} {k i : Nat}
theorem so_max {n : Nat} (hd : decode (pm_by G k) (pm_pc G k i) = .ok (.invokestatic n, 3)) (h1 : Cond.methodLink (pm_nm G k).cls n Lib.Math.max.name ∈ T.2.1) (h2 : Cond.static Lib.Math.max.name ∈ T.2.1) (h3 : Cond.initialized "java/lang/Math" ∈ T.2.1) (h4 : Cond.code Lib.Math.max.name Lib.Math.max.code 2 (some .int) ∈ T.2.1) (hp1 : pm_pc G k (i + 1) = pm_pc G k i + 3) : pm_Sim G T k i op_max := by
  intro p l e R s m args below meth c w C0 hR1 hR2 H locs cells slots Q mls ls st hp s' hf
  unfold op_max at hf
  dsimp only at hf
  split at hf
  · rename_i y x st'
    split at hf
    · rename_i hc
      cases hf
      refine ⟨⟨Nat.le_refl _, Nat.le_refl _⟩, fun hH hS hL hcc hss kk => ?_⟩
      dsimp only at kk hcc hss
      rw [Nat.sub_self, Nat.add_zero] at hcc hss
      rw [hp1, Nat.sub_self, Nat.sub_self] at kk
      have hts := C0.2.2.2.2.1
      exact va_mmax C0.1 C0.2.1 (by rw [C0.2.2.1]; exact hL.1.symm) C0.2.2.2.1 (hts _ h1) (hts _ h2) (hts _ h3) (hts _ h4) hR1 (by rw [pm_cat_map]; omega) hcc hss hd (kk H locs mls hH hS hL)
    · cases hf
  · cases hf
theorem pm_sw_not {d : Nat} : ∀ {l : List (Int32 × Nat)} {x : Int32}, (∀ q ∈ l, ¬ x = q.1) → pm_sw d l x = d
  | [], _, _ => rfl
  | q :: l, x, h => by
    unfold pm_sw
    rw [if_neg (h q List.mem_cons_self)]
    exact pm_sw_not fun q' hq' => h q' (List.mem_cons_of_mem _ hq')
theorem so_tsw {dflt lo hi : Int} {offs : Array Int} {len d : Nat} {l : List (Int32 × Nat)} (hd : decode (pm_by G k) (pm_pc G k i) = .ok (.tableswitch dflt lo hi offs, len)) (hD : (pm_pc G k i : Int) + dflt = (pm_pc G k d : Int)) (hk : l.all (fun q => decide (lo ≤ q.1.toInt) && decide (q.1.toInt ≤ hi)) = true)
    (hj : (List.range offs.size).all (fun j => decide ((pm_pc G k i : Int) + offs.getD j 0 = (pm_pc G k (pm_sw d l (Int32.ofInt (lo + (j : Int)))) : Int))) = true) (hsz : (offs.size : Int) = hi - lo + 1) : pm_Sim0 G T k i (op_sw d l) := by
  intro p l' e R s m args below meth c w C0 hR1 hR2 H locs cells slots Q mls ls st hp s' hf
  unfold op_sw at hf
  dsimp only at hf
  split at hf
  · rename_i x st'
    cases hf
    refine ⟨rfl, fun hH hS hL kk => ?_⟩
    dsimp only at kk
    by_cases hout : x.toInt < lo ∨ hi < x.toInt
    · have hn : pm_sw d l x = d := pm_sw_not fun q hq hx => by
        have := List.all_eq_true.mp hk q hq
        simp only [Bool.and_eq_true, decide_eq_true_eq] at this
        subst hx
        omega
      rw [hn] at kk
      exact lv_tableOut C0.1 C0.2.1 hd hout hD (kk mls hL)
    · have h1 : ¬ x.toInt < lo := fun z => hout (Or.inl z)
      have h2 : ¬ hi < x.toInt := fun z => hout (Or.inr z)
      have hlt : (x.toInt - lo).toNat < offs.size := by omega
      have hjj := of_decide_eq_true (List.all_eq_true.mp hj _ (List.mem_range.mpr hlt))
      rw [show lo + (((x.toInt - lo).toNat : Nat) : Int) = x.toInt by omega, Int32.ofInt_toInt] at hjj
      refine lv_tableIn C0.1 C0.2.1 hd h1 h2 ?_ hjj (kk mls hL)
      rw [Array.getD_eq_getD_getElem?, Array.getElem?_eq_getElem hlt]
      rfl
  · cases hf
theorem pm_lsw {a : Int} {P : Nat → Int} {d : Nat} {dflt : Int} (hD : a + dflt = P d) : ∀ (ps : List (Int × Int)) (l : List (Int32 × Nat)), (ps.length = l.length ∧ (ps.zip l).all (fun q => decide (q.1.1 = q.2.1.toInt) && decide (a + q.1.2 = P q.2.2)) = true) → ∀ x : Int32, a + Op.lookupswitch.offset ps dflt x.toInt = P (pm_sw d l x)
  | [], [], _, _ => hD
  | [], _ :: _, h, _ => by simp at h
  | _ :: _, [], h, _ => by simp at h
  | (m, o) :: ps, (kx, t) :: l, h, x => by
    obtain ⟨h1, h2⟩ := h
    rw [List.zip_cons_cons, List.all_cons] at h2
    simp only [Bool.and_eq_true, decide_eq_true_eq] at h2
    obtain ⟨⟨h3, h4⟩, h5⟩ := h2
    rw [Op.lookupswitch.offset_cons]
    unfold pm_sw
    dsimp only
    by_cases hx : x = kx
    · rw [if_pos hx, if_pos (by rw [h3, hx])]
      exact h4
    · rw [if_neg hx, if_neg (fun z => hx (Int32.toInt_inj.mp (by rw [← z, h3])))]
      exact pm_lsw hD ps l ⟨by simpa using h1, by simpa using h5⟩ x
theorem so_lsw {dflt : Int} {ps : Array (Int × Int)} {len d : Nat} {l : List (Int32 × Nat)} (hd : decode (pm_by G k) (pm_pc G k i) = .ok (.lookupswitch dflt ps, len)) (hp : (ps.toList.zip (ps.toList.drop 1)).all (fun (a, next) => a.1 < next.1) = true) (hD : (pm_pc G k i : Int) + dflt = (pm_pc G k d : Int)) (hl : ps.toList.length = l.length ∧ (ps.toList.zip l).all (fun q => decide (q.1.1 = q.2.1.toInt) && decide ((pm_pc G k i : Int) + q.1.2 = (pm_pc G k q.2.2 : Int))) = true) : pm_Sim0 G T k i (op_sw d l) := by
  intro p l' e R s m args below meth c w C0 hR1 hR2 H locs cells slots Q mls ls st hp' s' hf
  unfold op_sw at hf
  dsimp only at hf
  split at hf
  · rename_i x st'
    cases hf
    refine ⟨rfl, fun hH hS hL kk => ?_⟩
    dsimp only at kk
    exact lv_lookup C0.1 C0.2.1 hd hp rfl (pm_lsw (P := fun j => (pm_pc G k j : Int)) hD _ l hl x) (kk mls hL)
  · cases hf
end Steps9
def pm_MF (G : pG) (y : Nat) : Prop := plainName (pm_nm G y).cls = true ∧ pm_pc G y 0 = 0 ∧ 1 ≤ pm_fr G y ∧ 20 ≤ pm_lo G y
def pm_OK (G : pG) (T : pT) (k i : Nat) : pOp → Prop
  | .inl f => pm_Mono f ∧ pm_Sim G T k i f
  | .inr (.inl c) => pm_CallOK G T k i c ∧ pm_MF G c.1
  | .inr (.inr rk) => pm_RetOK G T k i rk
def pm_All (G : pG) (T : pT) : Prop := ∀ (k i : Nat) (o : pOp), G.1 k i = some o → pm_OK G T k i o
theorem pm_mono {G : pG} {T : pT} (hA : pm_All G T) : ∀ (n k : Nat) (s : pS) (r : pR), pm_ex G n k s = some r → s.2.2.2.length ≤ r.2.length ∧ pm_sz s.2.2.2 ≤ pm_sz r.2
  | 0, _, _, _, h => by cases h
  | n + 1, k, s, r, h => by
    have ih := pm_mono hA n
    have h : pm_go (pm_ex G n) G k s (G.1 k s.1) = some r := h
    generalize ho : G.1 k s.1 = o at h
    match o, ho, h with
    | none, _, h => cases h
    | some (.inl f), ho, h =>
      simp only [pm_go, Option.bind_eq_some_iff] at h
      obtain ⟨s', h1, h2⟩ := h
      have a1 := (hA _ _ _ ho).1 s s' h1
      have a2 := ih _ _ _ h2
      exact ⟨Nat.le_trans a1.1 a2.1, Nat.le_trans a1.2 a2.2⟩
    | some (.inr (.inl c)), _, h =>
      simp only [pm_go, Option.bind_eq_some_iff] at h
      obtain ⟨ar, h1, h2⟩ := h
      split at h2
      · simp only [Option.bind_eq_some_iff] at h2
        obtain ⟨r1, h3, st, h4, h5⟩ := h2
        have a1 := ih _ _ _ h3
        have a2 := ih _ _ _ h5
        exact ⟨Nat.le_trans a1.1 a2.1, Nat.le_trans a1.2 a2.2⟩
      · cases h2
    | some (.inr (.inr rk)), _, h =>
      simp only [pm_go, Option.map_eq_some_iff] at h
      obtain ⟨v, -, rfl⟩ := h
      exact ⟨Nat.le_refl _, Nat.le_refl _⟩
theorem pm_entry_mem (w : pW) : ∀ (as : List Value) (o j : Nat) (v : Value), (pm_ent as)[j]? = some (some v) → (o + j, pm_em w v) ∈ lv_args o (as.map (pm_em w))
  | [], _, _, _, h => by simp [pm_ent] at h
  | a :: as, o, j, v, h => by
    have two : a.category = 2 → pm_ent (a :: as) = some a :: none :: pm_ent as := by
      intro hc
      cases a <;> first | rfl | cases hc
    have one : a.category = 1 → pm_ent (a :: as) = some a :: pm_ent as := by
      intro hc
      cases a <;> first | rfl | cases hc
    show _ ∈ (o, pm_em w a) :: lv_args (if (pm_em w a).category = 2 then o + 2 else o + 1) (as.map (pm_em w))
    rw [pm_em_cat]
    rcases lv_cat a with hc | hc
    · rw [one hc] at h
      rw [if_neg (by omega)]
      match j, h with
      | 0, h => cases h; exact List.mem_cons_self
      | j + 1, h =>
        have := pm_entry_mem w as (o + 1) j v h
        rw [show o + 1 + j = o + (j + 1) by omega] at this
        exact List.mem_cons_of_mem _ this
    · rw [two hc] at h
      rw [if_pos hc]
      match j, h with
      | 0, h => cases h; exact List.mem_cons_self
      | 1, h => cases h
      | j + 2, h =>
        have := pm_entry_mem w as (o + 2) j v h
        rw [show o + 2 + j = o + (j + 2) by omega] at this
        exact List.mem_cons_of_mem _ this
theorem pm_ent_len : ∀ as : List Value, (pm_ent as).length = (lg_sl as).length
  | [] => rfl
  | a :: as => by
    have ih := pm_ent_len as
    unfold lg_sl at ih ⊢
    rw [List.flatMap_cons, List.length_append, ← ih]
    cases a <;> simp [pm_ent, Value.category] <;> omega
theorem lg_sl_em (w : pW) (as : List Value) : (lg_sl (as.map (pm_em w))).length = (lg_sl as).length := by
  rw [← pm_ent_len, ← pm_ent_len]
  induction as with
  | nil => rfl
  | cons a as ih => cases a <;> simp [pm_ent, pm_em, ih]
theorem pm_LR_entry (w : pW) {nL : Nat} {as : List Value} (h : (pm_ent as).length ≤ nL) : pm_LR w nL ((lg_sl (as.map (pm_em w)) ++ List.replicate (nL - (lg_sl (as.map (pm_em w))).length) Slot.unset).toArray) (pm_entry nL as) := by
  have hl := lv_entry (as.map (pm_em w)) (n := nL) (by rw [lg_sl_em, ← pm_ent_len]; exact h)
  refine ⟨hl.1, by unfold pm_entry; rw [List.length_append, List.length_replicate]; omega, hl.2.1, fun j v hj => ?_⟩
  unfold pm_entry at hj
  by_cases hlt : j < (pm_ent as).length
  · rw [List.getElem?_append_left hlt] at hj
    have := pm_entry_mem w as 0 j v hj
    rw [Nat.zero_add] at this
    exact hl.2.2 _ this
  · rw [List.getElem?_append_right (by omega)] at hj
    have := List.eq_of_mem_replicate (List.mem_of_getElem? hj)
    cases this
def pm_okL (G : pG) (T : pT) (k : Nat) : Nat → List pOp → Prop
  | _, [] => True
  | j, o :: os => pm_OK G T k j o ∧ pm_okL G T k (j + 1) os
theorem pm_okL_get {G : pG} {T : pT} {k : Nat} : ∀ (os : List pOp) (j : Nat), pm_okL G T k j os → ∀ (i : Nat) (o : pOp), os[i]? = some o → pm_OK G T k (j + i) o
  | [], _, _, _, _, h => by simp at h
  | q :: os, j, hA, 0, o, h => by cases h; exact hA.1
  | q :: os, j, hA, i + 1, o, h => by
    have := pm_okL_get os (j + 1) hA.2 i o h
    rwa [show j + 1 + i = j + (i + 1) by omega] at this
def pm_okC (G : pG) (T : pT) (k : Nat) : Nat → List (List pOp) → Prop
  | _, [] => True
  | c, os :: r => pm_okL G T k (16 * c) os ∧ pm_okC G T k (c + 1) r
theorem pm_okC_get {G : pG} {T : pT} {k : Nat} : ∀ (r : List (List pOp)) (c : Nat), pm_okC G T k c r → ∀ (a : Nat) (os : List pOp), r[a]? = some os → pm_okL G T k (16 * (c + a)) os
  | [], _, _, _, _, h => by simp at h
  | q :: os, c, hA, 0, o, h => by cases h; exact hA.1
  | q :: os, c, hA, a + 1, o, h => by
    have := pm_okC_get os (c + 1) hA.2 a o h
    rwa [show c + 1 + a = c + (a + 1) by omega] at this
theorem pm_okC_all {G : pG} {T : pT} {k : Nat} {r : List (List pOp)} (h : pm_okC G T k 0 r) (i : Nat) (o : pOp) (hi : lk2o r i = some o) : pm_OK G T k i o := by
  unfold lk2o at hi
  rw [List.getD_eq_getElem?_getD] at hi
  cases hr : r[i / 16]? with
  | none => rw [hr] at hi; simp at hi
  | some os =>
    rw [hr] at hi
    have := pm_okL_get os _ (pm_okC_get r 0 h _ os hr) (i % 16) o hi
    rwa [show 16 * (0 + i / 16) + i % 16 = i by omega] at this
def pm_okB (G : pG) (T : pT) : Nat → List (List (List pOp)) → Prop
  | _, [] => True
  | k, r :: ms => pm_okC G T k 0 r ∧ pm_okB G T (k + 1) ms
theorem pm_okB_get {G : pG} {T : pT} : ∀ (ms : List (List (List pOp))) (k : Nat), pm_okB G T k ms → ∀ (a : Nat) (r : List (List pOp)), ms[a]? = some r → pm_okC G T (k + a) 0 r
  | [], _, _, _, _, h => by simp at h
  | q :: os, c, hA, 0, o, h => by cases h; exact hA.1
  | q :: os, c, hA, a + 1, o, h => by
    have := pm_okB_get os (c + 1) hA.2 a o h
    rwa [show c + 1 + a = c + (a + 1) by omega] at this
def pm_okD (G : pG) (T : pT) : Nat → List (List (List (List pOp))) → Prop
  | _, [] => True
  | c, ms :: r => pm_okB G T (16 * c) ms ∧ pm_okD G T (c + 1) r
theorem pm_okD_get {G : pG} {T : pT} : ∀ (r : List (List (List (List pOp)))) (c : Nat), pm_okD G T c r → ∀ (a : Nat) (ms : List (List (List pOp))), r[a]? = some ms → pm_okB G T (16 * (c + a)) ms
  | [], _, _, _, _, h => by simp at h
  | q :: os, c, hA, 0, o, h => by cases h; exact hA.1
  | q :: os, c, hA, a + 1, o, h => by
    have := pm_okD_get os (c + 1) hA.2 a o h
    rwa [show c + 1 + a = c + (a + 1) by omega] at this
theorem pm_okD_all {G : pG} {T : pT} {r : List (List (List (List pOp)))} (hG : ∀ k i, G.1 k i = lk2o (lk2 r k []) i) (h : pm_okD G T 0 r) : pm_All G T := by
  intro k i o hi
  rw [hG] at hi
  unfold lk2 at hi
  rw [List.getD_eq_getElem?_getD, List.getD_eq_getElem?_getD] at hi
  cases hr : r[k / 16]? with
  | none => rw [hr] at hi; simp [lk2o] at hi
  | some ms =>
    rw [hr] at hi
    dsimp only [Option.getD_some] at hi
    cases hm : ms[k % 16]? with
    | none => rw [hm] at hi; simp [lk2o] at hi
    | some cs =>
      rw [hm] at hi
      have := pm_okB_get ms _ (pm_okD_get r 0 h _ ms hr) (k % 16) cs hm
      rw [show 16 * (0 + k / 16) + k % 16 = k by omega] at this
      exact pm_okC_all this i o hi
/-- THE RUN: from place i of method k, up to a return -/
def pm_SimW (G : pG) (T : pT) (n : Nat) : Prop :=
  ∀ (k i : Nat) (ls : List pO) (st : List Value) (hp hp' : pH) (v : Option Value), pm_ex G n k (i, ls, st, hp) = some (v, hp') →
  ∀ (p : Program) (l : Launch) (e : Env) (R : Room) (s : State) (m : MethodId) (args : Array Value) (below : List Frame) (meth : Method) (c : Code) (w : pW), pm_Cx G T w k p m c meth s args → R.frames = pm_fr G k → R.locals = pm_lo G k → 1 ≤ R.frames → 20 ≤ R.locals →
  ∀ (H : Heap) (locs : List Loc) (cells slots : Nat) (Q : State → Prop) (mls : Array Slot), pm_HR T w hp H → va_S (pm_A w) s.heap H locs → pm_LR w (pm_nL G k) mls ls → cells + (hp'.length - hp.length) ≤ R.cells → slots + (pm_sz hp' - pm_sz hp) ≤ R.slots →
  (∀ (H' : Heap) (locs' : List Loc) (mls' : Array Slot) (i' rk : Nat) (st' : List Value), G.1 k i' = some (.inr (.inr rk)) → pm_ret rk st' = some v → pm_HR T w hp' H' → va_S (pm_A w) s.heap H' locs' → W p l e R s m args below meth c H' locs' (cells + (hp'.length - hp.length)) (slots + (pm_sz hp' - pm_sz hp)) Q (F0 m (pm_pc G k i') mls' (st'.map (pm_em w)))) →
  W p l e R s m args below meth c H locs cells slots Q (F0 m (pm_pc G k i) mls (st.map (pm_em w)))
theorem pm_met {G : pG} {T : pT} (hA : pm_All G T) {n : Nat} (ih : pm_SimW G T n) {y : Nat} (hy : pm_MF G y) {as : List Value} {hp hp' : pH} {v : Option Value} (hlen : (pm_ent as).length ≤ pm_nL G y) (h : pm_ex G n y (0, pm_entry (pm_nL G y) as, [], hp) = some (v, hp')) (l : Launch) (w : pW) :
    Met l (pm_nm G y) (pm_ws G T y) { frames := pm_fr G y, cells := hp'.length - hp.length, slots := pm_sz hp' - pm_sz hp, locals := pm_lo G y } (pm_Pc T w as hp) (pm_Qc T w v hp') (hp'.length - hp.length) (pm_sz hp' - pm_sz hp) (pm_A w) := by
  refine Met.ofW (cc := pm_by G y) (maxL := pm_nL G y) (ret := pm_rt G y) hy.1 rfl ?_
  intro p e s m args below meth c s₁ B hml hv
  obtain ⟨rfl, hH, hK⟩ := hv
  have hts := atoms_spec (ws := pm_ws G T y) B.pre
  have C : pm_Cx G T w y p m c meth s (as.map (pm_em w)).toArray := ⟨B.exec, B.bytes, hml, findClass_of_methodNamed B.named, fun v hv => hts v (List.mem_cons_of_mem _ hv), hK, B.notSynchronized, B.returns, (name_of_methodNamed B.named B.method).1⟩
  rw [lg_entry_eq]
  have := ih y 0 _ _ _ _ _ h p l e { frames := pm_fr G y, cells := hp'.length - hp.length, slots := pm_sz hp' - pm_sz hp, locals := pm_lo G y } s m (as.map (pm_em w)).toArray below meth c w C rfl rfl hy.2.2.1 hy.2.2.2 s.heap [] 0 0 (MQ below (pm_Qc T w v hp') (as.map (pm_em w)).toArray s (hp'.length - hp.length) (pm_sz hp' - pm_sz hp) (pm_A w)) _ hH va_S.rf (pm_LR_entry w hlen) (Nat.le_of_eq (Nat.zero_add _)) (Nat.le_of_eq (Nat.zero_add _)) ?_
  · rw [hy.2.1] at this
    exact this
  · intro H' locs' mls' i' rk st' hrk hret hH' hS'
    rw [Nat.zero_add, Nat.zero_add]
    exact (hA _ _ _ hrk) p l e _ s m _ below meth c w C H' locs' _ _ (pm_Qc T w v hp') (pm_A w) mls' st' v hret (fun t ht hW => ⟨rfl, by rw [ht]; exact hH', hS'.F ht⟩) hS'.2.2
theorem pm_simW {G : pG} {T : pT} (hA : pm_All G T) : ∀ n, pm_SimW G T n
  | 0 => fun k i ls st hp hp' v h => by cases h
  | n + 1 => by
    have ih := pm_simW hA n
    intro k i ls st hp hp' v h p l e R s m args below meth c w C hRf hRl hR1 hR2 H locs cells slots Q mls hH hS hL hc hs fin
    have h : pm_go (pm_ex G n) G k (i, ls, st, hp) (G.1 k i) = some (v, hp') := h
    generalize ho : G.1 k i = o at h
    match o, ho, h with
    | none, _, h => cases h
    | some (.inl f), ho, h =>
      simp only [pm_go, Option.bind_eq_some_iff] at h
      obtain ⟨⟨i', ls', st', hp1⟩, h1, h2⟩ := h
      obtain ⟨hmo, hsim⟩ := hA _ _ _ ho
      have m1 := hmo _ _ h1
      have m2 := pm_mono hA _ _ _ _ h2
      dsimp only at m1 m2
      refine (hsim p l e R s m args below meth c w C hR1 hR2 H locs cells slots Q mls ls st hp _ h1).2 hH hS hL (by dsimp only; omega) (by dsimp only; omega) (fun H' locs' mls' hH' hS' hL' => ?_)
      dsimp only at hH' hL' ⊢
      refine ih k i' ls' st' hp1 hp' v h2 p l e R s m args below meth c w C hRf hRl hR1 hR2 H' locs' _ _ Q mls' hH' hS' hL' (by omega) (by omega) ?_
      intro H2 locs2 mls2 i2 rk st2 b1 b2 b3 b4
      have := fin H2 locs2 mls2 i2 rk st2 b1 b2 b3 b4
      rw [show cells + (hp1.length - hp.length) + (hp'.length - hp1.length) = cells + (hp'.length - hp.length) by omega, show slots + (pm_sz hp1 - pm_sz hp) + (pm_sz hp' - pm_sz hp1) = slots + (pm_sz hp' - pm_sz hp) by omega]
      exact this
    | some (.inr (.inl c')), ho, h =>
      simp only [pm_go, Option.bind_eq_some_iff] at h
      obtain ⟨⟨as, rest⟩, h1, h2⟩ := h
      split at h2
      · rename_i hm
        simp only [Option.bind_eq_some_iff] at h2
        obtain ⟨⟨v1, hp1⟩, h3, st', h4, h5⟩ := h2
        obtain ⟨hcall, hmf⟩ := hA _ _ _ ho
        have m1 := pm_mono hA _ _ _ _ h3
        have m2 := pm_mono hA _ _ _ _ h5
        dsimp only at m1 m2 hm h3 h4 h5
        refine hcall p l e R s m args below meth c w C hRf hRl H locs cells slots (hp1.length - hp.length) (pm_sz hp1 - pm_sz hp) Q mls ls st as rest st' hp hp1 v1 h1 hm h4 hH hS hL (pm_met hA ih hmf (pm_may_spec hm).2.1 h3 l w) (by omega) (by omega) (fun H' locs' hH' hS' => ?_)
        refine ih k (i + 1) ls st' hp1 hp' v h5 p l e R s m args below meth c w C hRf hRl hR1 hR2 H' locs' _ _ Q mls hH' hS' hL (by omega) (by omega) ?_
        intro H2 locs2 mls2 i2 rk st2 b1 b2 b3 b4
        have := fin H2 locs2 mls2 i2 rk st2 b1 b2 b3 b4
        rw [show cells + (hp1.length - hp.length) + (hp'.length - hp1.length) = cells + (hp'.length - hp.length) by omega, show slots + (pm_sz hp1 - pm_sz hp) + (pm_sz hp' - pm_sz hp1) = slots + (pm_sz hp' - pm_sz hp) by omega]
        exact this
      · cases h2
    | some (.inr (.inr rk)), ho, h =>
      simp only [pm_go, Option.map_eq_some_iff] at h
      obtain ⟨v1, h1, h2⟩ := h
      cases h2
      have := fin H locs mls i rk st ho h1 hH hS
      rw [Nat.sub_self, Nat.sub_self] at this
      exact this
