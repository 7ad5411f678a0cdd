/-! Calls, returns, and whole runs: the Statement's machine comes to what the pure one comes to. -/
theorem pm_ret0 {st : List Value} {v : Option Value} (h : pm_ret 0 st = some v) : st = [] ∧ v = none := by
  rcases st with _ | ⟨a, st⟩
  · exact ⟨rfl, (Option.some.inj h).symm⟩
  · simp [pm_ret] at h
theorem pm_ret1 {st : List Value} {v : Option Value} (h : pm_ret 1 st = some v) : ∃ x, st = [.int x] ∧ v = some (.int x) := by
  rcases st with _ | ⟨a, _ | ⟨b, st⟩⟩
  · simp [pm_ret] at h
  · cases a <;> simp [pm_ret] at h
    exact ⟨_, rfl, h.symm⟩
  · simp [pm_ret] at h
theorem pm_ret2 {st : List Value} {v : Option Value} (h : pm_ret 2 st = some v) : ∃ x, st = [.long x] ∧ v = some (.long x) := by
  rcases st with _ | ⟨a, _ | ⟨b, st⟩⟩
  · simp [pm_ret] at h
  · cases a <;> simp [pm_ret] at h
    exact ⟨_, rfl, h.symm⟩
  · simp [pm_ret] at h
theorem pm_ret3 {st : List Value} {v : Option Value} (h : pm_ret 3 st = some v) : ∃ x, st = [.int x] ∧ v = some (.int x) ∧ (x = 0 ∨ x = 1) := by
  rcases st with _ | ⟨a, _ | ⟨b, st⟩⟩
  · simp [pm_ret] at h
  · cases a <;> simp [pm_ret] at h
    exact ⟨_, rfl, h.2.symm, h.1⟩
  · simp [pm_ret] at h
def pm_RetOK (G : pG) (T : pT) (k i rk : Nat) : Prop :=
  ∀ (p : Program) (l : Launch) (e : Env) (R : Room) (s : State) (m : MethodId) (args : Array Value) (below : List Frame) (meth : Method) (c : Code) (w : pW), pm_Cx G T w k p m c meth s args →
  ∀ (H : Heap) (locs : List Loc) (cells slots : Nat) (Qc : Array Value → State → Outcome → State → Prop) (free : Addr → Prop) (mls : Array Slot) (st : List Value) (v : Option Value), pm_ret rk st = some v →
  (∀ t : State, t.heap = H → s.WarmedH t.vm → Qc args s (.returned (v.map (pm_em w))) t) → (∀ q ∈ locs, free q.base) →
  W p l e R s m args below meth c H locs cells slots (MQ below Qc args s cells slots free) (F0 m (pm_pc G k i) mls (st.map (pm_em w)))
section Rets
variable {G : pG} {T : pT} {k i : Nat}
theorem so_vret (hd : decode (pm_by G k) (pm_pc G k i) = .ok (.return_, 1)) (hr : pm_rt G k = none) : pm_RetOK G T k i 0 := by
  intro p l e R s m args below meth c w C H locs cells slots Qc free mls st v h hq hf
  obtain ⟨rfl, rfl⟩ := pm_ret0 h
  exact W.vret C.1 C.2.1 (C.2.2.2.2.2.2.2.1.trans hr) hq hf hd C.2.2.2.2.2.2.1
theorem so_iret (hd : decode (pm_by G k) (pm_pc G k i) = .ok (.ireturn, 1)) (hr : pm_rt G k = some .int) : pm_RetOK G T k i 1 := by
  intro p l e R s m args below meth c w C H locs cells slots Qc free mls st v h hq hf
  obtain ⟨x, rfl, rfl⟩ := pm_ret1 h
  exact W.iret C.1 C.2.1 (C.2.2.2.2.2.2.2.1.trans hr) hq hf hd C.2.2.2.2.2.2.1
theorem so_lret (hd : decode (pm_by G k) (pm_pc G k i) = .ok (.lreturn, 1)) (hr : pm_rt G k = some .long) : pm_RetOK G T k i 2 := by
  intro p l e R s m args below meth c w C H locs cells slots Qc free mls st v h hq hf
  obtain ⟨x, rfl, rfl⟩ := pm_ret2 h
  exact W.lret C.1 C.2.1 (C.2.2.2.2.2.2.2.1.trans hr) hq hf hd C.2.2.2.2.2.2.1
theorem so_zret (hd : decode (pm_by G k) (pm_pc G k i) = .ok (.ireturn, 1)) (hr : pm_rt G k = some .boolean) : pm_RetOK G T k i 3 := by
  intro p l e R s m args below meth c w C H locs cells slots Qc free mls st v h hq hf
  obtain ⟨x, rfl, rfl, hx⟩ := pm_ret3 h
  exact W.zret C.1 C.2.1 (C.2.2.2.2.2.2.2.1.trans hr) (pm_narrowZ hx).1 hq hf hd C.2.2.2.2.2.2.1
end Rets
/-- a method's words: its code, then all of the tables -/
def pm_ws (G : pG) (T : pT) (y : Nat) : List Cond := Cond.code (pm_nm G y) (pm_by G y) (pm_nL G y) (pm_rt G y) :: T.2.1
def pm_Pc (T : pT) (w : pW) (as : List Value) (hp : pH) : Array Value → State → Prop := fun a U => a = (as.map (pm_em w)).toArray ∧ pm_HR T w hp U.heap ∧ pm_K T w U
def pm_Qc (T : pT) (w : pW) (v : Option Value) (hp' : pH) : Array Value → State → Outcome → State → Prop := fun _ st o t => o = .returned (v.map (pm_em w)) ∧ pm_HR T w hp' t.heap ∧ va_F (pm_A w) st t
theorem pm_Pc_blind (T : pT) (w : pW) (as : List Value) (hp : pH) : FrameBlind (pm_Pc T w as hp) := by
  intro a U g mk h
  obtain ⟨h1, h2, h3, h4, h5, h6⟩ := h
  exact ⟨h1, h2, va_K.moved (u := U) (U := U.calling g mk a) (Vm.Alike.refl U.vm) h3, fun q hq => va_Nw.same rfl rfl (h4 q hq), va_X.moved (Vm.Alike.refl U.vm) h5, h6⟩
theorem pm_K_to {T : pT} {w : pW} {s U : State} {H : Heap} {locs : List Loc} (h : pm_K T w s) (hS : va_S (pm_A w) s.heap H locs) (hU : U.heap = H) (hW : s.WarmedH U.vm) : pm_K T w U := by
  obtain ⟨h3, h4, h5, h6, h7⟩ := h
  refine ⟨h3.moved hW.alike, fun q hq => va_Nw.warmM hW (h4 q hq), ?_, h6, by rw [hU]; exact Nat.le_trans h7 hS.1⟩
  rw [hU]
  exact (h5.kept (hS.2.1 _ (Nat.lt_of_lt_of_le h6 h7) (Nat.not_le.mpr h6))).moved hW.alike
theorem pm_push_eq {rk : Nat} {v : Option Value} {rest st : List Value} (h : pm_push rk v rest = some st) : st = v.toList ++ rest := by
  unfold pm_push at h
  split at h <;> first | (cases h; rfl) | cases h
theorem pm_args_eq {n : Nat} {st as rest : List Value} (h : pm_args n st = some (as, rest)) : st = as.reverse ++ rest ∧ as.length = n := by
  unfold pm_args at h
  split at h
  · rename_i hn
    cases h
    refine ⟨by rw [List.reverse_reverse, List.take_append_drop], ?_⟩
    rw [List.length_reverse, List.length_take]
    omega
  · cases h
theorem pm_may_spec {c : pC} {nL : Nat} {as rest : List Value} {hp : pH} (h : pm_may c nL as rest hp = true) : (rest.map fun v => v.category).sum ≤ 8 ∧ (pm_ent as).length ≤ nL ∧ pm_rcv c.2.2.2 as hp = true := by
  unfold pm_may at h
  simp only [Bool.and_eq_true, decide_eq_true_eq] at h
  exact h
/-- behind a call -/
theorem pm_after {T : pT} {w : pW} {p : Program} {l : Launch} {e : Env} {R : Room} {s : State} {m : MethodId} {args : Array Value} {below : List Frame} {meth : Method} {c : Code} {H : Heap} {locs : List Loc} {cells slots mc ms pc : Nat} {Q : State → Prop} {mls : Array Slot} {st0 rest st' : List Value} {v : Option Value} {hp' : pH} {a : Array Value} {rk : Nat}
    (hr : va_Run p l e R s m args below meth c H locs cells slots mc ms (F0 m pc mls st0) (rest.map (pm_em w)) (pm_Qc T w v hp' a) (pm_A w)) (hpu : pm_push rk v rest = some st') (hS : va_S (pm_A w) s.heap H locs)
    (kk : ∀ (H' : Heap) (locs' : List Loc), pm_HR T w hp' H' → va_S (pm_A w) s.heap H' locs' → W p l e R s m args below meth c H' locs' (cells + mc) (slots + ms) Q (F0 m (pc + 3) mls (st'.map (pm_em w)))) : W p l e R s m args below meth c H locs cells slots Q (F0 m pc mls st0) := by
  intro T0 hT X
  obtain ⟨v', s0, t, T', L, h0, X', hL, e1, e2, ⟨hq1, hq2, hz, hk⟩, stp⟩ := hr T0 hT X
  cases hq1
  rw [h0] at hz hk
  have hS' : va_S (pm_A w) s.heap T'.heap (locs ++ L) := by
    refine ⟨Nat.le_trans hS.1 (by rw [e1]; exact hz), fun q h1 h2 => by rw [e1, hk q (Nat.lt_of_lt_of_le h1 hS.1) h2]; exact hS.2.1 q h1 h2, fun q hq => ?_⟩
    rcases List.mem_append.mp hq with h | h
    · exact hS.2.2 q h
    · exact hL q h
  obtain ⟨t2, a1, b1⟩ := kk T'.heap (locs ++ L) (by rw [e1]; exact hq2) hS' T' rfl X'
  refine ⟨t2, stp t2 ?_, b1⟩
  have e3 := pm_push_eq hpu
  subst e3
  rw [List.map_append] at a1
  cases v <;> exact a1
def pm_CallOK (G : pG) (T : pT) (k i : Nat) (c : pC) : Prop :=
  ∀ (p : Program) (l : Launch) (e : Env) (R : Room) (s : State) (m : MethodId) (args : Array Value) (below : List Frame) (meth : Method) (c0 : Code) (w : pW), pm_Cx G T w k p m c0 meth s args → R.frames = pm_fr G k → R.locals = pm_lo G k →
  ∀ (H : Heap) (locs : List Loc) (cells slots mc ms : Nat) (Q : State → Prop) (mls : Array Slot) (ls : List pO) (st as rest st' : List Value) (hp hp' : pH) (v : Option Value), pm_args c.2.1 st = some (as, rest) → pm_may c (pm_nL G c.1) as rest hp = true → pm_push c.2.2.1 v rest = some st' →
  pm_HR T w hp H → va_S (pm_A w) s.heap H locs → pm_LR w (pm_nL G k) mls ls →
  Met l (pm_nm G c.1) (pm_ws G T c.1) { frames := pm_fr G c.1, cells := mc, slots := ms, locals := pm_lo G c.1 } (pm_Pc T w as hp) (pm_Qc T w v hp') mc ms (pm_A w) → cells + mc ≤ R.cells → slots + ms ≤ R.slots →
  (∀ (H' : Heap) (locs' : List Loc), pm_HR T w hp' H' → va_S (pm_A w) s.heap H' locs' → W p l e R s m args below meth c0 H' locs' (cells + mc) (slots + ms) Q (F0 m (pm_pc G k (i + 1)) mls (st'.map (pm_em w)))) →
  W p l e R s m args below meth c0 H locs cells slots Q (F0 m (pm_pc G k i) mls (st.map (pm_em w)))
/-- all words of the tables are good ones -/
def pm_good (T : pT) : Prop := ∀ v ∈ T.2.1, goodWord v = true
theorem pm_goodIn {T : pT} (hg : pm_good T) {ws : List Cond} (h : ∀ v ∈ ws, v ∈ T.2.1) : GoodIn T.2.1 ws := fun v hv => ⟨h v hv, good_of_word (hg v (h v hv))⟩
theorem pm_goodWs {G : pG} {T : pT} (hg : pm_good T) {y : Nat} (hc : Cond.code (pm_nm G y) (pm_by G y) (pm_nL G y) (pm_rt G y) ∈ T.2.1) : GoodIn T.2.1 (pm_ws G T y) := by
  refine pm_goodIn hg fun v hv => ?_
  rcases List.mem_cons.mp hv with rfl | h
  · exact hc
  · exact h
section CallsK
variable {G : pG} {T : pT} {k i : Nat}
theorem so_callS {n y na rk : Nat} (hg : pm_good T) (hd : decode (pm_by G k) (pm_pc G k i) = .ok (.invokestatic n, 3)) (hc : Cond.code (pm_nm G y) (pm_by G y) (pm_nL G y) (pm_rt G y) ∈ T.2.1) (h1 : Cond.methodLink (pm_nm G k).cls n (pm_nm G y) ∈ T.2.1) (h2 : Cond.static (pm_nm G y) ∈ T.2.1) (h3 : Cond.initialized (pm_nm G y).cls ∈ T.2.1)
    (hy : (pm_nm G y).cls ≠ "java/lang/invoke/MethodHandle" ∧ (pm_nm G y).cls ≠ "java/lang/invoke/VarHandle" ∧ (parseMethodDescriptor (pm_nm G y).desc).map (fun d => d.parameters.length) = some na) (hR : pm_fr G y + 1 ≤ pm_fr G k ∧ 8 + (pm_nL G y + 11) + pm_lo G y ≤ pm_lo G k) (hp1 : pm_pc G k (i + 1) = pm_pc G k i + 3) : pm_CallOK G T k i (y, na, rk, 0) := by
  intro p l e R s m args below meth c0 w C hf hlo H locs cells slots mc ms Q mls ls st as rest st' hp hp' v ha hm hpu hH hS hL hM hcc hss kk
  dsimp only at ha hm hpu hM
  obtain ⟨rfl, hn⟩ := pm_args_eq ha
  have hcat := (pm_may_spec hm).1
  rw [hp1] at kk
  have hT : GoodIn T.2.1 (va_wsS (pm_nm G k).cls n (pm_nm G y) (pm_ws G T y)) := by
    refine pm_goodIn hg fun v hv => ?_
    unfold va_wsS at hv
    rcases List.mem_append.mp hv with h | h
    · simp only [List.mem_cons, List.not_mem_nil, or_false] at h
      rcases h with rfl | rfl | rfl
      · exact h1
      · exact h2
      · exact h3
    · exact (pm_goodWs hg hc v h).1
  refine pm_after (va_runS (As := as.map (pm_em w)) ⟨C.1, C.2.1, C.2.2.1, C.2.2.2.1, C.2.2.2.2.1⟩ hM (va_cwS na C.2.2.2.2.1 hT rfl rfl rfl hy ⟨by rw [hf]; exact hR.1, by rw [hlo]; exact hR.2⟩) ⟨pm_Pc_blind T w as hp, fun U hU hW => ⟨rfl, by rw [hU]; exact hH, pm_K_to C.2.2.2.2.2.1 hS hU hW⟩⟩ rfl (by rw [List.length_map]; exact hn) hL.1 ?_ (lv_room (by rw [pm_cat_map]; exact hcat)) hd ⟨hcc, hss⟩) hpu hS kk
  show (as.reverse ++ rest).map (pm_em w) = _
  rw [List.map_append, List.map_reverse]
theorem so_callSN {n y na rk : Nat} {host : String} (hg : pm_good T) (hd : decode (pm_by G k) (pm_pc G k i) = .ok (.invokestatic n, 3)) (hc : Cond.code (pm_nm G y) (pm_by G y) (pm_nL G y) (pm_rt G y) ∈ T.2.1) (h1 : ((pm_nm G k).cls, n, pm_nm G y, host) ∈ T.2.2) (h2 : Cond.static (pm_nm G y) ∈ T.2.1) (h3 : Cond.initialized (pm_nm G y).cls ∈ T.2.1)
    (hy : (pm_nm G y).cls ≠ "java/lang/invoke/MethodHandle" ∧ (pm_nm G y).cls ≠ "java/lang/invoke/VarHandle" ∧ (parseMethodDescriptor (pm_nm G y).desc).map (fun d => d.parameters.length) = some na) (hR : pm_fr G y + 1 ≤ pm_fr G k ∧ 8 + (pm_nL G y + 11) + pm_lo G y ≤ pm_lo G k) (hp1 : pm_pc G k (i + 1) = pm_pc G k i + 3) : pm_CallOK G T k i (y, na, rk, 0) := by
  intro p l e R s m args below meth c0 w C hf hlo H locs cells slots mc ms Q mls ls st as rest st' hp hp' v ha hm hpu hH hS hL hM hcc hss kk
  dsimp only at ha hm hpu hM
  obtain ⟨rfl, hn⟩ := pm_args_eq ha
  have hcat := (pm_may_spec hm).1
  rw [hp1] at kk
  refine pm_after (va_runSN (host := host) (As := as.map (pm_em w)) ⟨C.1, C.2.1, C.2.2.1, C.2.2.2.1, C.2.2.2.2.1⟩ hM ⟨va_cnB na C.2.2.2.2.1 (pm_goodWs hg hc) rfl rfl rfl (C.2.2.2.2.2.1.2.1 _ h1) (C.2.2.2.2.1 _ h3) hy ⟨by rw [hf]; exact hR.1, by rw [hlo]; exact hR.2⟩, C.2.2.2.2.1 _ h2, trivial⟩ ⟨pm_Pc_blind T w as hp, fun U hU hW => ⟨rfl, by rw [hU]; exact hH, pm_K_to C.2.2.2.2.2.1 hS hU hW⟩⟩ rfl (by rw [List.length_map]; exact hn) hL.1 ?_ (lv_room (by rw [pm_cat_map]; exact hcat)) hd ⟨hcc, hss⟩) hpu hS kk
  show (as.reverse ++ rest).map (pm_em w) = _
  rw [List.map_append, List.map_reverse]
theorem so_callI {n y na rk : Nat} (hg : pm_good T) (hd : decode (pm_by G k) (pm_pc G k i) = .ok (.invokespecial n, 3)) (hc : Cond.code (pm_nm G y) (pm_by G y) (pm_nL G y) (pm_rt G y) ∈ T.2.1) (hrt : pm_rt G y = none) (hini : (pm_nm G y).name = "<init>") (h1 : Cond.methodLink (pm_nm G k).cls n (pm_nm G y) ∈ T.2.1) (h2 : Cond.instanceMethod (pm_nm G y) ∈ T.2.1) (h3 : Cond.initialized (pm_nm G y).cls ∈ T.2.1) {ci N : Nat} {C9 : String} {Tb : u_T} (hcl : T.1[ci]? = some (C9, Tb, N))
    (hy : (pm_nm G y).cls ≠ "java/lang/invoke/MethodHandle" ∧ (pm_nm G y).cls ≠ "java/lang/invoke/VarHandle" ∧ (parseMethodDescriptor (pm_nm G y).desc).map (fun d => d.parameters.length) = some na) (hR : pm_fr G y + 1 ≤ pm_fr G k ∧ 8 + (pm_nL G y + 11) + pm_lo G y ≤ pm_lo G k) (hp1 : pm_pc G k (i + 1) = pm_pc G k i + 3) : pm_CallOK G T k i (y, na + 1, rk, ci + 1) := by
  intro p l e R s m args below meth c0 w C hf hlo H locs cells slots mc ms Q mls ls st as rest st' hp hp' v ha hm hpu hH hS hL hM hcc hss kk
  dsimp only at ha hm hpu hM
  obtain ⟨rfl, hn⟩ := pm_args_eq ha
  obtain ⟨hcat, -, hrc⟩ := pm_may_spec hm
  rw [hp1] at kk
  match as, hn, hrc, hM with
  | .ref b :: As, hn, hrc, hM =>
    refine pm_after (va_runI (As := As.map (pm_em w)) (b := pm_ad w b) ⟨C.1, C.2.1, C.2.2.1, C.2.2.2.1, C.2.2.2.2.1⟩ hM (cwI na C.2.2.2.2.1 (pm_goodWs hg hc) (by rw [← hrt]; rfl) rfl rfl (C.2.2.2.2.1 _ h3) (C.2.2.2.2.1 _ h1) (C.2.2.2.2.1 _ h2) hini hy ⟨by rw [hf]; exact hR.1, by rw [hlo]; exact hR.2⟩) ⟨pm_Pc_blind T w _ hp, fun U hU hW => ⟨rfl, by rw [hU]; exact hH, pm_K_to C.2.2.2.2.2.1 hS hU hW⟩⟩ rfl (by rw [List.length_map]; simpa using hn) hL.1 ?_ (lv_room (by rw [pm_cat_map]; exact hcat)) hd ⟨hcc, hss⟩) hpu hS kk
    show ((Value.ref b :: As).reverse ++ rest).map (pm_em w) = _
    rw [List.map_append, List.map_reverse, List.map_cons, List.reverse_cons, List.append_assoc]
    rfl
theorem so_callV {n y na rk : Nat} (hg : pm_good T) (hd : decode (pm_by G k) (pm_pc G k i) = .ok (.invokevirtual n, 3)) (hc : Cond.code (pm_nm G y) (pm_by G y) (pm_nL G y) (pm_rt G y) ∈ T.2.1) (h1 : Cond.methodLink (pm_nm G k).cls n (pm_nm G y) ∈ T.2.1) (h2 : Cond.instanceMethod (pm_nm G y) ∈ T.2.1) (h3 : Cond.initialized (pm_nm G y).cls ∈ T.2.1) (h4 : Cond.selects (pm_nm G y).cls (pm_nm G y) (pm_nm G y) ∈ T.2.1) {ci N : Nat} {Tb : u_T} (hcl : T.1[ci]? = some ((pm_nm G y).cls, Tb, N))
    (hy : (pm_nm G y).cls ≠ "java/lang/invoke/MethodHandle" ∧ (pm_nm G y).cls ≠ "java/lang/invoke/VarHandle" ∧ (parseMethodDescriptor (pm_nm G y).desc).map (fun d => d.parameters.length) = some na) (hR : pm_fr G y + 1 ≤ pm_fr G k ∧ 8 + (pm_nL G y + 11) + pm_lo G y ≤ pm_lo G k) (hp1 : pm_pc G k (i + 1) = pm_pc G k i + 3) : pm_CallOK G T k i (y, na + 1, rk, ci + 1) := by
  intro p l e R s m args below meth c0 w C hf hlo H locs cells slots mc ms Q mls ls st as rest st' hp hp' v ha hm hpu hH hS hL hM hcc hss kk
  dsimp only at ha hm hpu hM
  obtain ⟨rfl, hn⟩ := pm_args_eq ha
  obtain ⟨hcat, -, hrc⟩ := pm_may_spec hm
  rw [hp1] at kk
  have hT : GoodIn T.2.1 (wsV (pm_nm G k).cls n (pm_nm G y).cls (pm_nm G y) (pm_ws G T y)) := by
    refine pm_goodIn hg fun v hv => ?_
    unfold wsV at hv
    rcases List.mem_append.mp hv with h | h
    · simp only [List.mem_cons, List.not_mem_nil, or_false] at h
      rcases h with rfl | rfl | rfl | rfl
      · exact h1
      · exact h2
      · exact h4
      · exact h3
    · exact (pm_goodWs hg hc v h).1
  match as, hn, hrc, hM with
  | .ref b :: As, hn, hrc, hM =>
    unfold pm_rcv at hrc
    dsimp only at hrc
    split at hrc
    · rename_i c' fs hb
      have hcc' : c' = ci := by simpa using hrc
      subst hcc'
      obtain ⟨q, rfl, hat⟩ := hH.at hb
      refine pm_after (va_runV (As := As.map (pm_em w)) (b := w.1.2.1 + q) ⟨C.1, C.2.1, C.2.2.1, C.2.2.2.1, C.2.2.2.2.1⟩ hM (cwV na C.2.2.2.2.1 hT rfl rfl rfl ⟨rfl, hy⟩ ⟨by rw [hf]; exact hR.1, by rw [hlo]; exact hR.2⟩) ⟨pm_Pc_blind T w _ hp, va_recv C.2.2.2.2.2.1.1 (pm_P1 hat) hcl (q0 := 0) rfl, fun U hU hW => ⟨rfl, by rw [hU]; exact hH, pm_K_to C.2.2.2.2.2.1 hS hU hW⟩⟩ rfl (by rw [List.length_map]; simpa using hn) hL.1 ?_ (lv_room (by rw [pm_cat_map]; exact hcat)) hd ⟨hcc, hss⟩) hpu hS kk
      show ((Value.ref (q + 1) :: As).reverse ++ rest).map (pm_em w) = _
      rw [List.map_append, List.map_reverse, List.map_cons, List.reverse_cons, List.append_assoc]
      rfl
    · cases hrc
end CallsK
