/-! The Statement's machine goes as the pure one goes: steps. -/
abbrev pN : Type := String × Nat × MethodName × String
def pm_nw (q : pN) : Cond := .methodLinkNest q.1 q.2.1 q.2.2.1 q.2.2.2
/-- the tables: classes, their words, the nest's words -/
abbrev pT : Type := List vw_C × List Cond × List pN
/-- a world: where the script lies, where the new cells begin, the script; the classes' numbers and slots, the arrays' classes -/
abbrev pW : Type := (Nat × Nat × Nat × (Nat → Int32)) × va_G × (Nat → ClassId)
def pm_ad (w : pW) : Nat → Nat
  | 0 => w.1.1
  | i + 1 => w.1.2.1 + i
def pm_em (w : pW) : Value → Value
  | .ref i => .ref (pm_ad w i)
  | v => v
def pm_emE (w : pW) : pE → va_E
  | .inl (t, a) => .inl (w.2.2 t, a)
  | .inr (c, fs) => .inr (c, fs.map (pm_em w))
def pm_HR (T : pT) (w : pW) (hp : pH) (H : Heap) : Prop := hp[0]? = some (.inl (3, w.1.2.2.1, .inl w.1.2.2.2)) ∧ H.size + 1 = w.1.2.1 + hp.length ∧ ∀ (i : Nat) (e : pE), hp[i + 1]? = some e → va_at w.2.1 T.1 (w.1.2.1 + i, pm_emE w e) H ∧ ∀ (t : Nat) (x : vp_A), e = .inl (t, x) → t ≠ 3
def pm_A (w : pW) : Nat → Prop := fun q => w.1.2.1 ≤ q
def pm_tys (w : pW) : List (ClassId × FieldType) := [(w.2.2 0, .int), (w.2.2 1, .boolean), (w.2.2 2, .long)]
/-- what holds of the tables in a state -/
def pm_K (T : pT) (w : pW) (s : State) : Prop := va_K w.2.1 T.1 (pm_tys w) s ∧ (∀ q ∈ T.2.2, va_Nw (pm_nw q) s) ∧ va_X w.1.1 w.1.2.2.1 w.1.2.2.2 s s.heap ∧ w.1.1 < w.1.2.1 ∧ w.1.2.1 ≤ s.heap.size
def pm_Cx (G : pG) (T : pT) (w : pW) (k : Nat) (p : Program) (m : MethodId) (c : Code) (meth : Method) (s : State) (args : Array Value) : Prop :=
  p.tables.exec = Jvm.exec ∧ c.code = pm_by G k ∧ c.maxLocals = pm_nL G k ∧ s.vm.findClass (pm_nm G k).cls = some m.cls ∧ (∀ v ∈ T.2.1, v.before args s = true) ∧ pm_K T w s ∧ meth.locks = false ∧ meth.sig.returnType = pm_rt G k ∧ meth.name = (pm_nm G k).name
def pm_LR (w : pW) (nL : Nat) (mls : Array Slot) (ls : List pO) : Prop := mls.size = nL ∧ ls.length = nL ∧ lv_wf mls ∧ ∀ (j : Nat) (v : Value), ls[j]? = some (some v) → mls[j]? = some (Slot.val (pm_em w v))
theorem pm_em_cat (w : pW) (v : Value) : (pm_em w v).category = v.category := by cases v <;> rfl
def pm_asc (w : pW) (ls : List pO) : List (Nat × Value) := (List.range ls.length).filterMap (fun j => match ls[j]? with
  | some (some v) => some (j, pm_em w v)
  | _ => none)
theorem pm_asc_mem {w : pW} {ls : List pO} {q : Nat × Value} : q ∈ pm_asc w ls ↔ ∃ v, ls[q.1]? = some (some v) ∧ q.2 = pm_em w v := by
  unfold pm_asc
  rw [List.mem_filterMap]
  constructor
  · rintro ⟨j, -, h⟩
    split at h
    · rename_i v hv
      cases h
      exact ⟨v, hv, rfl⟩
    · cases h
  · rintro ⟨v, h1, h2⟩
    refine ⟨q.1, List.mem_range.mpr (List.getElem?_eq_some_iff.mp h1).1, ?_⟩
    rw [h1]
    show some (q.1, pm_em w v) = some q
    rw [← h2]
theorem pm_LR.has {w : pW} {nL : Nat} {mls : Array Slot} {ls : List pO} (h : pm_LR w nL mls ls) : lv_has mls nL (pm_asc w ls) := by
  refine ⟨h.1, h.2.2.1, fun q hq => ?_⟩
  obtain ⟨v, h1, h2⟩ := pm_asc_mem.mp hq
  rw [h2]
  exact h.2.2.2 _ _ h1
theorem pm_ok_lt {ls : List pO} {a : Nat} (h : pm_ok ls a = true) : a < ls.length := by
  unfold pm_ok at h
  simp only [Bool.and_eq_true, decide_eq_true_eq] at h
  exact h.1
theorem pm_ok_no {ls : List pO} {j : Nat} {v : Value} (h : pm_ok ls (j + 1) = true) (hv : ls[j]? = some (some v)) : v.category = 1 := by
  unfold pm_ok at h
  simp only [Bool.and_eq_true, decide_eq_true_eq] at h
  have h2 := h.2
  rw [hv] at h2
  cases v <;> first | rfl | cases h2
theorem pm_LR.set1 {w : pW} {nL a : Nat} {mls mls' : Array Slot} {ls : List pO} {v : Value} (h : pm_LR w nL mls ls) (hok : pm_ok ls a = true)
    (h' : lv_has mls' nL ((a, pm_em w v) :: (pm_asc w ls).filter (fun q => !(q.1 == a) && !(q.1 + 1 == a && q.2.category == 2)))) : pm_LR w nL mls' (ls.set a (some v)) := by
  refine ⟨h'.1, by rw [List.length_set]; exact h.2.1, h'.2.1, fun j u hu => ?_⟩
  by_cases hj : j = a
  · subst hj
    rw [List.getElem?_set_self (pm_ok_lt hok)] at hu
    cases hu
    exact h'.2.2 _ List.mem_cons_self
  · rw [List.getElem?_set_ne (Ne.symm hj)] at hu
    refine h'.2.2 (j, pm_em w u) (List.mem_cons_of_mem _ (List.mem_filter.mpr ⟨pm_asc_mem.mpr ⟨u, hu, rfl⟩, ?_⟩))
    simp only [Bool.and_eq_true, Bool.not_eq_true', beq_eq_false_iff_ne, ne_eq, Bool.and_eq_false_iff]
    refine ⟨hj, ?_⟩
    by_cases hj1 : j + 1 = a
    · subst hj1
      right
      rw [pm_em_cat, pm_ok_no hok hu]
      decide
    · exact Or.inl hj1
theorem pm_LR.set2 {w : pW} {nL a : Nat} {mls mls' : Array Slot} {ls : List pO} {v : Value} (h : pm_LR w nL mls ls) (hok : pm_ok ls a = true) (ha : a + 1 < ls.length)
    (h' : lv_has mls' nL ((a, pm_em w v) :: (pm_asc w ls).filter (fun q => !(q.1 == a) && (!(q.1 == a + 1) && !(q.1 + 1 == a && q.2.category == 2))))) : pm_LR w nL mls' ((ls.set a (some v)).set (a + 1) none) := by
  refine ⟨h'.1, by rw [List.length_set, List.length_set]; exact h.2.1, h'.2.1, fun j u hu => ?_⟩
  by_cases hj2 : j = a + 1
  · subst hj2
    rw [List.getElem?_set_self (by rw [List.length_set]; exact ha)] at hu
    cases hu
  rw [List.getElem?_set_ne (Ne.symm hj2)] at hu
  by_cases hj : j = a
  · subst hj
    rw [List.getElem?_set_self (pm_ok_lt hok)] at hu
    cases hu
    exact h'.2.2 _ List.mem_cons_self
  · rw [List.getElem?_set_ne (Ne.symm hj)] at hu
    refine h'.2.2 (j, pm_em w u) (List.mem_cons_of_mem _ (List.mem_filter.mpr ⟨pm_asc_mem.mpr ⟨u, hu, rfl⟩, ?_⟩))
    simp only [Bool.and_eq_true, Bool.not_eq_true', beq_eq_false_iff_ne, ne_eq, Bool.and_eq_false_iff]
    refine ⟨hj, hj2, ?_⟩
    by_cases hj1 : j + 1 = a
    · subst hj1
      right
      rw [pm_em_cat, pm_ok_no hok hu]
      decide
    · exact Or.inl hj1
def pm_esz : pE → Nat
  | .inl q => q.2.1
  | .inr q => q.2.length
def pm_sz (hp : pH) : Nat := (hp.map pm_esz).sum
/-- the machine does the step f at place i of method k -/
def pm_Sim (G : pG) (T : pT) (k i : Nat) (f : pS → Option pS) : Prop :=
  ∀ (p : Program) (l : Launch) (e : Env) (R : Room) (s : State) (m : MethodId) (args : Array Value) (below : List Frame) (meth : Method) (c : Code) (w : pW), pm_Cx G T w k p m c meth s args → 1 ≤ R.frames → 20 ≤ R.locals →
  ∀ (H : Heap) (locs : List Loc) (cells slots : Nat) (Q : State → Prop) (mls : Array Slot) (ls : List pO) (st : List Value) (hp : pH) (s' : pS), f (i, ls, st, hp) = some s' →
  (hp.length ≤ s'.2.2.2.length ∧ pm_sz hp ≤ pm_sz s'.2.2.2) ∧
  (pm_HR T w hp H → va_S (pm_A w) s.heap H locs → pm_LR w (pm_nL G k) mls ls → cells + (s'.2.2.2.length - hp.length) ≤ R.cells → slots + (pm_sz s'.2.2.2 - pm_sz hp) ≤ R.slots →
  (∀ (H' : Heap) (locs' : List Loc) (mls' : Array Slot), pm_HR T w s'.2.2.2 H' → va_S (pm_A w) s.heap H' locs' → pm_LR w (pm_nL G k) mls' s'.2.1 →
    W p l e R s m args below meth c H' locs' (cells + (s'.2.2.2.length - hp.length)) (slots + (pm_sz s'.2.2.2 - pm_sz hp)) Q (F0 m (pm_pc G k s'.1) mls' (s'.2.2.1.map (pm_em w)))) →
  W p l e R s m args below meth c H locs cells slots Q (F0 m (pm_pc G k i) mls (st.map (pm_em w))))
/-- a step that leaves the heap as it is -/
def pm_Sim0 (G : pG) (T : pT) (k i : Nat) (f : pS → Option pS) : Prop :=
  ∀ (p : Program) (l : Launch) (e : Env) (R : Room) (s : State) (m : MethodId) (args : Array Value) (below : List Frame) (meth : Method) (c : Code) (w : pW), pm_Cx G T w k p m c meth s args → 1 ≤ R.frames → 20 ≤ R.locals →
  ∀ (H : Heap) (locs : List Loc) (cells slots : Nat) (Q : State → Prop) (mls : Array Slot) (ls : List pO) (st : List Value) (hp : pH) (s' : pS), f (i, ls, st, hp) = some s' →
  s'.2.2.2 = hp ∧
  (pm_HR T w hp H → va_S (pm_A w) s.heap H locs → pm_LR w (pm_nL G k) mls ls →
  (∀ (mls' : Array Slot), pm_LR w (pm_nL G k) mls' s'.2.1 → W p l e R s m args below meth c H locs cells slots Q (F0 m (pm_pc G k s'.1) mls' (s'.2.2.1.map (pm_em w)))) →
  W p l e R s m args below meth c H locs cells slots Q (F0 m (pm_pc G k i) mls (st.map (pm_em w))))
theorem pm_Sim0.sim {G : pG} {T : pT} {k i : Nat} {f : pS → Option pS} (h : pm_Sim0 G T k i f) : pm_Sim G T k i f := by
  intro p l e R s m args below meth c w C hR1 hR2 H locs cells slots Q mls ls st hp s' hf
  obtain ⟨h1, h2⟩ := h p l e R s m args below meth c w C hR1 hR2 H locs cells slots Q mls ls st hp s' hf
  rw [h1]
  refine ⟨⟨Nat.le_refl _, Nat.le_refl _⟩, fun hH hS hL hc hs kk => h2 hH hS hL (fun mls' hL' => ?_)⟩
  have := kk H locs mls' hH hS hL'
  rw [Nat.sub_self, Nat.sub_self] at this
  exact this
section Steps0
variable {G : pG} {T : pT} {k i a : Nat}
theorem so_iload_n {n : Fin 4} (hd : decode (pm_by G k) (pm_pc G k i) = .ok (.iload_n n, 1)) (hn : (n : Nat) = a) (hp1 : pm_pc G k (i + 1) = pm_pc G k i + 1) : pm_Sim0 G T k i (op_iload a) := by
  intro p l e R s m args below meth c w C hR1 hR2 H locs cells slots Q mls ls st hp s' hf
  unfold op_iload at hf
  dsimp only at hf
  split at hf
  · rename_i x hx
    cases hf
    refine ⟨rfl, fun hH hS hL kk => ?_⟩
    dsimp only at kk
    rw [hp1] at kk
    exact lv_iload_n C.1 C.2.1 hd hn (hL.2.2.2 _ _ hx) (kk mls hL)
  · cases hf
theorem so_iload (hd : decode (pm_by G k) (pm_pc G k i) = .ok (.iload a, 2)) (hp1 : pm_pc G k (i + 1) = pm_pc G k i + 2) : pm_Sim0 G T k i (op_iload a) := by
  intro p l e R s m args below meth c w C hR1 hR2 H locs cells slots Q mls ls st hp s' hf
  unfold op_iload at hf
  dsimp only at hf
  split at hf
  · rename_i x hx
    cases hf
    refine ⟨rfl, fun hH hS hL kk => ?_⟩
    dsimp only at kk
    rw [hp1] at kk
    exact lv_iload C.1 C.2.1 hd (hL.2.2.2 _ _ hx) (kk mls hL)
  · cases hf
theorem so_lload_n {n : Fin 4} (hd : decode (pm_by G k) (pm_pc G k i) = .ok (.lload_n n, 1)) (hn : (n : Nat) = a) (hp1 : pm_pc G k (i + 1) = pm_pc G k i + 1) : pm_Sim0 G T k i (op_lload a) := by
  intro p l e R s m args below meth c w C hR1 hR2 H locs cells slots Q mls ls st hp s' hf
  unfold op_lload at hf
  dsimp only at hf
  split at hf
  · rename_i x hx
    cases hf
    refine ⟨rfl, fun hH hS hL kk => ?_⟩
    dsimp only at kk
    rw [hp1] at kk
    exact lv_lload_n C.1 C.2.1 hd hn (hL.2.2.2 _ _ hx) (kk mls hL)
  · cases hf
theorem so_lload (hd : decode (pm_by G k) (pm_pc G k i) = .ok (.lload a, 2)) (hp1 : pm_pc G k (i + 1) = pm_pc G k i + 2) : pm_Sim0 G T k i (op_lload a) := by
  intro p l e R s m args below meth c w C hR1 hR2 H locs cells slots Q mls ls st hp s' hf
  unfold op_lload at hf
  dsimp only at hf
  split at hf
  · rename_i x hx
    cases hf
    refine ⟨rfl, fun hH hS hL kk => ?_⟩
    dsimp only at kk
    rw [hp1] at kk
    exact lv_lload C.1 C.2.1 hd (hL.2.2.2 _ _ hx) (kk mls hL)
  · cases hf
theorem so_aload_n {n : Fin 4} (hd : decode (pm_by G k) (pm_pc G k i) = .ok (.aload_n n, 1)) (hn : (n : Nat) = a) (hp1 : pm_pc G k (i + 1) = pm_pc G k i + 1) : pm_Sim0 G T k i (op_aload a) := by
  intro p l e R s m args below meth c w C hR1 hR2 H locs cells slots Q mls ls st hp s' hf
  unfold op_aload at hf
  dsimp only at hf
  split at hf
  · rename_i x hx
    cases hf
    refine ⟨rfl, fun hH hS hL kk => ?_⟩
    dsimp only at kk
    rw [hp1] at kk
    exact lv_aload_n C.1 C.2.1 hd hn (hL.2.2.2 _ _ hx) (kk mls hL)
  · cases hf
theorem so_aload (hd : decode (pm_by G k) (pm_pc G k i) = .ok (.aload a, 2)) (hp1 : pm_pc G k (i + 1) = pm_pc G k i + 2) : pm_Sim0 G T k i (op_aload a) := by
  intro p l e R s m args below meth c w C hR1 hR2 H locs cells slots Q mls ls st hp s' hf
  unfold op_aload at hf
  dsimp only at hf
  split at hf
  · rename_i x hx
    cases hf
    refine ⟨rfl, fun hH hS hL kk => ?_⟩
    dsimp only at kk
    rw [hp1] at kk
    exact lv_aload C.1 C.2.1 hd (hL.2.2.2 _ _ hx) (kk mls hL)
  · cases hf
theorem so_istore_n {n : Fin 4} (hd : decode (pm_by G k) (pm_pc G k i) = .ok (.istore_n n, 1)) (hn : (n : Nat) = a) (hp1 : pm_pc G k (i + 1) = pm_pc G k i + 1) : pm_Sim0 G T k i (op_istore a) := by
  intro p l e R s m args below meth c w C hR1 hR2 H locs cells slots Q mls ls st hp s' hf
  unfold op_istore at hf
  dsimp only at hf
  split at hf
  · rename_i x st'
    split at hf
    · rename_i hok
      cases hf
      refine ⟨rfl, fun hH hS hL kk => ?_⟩
      dsimp only at kk
      rw [hp1] at kk
      exact lv_istore_n C.1 C.2.1 hd hn hL.has (by rw [← hL.2.1]; exact pm_ok_lt hok) rfl (fun mls' h' => kk mls' (hL.set1 (v := .int x) hok h'))
    · cases hf
  · cases hf
theorem so_istore (hd : decode (pm_by G k) (pm_pc G k i) = .ok (.istore a, 2)) (hp1 : pm_pc G k (i + 1) = pm_pc G k i + 2) : pm_Sim0 G T k i (op_istore a) := by
  intro p l e R s m args below meth c w C hR1 hR2 H locs cells slots Q mls ls st hp s' hf
  unfold op_istore at hf
  dsimp only at hf
  split at hf
  · rename_i x st'
    split at hf
    · rename_i hok
      cases hf
      refine ⟨rfl, fun hH hS hL kk => ?_⟩
      dsimp only at kk
      rw [hp1] at kk
      exact lv_istore C.1 C.2.1 hd hL.has (by rw [← hL.2.1]; exact pm_ok_lt hok) rfl (fun mls' h' => kk mls' (hL.set1 (v := .int x) hok h'))
    · cases hf
  · cases hf
theorem so_astore_n {n : Fin 4} (hd : decode (pm_by G k) (pm_pc G k i) = .ok (.astore_n n, 1)) (hn : (n : Nat) = a) (hp1 : pm_pc G k (i + 1) = pm_pc G k i + 1) : pm_Sim0 G T k i (op_astore a) := by
  intro p l e R s m args below meth c w C hR1 hR2 H locs cells slots Q mls ls st hp s' hf
  unfold op_astore at hf
  dsimp only at hf
  split at hf
  · rename_i x st'
    split at hf
    · rename_i hok
      cases hf
      refine ⟨rfl, fun hH hS hL kk => ?_⟩
      dsimp only at kk
      rw [hp1] at kk
      exact lv_astore_n C.1 C.2.1 hd hn hL.has (by rw [← hL.2.1]; exact pm_ok_lt hok) rfl (fun mls' h' => kk mls' (hL.set1 (v := .ref x) hok h'))
    · cases hf
  · cases hf
theorem so_astore (hd : decode (pm_by G k) (pm_pc G k i) = .ok (.astore a, 2)) (hp1 : pm_pc G k (i + 1) = pm_pc G k i + 2) : pm_Sim0 G T k i (op_astore a) := by
  intro p l e R s m args below meth c w C hR1 hR2 H locs cells slots Q mls ls st hp s' hf
  unfold op_astore at hf
  dsimp only at hf
  split at hf
  · rename_i x st'
    split at hf
    · rename_i hok
      cases hf
      refine ⟨rfl, fun hH hS hL kk => ?_⟩
      dsimp only at kk
      rw [hp1] at kk
      exact lv_astore C.1 C.2.1 hd hL.has (by rw [← hL.2.1]; exact pm_ok_lt hok) rfl (fun mls' h' => kk mls' (hL.set1 (v := .ref x) hok h'))
    · cases hf
  · cases hf
theorem so_lstore_n {n : Fin 4} (hd : decode (pm_by G k) (pm_pc G k i) = .ok (.lstore_n n, 1)) (hn : (n : Nat) = a) (hp1 : pm_pc G k (i + 1) = pm_pc G k i + 1) : pm_Sim0 G T k i (op_lstore a) := by
  intro p l e R s m args below meth c w C hR1 hR2 H locs cells slots Q mls ls st hp s' hf
  unfold op_lstore at hf
  dsimp only at hf
  split at hf
  · rename_i x st'
    split at hf
    · rename_i hok
      cases hf
      refine ⟨rfl, fun hH hS hL kk => ?_⟩
      dsimp only at kk
      rw [hp1] at kk
      exact lv_lstore_n C.1 C.2.1 hd hn hL.has (by rw [← hL.2.1]; exact hok.2) rfl (fun mls' h' => kk mls' (hL.set2 (v := .long x) hok.1 hok.2 h'))
    · cases hf
  · cases hf
theorem so_lstore (hd : decode (pm_by G k) (pm_pc G k i) = .ok (.lstore a, 2)) (hp1 : pm_pc G k (i + 1) = pm_pc G k i + 2) : pm_Sim0 G T k i (op_lstore a) := by
  intro p l e R s m args below meth c w C hR1 hR2 H locs cells slots Q mls ls st hp s' hf
  unfold op_lstore at hf
  dsimp only at hf
  split at hf
  · rename_i x st'
    split at hf
    · rename_i hok
      cases hf
      refine ⟨rfl, fun hH hS hL kk => ?_⟩
      dsimp only at kk
      rw [hp1] at kk
      exact lv_lstore C.1 C.2.1 hd hL.has (by rw [← hL.2.1]; exact hok.2) rfl (fun mls' h' => kk mls' (hL.set2 (v := .long x) hok.1 hok.2 h'))
    · cases hf
  · cases hf
theorem so_iinc {n : Int} {d : Int32} (hd : decode (pm_by G k) (pm_pc G k i) = .ok (.iinc a n, 3)) (hn : Int32.ofInt n = d) (hp1 : pm_pc G k (i + 1) = pm_pc G k i + 3) : pm_Sim0 G T k i (op_iinc a d) := by
  intro p l e R s m args below meth c w C hR1 hR2 H locs cells slots Q mls ls st hp s' hf
  unfold op_iinc at hf
  dsimp only at hf
  split at hf
  · rename_i x hx
    split at hf
    · rename_i hok
      cases hf
      refine ⟨rfl, fun hH hS hL kk => ?_⟩
      dsimp only at kk
      rw [hp1] at kk
      obtain ⟨j, hj⟩ := List.getElem?_of_mem (pm_asc_mem (w := w) (ls := ls) (q := (a, .int x)) |>.mpr ⟨.int x, hx, rfl⟩)
      exact lv_iinc C.1 C.2.1 hd hL.has (k := j) hj (by rw [hn]) (by rw [← hL.2.1]; exact pm_ok_lt hok) rfl (fun mls' h' => kk mls' (hL.set1 (v := .int (x + d)) hok h'))
    · cases hf
  · cases hf
theorem so_iconst {n : Int} {x : Int32} (hd : decode (pm_by G k) (pm_pc G k i) = .ok (.iconst n, 1)) (hn : Int32.ofInt n = x) (hp1 : pm_pc G k (i + 1) = pm_pc G k i + 1) : pm_Sim0 G T k i (op_ic x) := by
  intro p l e R s m args below meth c w C hR1 hR2 H locs cells slots Q mls ls st hp s' hf
  cases hf
  refine ⟨rfl, fun hH hS hL kk => ?_⟩
  dsimp only at kk
  rw [hp1] at kk
  exact lv_iconst C.1 C.2.1 hd hn (kk mls hL)
theorem so_bipush {n : Int} {x : Int32} (hd : decode (pm_by G k) (pm_pc G k i) = .ok (.bipush n, 2)) (hn : (Int8.ofInt n).toInt32 = x) (hp1 : pm_pc G k (i + 1) = pm_pc G k i + 2) : pm_Sim0 G T k i (op_ic x) := by
  intro p l e R s m args below meth c w C hR1 hR2 H locs cells slots Q mls ls st hp s' hf
  cases hf
  refine ⟨rfl, fun hH hS hL kk => ?_⟩
  dsimp only at kk
  rw [hp1] at kk
  exact lv_bipush C.1 C.2.1 hd hn (kk mls hL)
theorem so_sipush {n : Int} {x : Int32} (hd : decode (pm_by G k) (pm_pc G k i) = .ok (.sipush n, 3)) (hn : (Int16.ofInt n).toInt32 = x) (hp1 : pm_pc G k (i + 1) = pm_pc G k i + 3) : pm_Sim0 G T k i (op_ic x) := by
  intro p l e R s m args below meth c w C hR1 hR2 H locs cells slots Q mls ls st hp s' hf
  cases hf
  refine ⟨rfl, fun hH hS hL kk => ?_⟩
  dsimp only at kk
  rw [hp1] at kk
  exact lv_sipush C.1 C.2.1 hd hn (kk mls hL)
theorem so_ldc {n : Nat} {x : Int32} (hd : decode (pm_by G k) (pm_pc G k i) = .ok (.ldc n, 2)) (hm : Cond.constant (pm_nm G k).cls n x ∈ T.2.1) (hp1 : pm_pc G k (i + 1) = pm_pc G k i + 2) : pm_Sim0 G T k i (op_ic x) := by
  intro p l e R s m args below meth c w C hR1 hR2 H locs cells slots Q mls ls st hp s' hf
  cases hf
  refine ⟨rfl, fun hH hS hL kk => ?_⟩
  dsimp only at kk
  rw [hp1] at kk
  exact lv_ldc C.1 C.2.1 C.2.2.2.1 (C.2.2.2.2.1 _ hm) hd (kk mls hL)
theorem so_ldcw {n : Nat} {x : Int32} (hd : decode (pm_by G k) (pm_pc G k i) = .ok (.ldc_w n, 3)) (hm : Cond.constant (pm_nm G k).cls n x ∈ T.2.1) (hp1 : pm_pc G k (i + 1) = pm_pc G k i + 3) : pm_Sim0 G T k i (op_ic x) := by
  intro p l e R s m args below meth c w C hR1 hR2 H locs cells slots Q mls ls st hp s' hf
  cases hf
  refine ⟨rfl, fun hH hS hL kk => ?_⟩
  dsimp only at kk
  rw [hp1] at kk
  exact lv_ldcw C.1 C.2.1 C.2.2.2.1 (C.2.2.2.2.1 _ hm) hd (kk mls hL)
theorem so_ldc2 {n : Nat} {x : Int64} (hd : decode (pm_by G k) (pm_pc G k i) = .ok (.ldc2_w n, 3)) (hm : Cond.constantLong (pm_nm G k).cls n x ∈ T.2.1) (hp1 : pm_pc G k (i + 1) = pm_pc G k i + 3) : pm_Sim0 G T k i (op_lc x) := by
  intro p l e R s m args below meth c w C hR1 hR2 H locs cells slots Q mls ls st hp s' hf
  cases hf
  refine ⟨rfl, fun hH hS hL kk => ?_⟩
  dsimp only at kk
  rw [hp1] at kk
  exact lv_ldc2 C.1 C.2.1 C.2.2.2.1 (C.2.2.2.2.1 _ hm) hd (kk mls hL)
theorem so_lconst {n : Fin 2} {x : Int64} (hd : decode (pm_by G k) (pm_pc G k i) = .ok (.lconst n, 1)) (hn : Int64.ofNat (n : Nat) = x) (hp1 : pm_pc G k (i + 1) = pm_pc G k i + 1) : pm_Sim0 G T k i (op_lc x) := by
  intro p l e R s m args below meth c w C hR1 hR2 H locs cells slots Q mls ls st hp s' hf
  cases hf
  refine ⟨rfl, fun hH hS hL kk => ?_⟩
  dsimp only at kk
  rw [hp1] at kk
  exact lv_lconst C.1 C.2.1 hd hn (kk mls hL)
theorem so_iadd (hd : decode (pm_by G k) (pm_pc G k i) = .ok (.iadd, 1)) (hp1 : pm_pc G k (i + 1) = pm_pc G k i + 1) : pm_Sim0 G T k i (op_bin (fun x y => x + y)) := by
  intro p l e R s m args below meth c w C hR1 hR2 H locs cells slots Q mls ls st hp s' hf
  unfold op_bin at hf
  dsimp only at hf
  split at hf
  · rename_i y x st'
    cases hf
    refine ⟨rfl, fun hH hS hL kk => ?_⟩
    dsimp only at kk
    rw [hp1] at kk
    exact lv_iadd C.1 C.2.1 hd (kk mls hL)
  · cases hf
theorem so_isub (hd : decode (pm_by G k) (pm_pc G k i) = .ok (.isub, 1)) (hp1 : pm_pc G k (i + 1) = pm_pc G k i + 1) : pm_Sim0 G T k i (op_bin (fun x y => x - y)) := by
  intro p l e R s m args below meth c w C hR1 hR2 H locs cells slots Q mls ls st hp s' hf
  unfold op_bin at hf
  dsimp only at hf
  split at hf
  · rename_i y x st'
    cases hf
    refine ⟨rfl, fun hH hS hL kk => ?_⟩
    dsimp only at kk
    rw [hp1] at kk
    exact lv_isub C.1 C.2.1 hd (kk mls hL)
  · cases hf
theorem so_imul (hd : decode (pm_by G k) (pm_pc G k i) = .ok (.imul, 1)) (hp1 : pm_pc G k (i + 1) = pm_pc G k i + 1) : pm_Sim0 G T k i (op_bin (fun x y => x * y)) := by
  intro p l e R s m args below meth c w C hR1 hR2 H locs cells slots Q mls ls st hp s' hf
  unfold op_bin at hf
  dsimp only at hf
  split at hf
  · rename_i y x st'
    cases hf
    refine ⟨rfl, fun hH hS hL kk => ?_⟩
    dsimp only at kk
    rw [hp1] at kk
    exact lv_imul C.1 C.2.1 hd (kk mls hL)
  · cases hf
theorem so_iand (hd : decode (pm_by G k) (pm_pc G k i) = .ok (.iand, 1)) (hp1 : pm_pc G k (i + 1) = pm_pc G k i + 1) : pm_Sim0 G T k i (op_bin (fun x y => x &&& y)) := by
  intro p l e R s m args below meth c w C hR1 hR2 H locs cells slots Q mls ls st hp s' hf
  unfold op_bin at hf
  dsimp only at hf
  split at hf
  · rename_i y x st'
    cases hf
    refine ⟨rfl, fun hH hS hL kk => ?_⟩
    dsimp only at kk
    rw [hp1] at kk
    exact lv_iand C.1 C.2.1 hd (kk mls hL)
  · cases hf
theorem so_ior (hd : decode (pm_by G k) (pm_pc G k i) = .ok (.ior, 1)) (hp1 : pm_pc G k (i + 1) = pm_pc G k i + 1) : pm_Sim0 G T k i (op_bin (fun x y => x ||| y)) := by
  intro p l e R s m args below meth c w C hR1 hR2 H locs cells slots Q mls ls st hp s' hf
  unfold op_bin at hf
  dsimp only at hf
  split at hf
  · rename_i y x st'
    cases hf
    refine ⟨rfl, fun hH hS hL kk => ?_⟩
    dsimp only at kk
    rw [hp1] at kk
    exact lv_ior C.1 C.2.1 hd (kk mls hL)
  · cases hf
theorem so_ixor (hd : decode (pm_by G k) (pm_pc G k i) = .ok (.ixor, 1)) (hp1 : pm_pc G k (i + 1) = pm_pc G k i + 1) : pm_Sim0 G T k i (op_bin (fun x y => x ^^^ y)) := by
  intro p l e R s m args below meth c w C hR1 hR2 H locs cells slots Q mls ls st hp s' hf
  unfold op_bin at hf
  dsimp only at hf
  split at hf
  · rename_i y x st'
    cases hf
    refine ⟨rfl, fun hH hS hL kk => ?_⟩
    dsimp only at kk
    rw [hp1] at kk
    exact lv_ixor C.1 C.2.1 hd (kk mls hL)
  · cases hf
theorem so_ishl (hd : decode (pm_by G k) (pm_pc G k i) = .ok (.ishl, 1)) (hp1 : pm_pc G k (i + 1) = pm_pc G k i + 1) : pm_Sim0 G T k i (op_bin (fun x y => x <<< (y &&& 31))) := by
  intro p l e R s m args below meth c w C hR1 hR2 H locs cells slots Q mls ls st hp s' hf
  unfold op_bin at hf
  dsimp only at hf
  split at hf
  · rename_i y x st'
    cases hf
    refine ⟨rfl, fun hH hS hL kk => ?_⟩
    dsimp only at kk
    rw [hp1] at kk
    exact lv_ishl C.1 C.2.1 hd (kk mls hL)
  · cases hf
theorem so_ishr (hd : decode (pm_by G k) (pm_pc G k i) = .ok (.ishr, 1)) (hp1 : pm_pc G k (i + 1) = pm_pc G k i + 1) : pm_Sim0 G T k i (op_bin (fun x y => x >>> (y &&& 31))) := by
  intro p l e R s m args below meth c w C hR1 hR2 H locs cells slots Q mls ls st hp s' hf
  unfold op_bin at hf
  dsimp only at hf
  split at hf
  · rename_i y x st'
    cases hf
    refine ⟨rfl, fun hH hS hL kk => ?_⟩
    dsimp only at kk
    rw [hp1] at kk
    exact lv_ishr C.1 C.2.1 hd (kk mls hL)
  · cases hf
theorem so_idiv (hd : decode (pm_by G k) (pm_pc G k i) = .ok (.idiv, 1)) (hp1 : pm_pc G k (i + 1) = pm_pc G k i + 1) : pm_Sim0 G T k i (op_div (fun x y => x / y)) := by
  intro p l e R s m args below meth c w C hR1 hR2 H locs cells slots Q mls ls st hp s' hf
  unfold op_div at hf
  dsimp only at hf
  split at hf
  · rename_i y x st'
    split at hf
    · cases hf
    rename_i hy
    cases hf
    refine ⟨rfl, fun hH hS hL kk => ?_⟩
    dsimp only at kk
    rw [hp1] at kk
    exact lv_idiv C.1 C.2.1 hd hy (kk mls hL)
  · cases hf
theorem so_irem (hd : decode (pm_by G k) (pm_pc G k i) = .ok (.irem, 1)) (hp1 : pm_pc G k (i + 1) = pm_pc G k i + 1) : pm_Sim0 G T k i (op_div (fun x y => x % y)) := by
  intro p l e R s m args below meth c w C hR1 hR2 H locs cells slots Q mls ls st hp s' hf
  unfold op_div at hf
  dsimp only at hf
  split at hf
  · rename_i y x st'
    split at hf
    · cases hf
    rename_i hy
    cases hf
    refine ⟨rfl, fun hH hS hL kk => ?_⟩
    dsimp only at kk
    rw [hp1] at kk
    have kk := kk mls hL
    rw [← irem_eq_mod] at kk
    exact lv_irem C.1 C.2.1 hd hy kk
  · cases hf
theorem so_ladd (hd : decode (pm_by G k) (pm_pc G k i) = .ok (.ladd, 1)) (hp1 : pm_pc G k (i + 1) = pm_pc G k i + 1) : pm_Sim0 G T k i (op_lbin (fun x y => x + y)) := by
  intro p l e R s m args below meth c w C hR1 hR2 H locs cells slots Q mls ls st hp s' hf
  unfold op_lbin at hf
  dsimp only at hf
  split at hf
  · rename_i y x st'
    cases hf
    refine ⟨rfl, fun hH hS hL kk => ?_⟩
    dsimp only at kk
    rw [hp1] at kk
    exact lv_ladd C.1 C.2.1 hd (kk mls hL)
  · cases hf
theorem so_lmul (hd : decode (pm_by G k) (pm_pc G k i) = .ok (.lmul, 1)) (hp1 : pm_pc G k (i + 1) = pm_pc G k i + 1) : pm_Sim0 G T k i (op_lbin (fun x y => x * y)) := by
  intro p l e R s m args below meth c w C hR1 hR2 H locs cells slots Q mls ls st hp s' hf
  unfold op_lbin at hf
  dsimp only at hf
  split at hf
  · rename_i y x st'
    cases hf
    refine ⟨rfl, fun hH hS hL kk => ?_⟩
    dsimp only at kk
    rw [hp1] at kk
    exact lv_lmul C.1 C.2.1 hd (kk mls hL)
  · cases hf
theorem so_ldiv (hd : decode (pm_by G k) (pm_pc G k i) = .ok (.ldiv, 1)) (hp1 : pm_pc G k (i + 1) = pm_pc G k i + 1) : pm_Sim0 G T k i (op_ldiv (fun x y => x / y)) := by
  intro p l e R s m args below meth c w C hR1 hR2 H locs cells slots Q mls ls st hp s' hf
  unfold op_ldiv at hf
  dsimp only at hf
  split at hf
  · rename_i y x st'
    split at hf
    · cases hf
    rename_i hy
    cases hf
    refine ⟨rfl, fun hH hS hL kk => ?_⟩
    dsimp only at kk
    rw [hp1] at kk
    exact lv_ldiv C.1 C.2.1 hd hy (kk mls hL)
  · cases hf
theorem so_lrem (hd : decode (pm_by G k) (pm_pc G k i) = .ok (.lrem, 1)) (hp1 : pm_pc G k (i + 1) = pm_pc G k i + 1) : pm_Sim0 G T k i (op_ldiv (fun x y => x - x / y * y)) := by
  intro p l e R s m args below meth c w C hR1 hR2 H locs cells slots Q mls ls st hp s' hf
  unfold op_ldiv at hf
  dsimp only at hf
  split at hf
  · rename_i y x st'
    split at hf
    · cases hf
    rename_i hy
    cases hf
    refine ⟨rfl, fun hH hS hL kk => ?_⟩
    dsimp only at kk
    rw [hp1] at kk
    exact lv_lrem C.1 C.2.1 hd hy (kk mls hL)
  · cases hf
theorem so_lcmp (hd : decode (pm_by G k) (pm_pc G k i) = .ok (.lcmp, 1)) (hp1 : pm_pc G k (i + 1) = pm_pc G k i + 1) : pm_Sim0 G T k i (op_lcmp ) := by
  intro p l e R s m args below meth c w C hR1 hR2 H locs cells slots Q mls ls st hp s' hf
  unfold op_lcmp at hf
  dsimp only at hf
  split at hf
  · rename_i y x st'
    cases hf
    refine ⟨rfl, fun hH hS hL kk => ?_⟩
    dsimp only at kk
    rw [hp1] at kk
    exact W.lcmp C.1 C.2.1 hd (kk mls hL)
  · cases hf
theorem so_iushr (hd : decode (pm_by G k) (pm_pc G k i) = .ok (.iushr, 1)) (hp1 : pm_pc G k (i + 1) = pm_pc G k i + 1) : pm_Sim0 G T k i (op_bin (fun x y => (x.toUInt32 >>> (y.toUInt32 &&& Int32.toUInt32 31)).toInt32)) := by
  intro p l e R s m args below meth c w C hR1 hR2 H locs cells slots Q mls ls st hp s' hf
  unfold op_bin at hf
  dsimp only at hf
  split at hf
  · rename_i y x st'
    cases hf
    refine ⟨rfl, fun hH hS hL kk => ?_⟩
    dsimp only at kk
    rw [hp1] at kk
    exact lv_iushr C.1 C.2.1 hd rfl (kk mls hL)
  · cases hf
theorem so_i2l (hd : decode (pm_by G k) (pm_pc G k i) = .ok (.i2l, 1)) (hp1 : pm_pc G k (i + 1) = pm_pc G k i + 1) : pm_Sim0 G T k i op_i2l := by
  intro p l e R s m args below meth c w C hR1 hR2 H locs cells slots Q mls ls st hp s' hf
  unfold op_i2l at hf
  dsimp only at hf
  split at hf
  · rename_i x st'
    cases hf
    refine ⟨rfl, fun hH hS hL kk => ?_⟩
    dsimp only at kk
    rw [hp1] at kk
    exact lv_i2l C.1 C.2.1 hd rfl (kk mls hL)
  · cases hf
theorem so_l2i (hd : decode (pm_by G k) (pm_pc G k i) = .ok (.l2i, 1)) (hp1 : pm_pc G k (i + 1) = pm_pc G k i + 1) : pm_Sim0 G T k i op_l2i := by
  intro p l e R s m args below meth c w C hR1 hR2 H locs cells slots Q mls ls st hp s' hf
  unfold op_l2i at hf
  dsimp only at hf
  split at hf
  · rename_i x st'
    cases hf
    refine ⟨rfl, fun hH hS hL kk => ?_⟩
    dsimp only at kk
    rw [hp1] at kk
    exact lv_l2i C.1 C.2.1 hd rfl (kk mls hL)
  · cases hf
theorem so_dup (hd : decode (pm_by G k) (pm_pc G k i) = .ok (.dup, 1)) (hp1 : pm_pc G k (i + 1) = pm_pc G k i + 1) : pm_Sim0 G T k i op_dup := by
  intro p l e R s m args below meth c w C hR1 hR2 H locs cells slots Q mls ls st hp s' hf
  unfold op_dup at hf
  dsimp only at hf
  split at hf
  · cases hf
    refine ⟨rfl, fun hH hS hL kk => ?_⟩
    dsimp only at kk
    rw [hp1] at kk
    exact lv_dup C.1 C.2.1 hd rfl (kk mls hL)
  · cases hf
    refine ⟨rfl, fun hH hS hL kk => ?_⟩
    dsimp only at kk
    rw [hp1] at kk
    exact lv_dup C.1 C.2.1 hd rfl (kk mls hL)
  · cases hf
theorem so_pop (hd : decode (pm_by G k) (pm_pc G k i) = .ok (.pop, 1)) (hp1 : pm_pc G k (i + 1) = pm_pc G k i + 1) : pm_Sim0 G T k i op_pop := by
  intro p l e R s m args below meth c w C hR1 hR2 H locs cells slots Q mls ls st hp s' hf
  unfold op_pop at hf
  dsimp only at hf
  split at hf
  · cases hf
    refine ⟨rfl, fun hH hS hL kk => ?_⟩
    dsimp only at kk
    rw [hp1] at kk
    exact lv_pop C.1 C.2.1 hd rfl (kk mls hL)
  · cases hf
    refine ⟨rfl, fun hH hS hL kk => ?_⟩
    dsimp only at kk
    rw [hp1] at kk
    exact lv_pop C.1 C.2.1 hd rfl (kk mls hL)
  · cases hf
theorem so_dup2 (hd : decode (pm_by G k) (pm_pc G k i) = .ok (.dup2, 1)) (hp1 : pm_pc G k (i + 1) = pm_pc G k i + 1) : pm_Sim0 G T k i op_dup2 := by
  intro p l e R s m args below meth c w C hR1 hR2 H locs cells slots Q mls ls st hp s' hf
  unfold op_dup2 at hf
  dsimp only at hf
  split at hf
  · cases hf
    refine ⟨rfl, fun hH hS hL kk => ?_⟩
    dsimp only at kk
    rw [hp1] at kk
    exact lv_dup2_11 C.1 C.2.1 hd rfl rfl (kk mls hL)
  · cases hf
theorem so_goto {off : Int} {t : Nat} (hd : decode (pm_by G k) (pm_pc G k i) = .ok (.goto off, 3)) (ht : (pm_pc G k i : Int) + off = (pm_pc G k t : Int)) : pm_Sim0 G T k i (op_goto t) := by
  intro p l e R s m args below meth c w C hR1 hR2 H locs cells slots Q mls ls st hp s' hf
  cases hf
  exact ⟨rfl, fun hH hS hL kk => lv_goto C.1 C.2.1 hd ht (kk mls hL)⟩
theorem so_if_eq {off : Int} {t : Nat} (hd : decode (pm_by G k) (pm_pc G k i) = .ok (.ifCond .eq off, 3)) (ht : (pm_pc G k i : Int) + off = (pm_pc G k t : Int)) (hp1 : pm_pc G k (i + 1) = pm_pc G k i + 3) : pm_Sim0 G T k i (op_if (fun x => decide (x = 0)) t) := by
  intro p l e R s m args below meth c w C hR1 hR2 H locs cells slots Q mls ls st hp s' hf
  unfold op_if at hf
  dsimp only at hf
  split at hf
  · rename_i x st'
    cases hf
    exact ⟨rfl, fun hH hS hL kk => lv_if_eq C.1 C.2.1 hd ht (fun h => by have := kk mls hL; dsimp only at this; rw [if_pos (decide_eq_true h)] at this; exact this) (fun h => by have := kk mls hL; dsimp only at this; rw [if_neg (fun z => h (of_decide_eq_true z)), hp1] at this; exact this)⟩
  · cases hf
theorem so_icmp_eq {off : Int} {t : Nat} (hd : decode (pm_by G k) (pm_pc G k i) = .ok (.if_icmp .eq off, 3)) (ht : (pm_pc G k i : Int) + off = (pm_pc G k t : Int)) (hp1 : pm_pc G k (i + 1) = pm_pc G k i + 3) : pm_Sim0 G T k i (op_icmp (fun x y => decide (x = y)) t) := by
  intro p l e R s m args below meth c w C hR1 hR2 H locs cells slots Q mls ls st hp s' hf
  unfold op_icmp at hf
  dsimp only at hf
  split at hf
  · rename_i y x st'
    cases hf
    exact ⟨rfl, fun hH hS hL kk => lv_icmp_eq C.1 C.2.1 hd ht (fun h => by have := kk mls hL; dsimp only at this; rw [if_pos (decide_eq_true h)] at this; exact this) (fun h => by have := kk mls hL; dsimp only at this; rw [if_neg (fun z => h (of_decide_eq_true z)), hp1] at this; exact this)⟩
  · cases hf
theorem so_if_ne {off : Int} {t : Nat} (hd : decode (pm_by G k) (pm_pc G k i) = .ok (.ifCond .ne off, 3)) (ht : (pm_pc G k i : Int) + off = (pm_pc G k t : Int)) (hp1 : pm_pc G k (i + 1) = pm_pc G k i + 3) : pm_Sim0 G T k i (op_if (fun x => decide (¬ x = 0)) t) := by
  intro p l e R s m args below meth c w C hR1 hR2 H locs cells slots Q mls ls st hp s' hf
  unfold op_if at hf
  dsimp only at hf
  split at hf
  · rename_i x st'
    cases hf
    exact ⟨rfl, fun hH hS hL kk => lv_if_ne C.1 C.2.1 hd ht (fun h => by have := kk mls hL; dsimp only at this; rw [if_pos (decide_eq_true h)] at this; exact this) (fun h => by have := kk mls hL; dsimp only at this; rw [if_neg (fun z => (of_decide_eq_true z) h), hp1] at this; exact this)⟩
  · cases hf
theorem so_icmp_ne {off : Int} {t : Nat} (hd : decode (pm_by G k) (pm_pc G k i) = .ok (.if_icmp .ne off, 3)) (ht : (pm_pc G k i : Int) + off = (pm_pc G k t : Int)) (hp1 : pm_pc G k (i + 1) = pm_pc G k i + 3) : pm_Sim0 G T k i (op_icmp (fun x y => decide (¬ x = y)) t) := by
  intro p l e R s m args below meth c w C hR1 hR2 H locs cells slots Q mls ls st hp s' hf
  unfold op_icmp at hf
  dsimp only at hf
  split at hf
  · rename_i y x st'
    cases hf
    exact ⟨rfl, fun hH hS hL kk => lv_icmp_ne C.1 C.2.1 hd ht (fun h => by have := kk mls hL; dsimp only at this; rw [if_pos (decide_eq_true h)] at this; exact this) (fun h => by have := kk mls hL; dsimp only at this; rw [if_neg (fun z => (of_decide_eq_true z) h), hp1] at this; exact this)⟩
  · cases hf
theorem so_if_lt {off : Int} {t : Nat} (hd : decode (pm_by G k) (pm_pc G k i) = .ok (.ifCond .lt off, 3)) (ht : (pm_pc G k i : Int) + off = (pm_pc G k t : Int)) (hp1 : pm_pc G k (i + 1) = pm_pc G k i + 3) : pm_Sim0 G T k i (op_if (fun x => decide (x < 0)) t) := by
  intro p l e R s m args below meth c w C hR1 hR2 H locs cells slots Q mls ls st hp s' hf
  unfold op_if at hf
  dsimp only at hf
  split at hf
  · rename_i x st'
    cases hf
    exact ⟨rfl, fun hH hS hL kk => lv_if_lt C.1 C.2.1 hd ht (fun h => by have := kk mls hL; dsimp only at this; rw [if_pos (decide_eq_true h)] at this; exact this) (fun h => by have := kk mls hL; dsimp only at this; rw [if_neg (fun z => h (of_decide_eq_true z)), hp1] at this; exact this)⟩
  · cases hf
theorem so_icmp_lt {off : Int} {t : Nat} (hd : decode (pm_by G k) (pm_pc G k i) = .ok (.if_icmp .lt off, 3)) (ht : (pm_pc G k i : Int) + off = (pm_pc G k t : Int)) (hp1 : pm_pc G k (i + 1) = pm_pc G k i + 3) : pm_Sim0 G T k i (op_icmp (fun x y => decide (x < y)) t) := by
  intro p l e R s m args below meth c w C hR1 hR2 H locs cells slots Q mls ls st hp s' hf
  unfold op_icmp at hf
  dsimp only at hf
  split at hf
  · rename_i y x st'
    cases hf
    exact ⟨rfl, fun hH hS hL kk => lv_icmp_lt C.1 C.2.1 hd ht (fun h => by have := kk mls hL; dsimp only at this; rw [if_pos (decide_eq_true h)] at this; exact this) (fun h => by have := kk mls hL; dsimp only at this; rw [if_neg (fun z => h (of_decide_eq_true z)), hp1] at this; exact this)⟩
  · cases hf
theorem so_if_ge {off : Int} {t : Nat} (hd : decode (pm_by G k) (pm_pc G k i) = .ok (.ifCond .ge off, 3)) (ht : (pm_pc G k i : Int) + off = (pm_pc G k t : Int)) (hp1 : pm_pc G k (i + 1) = pm_pc G k i + 3) : pm_Sim0 G T k i (op_if (fun x => decide (0 ≤ x)) t) := by
  intro p l e R s m args below meth c w C hR1 hR2 H locs cells slots Q mls ls st hp s' hf
  unfold op_if at hf
  dsimp only at hf
  split at hf
  · rename_i x st'
    cases hf
    exact ⟨rfl, fun hH hS hL kk => lv_if_ge C.1 C.2.1 hd ht (fun h => by have := kk mls hL; dsimp only at this; rw [if_pos (decide_eq_true h)] at this; exact this) (fun h => by have := kk mls hL; dsimp only at this; rw [if_neg (fun z => h (of_decide_eq_true z)), hp1] at this; exact this)⟩
  · cases hf
theorem so_icmp_ge {off : Int} {t : Nat} (hd : decode (pm_by G k) (pm_pc G k i) = .ok (.if_icmp .ge off, 3)) (ht : (pm_pc G k i : Int) + off = (pm_pc G k t : Int)) (hp1 : pm_pc G k (i + 1) = pm_pc G k i + 3) : pm_Sim0 G T k i (op_icmp (fun x y => decide (y ≤ x)) t) := by
  intro p l e R s m args below meth c w C hR1 hR2 H locs cells slots Q mls ls st hp s' hf
  unfold op_icmp at hf
  dsimp only at hf
  split at hf
  · rename_i y x st'
    cases hf
    exact ⟨rfl, fun hH hS hL kk => lv_icmp_ge C.1 C.2.1 hd ht (fun h => by have := kk mls hL; dsimp only at this; rw [if_pos (decide_eq_true h)] at this; exact this) (fun h => by have := kk mls hL; dsimp only at this; rw [if_neg (fun z => h (of_decide_eq_true z)), hp1] at this; exact this)⟩
  · cases hf
theorem so_if_gt {off : Int} {t : Nat} (hd : decode (pm_by G k) (pm_pc G k i) = .ok (.ifCond .gt off, 3)) (ht : (pm_pc G k i : Int) + off = (pm_pc G k t : Int)) (hp1 : pm_pc G k (i + 1) = pm_pc G k i + 3) : pm_Sim0 G T k i (op_if (fun x => decide (0 < x)) t) := by
  intro p l e R s m args below meth c w C hR1 hR2 H locs cells slots Q mls ls st hp s' hf
  unfold op_if at hf
  dsimp only at hf
  split at hf
  · rename_i x st'
    cases hf
    exact ⟨rfl, fun hH hS hL kk => lv_if_gt C.1 C.2.1 hd ht (fun h => by have := kk mls hL; dsimp only at this; rw [if_pos (decide_eq_true h)] at this; exact this) (fun h => by have := kk mls hL; dsimp only at this; rw [if_neg (fun z => h (of_decide_eq_true z)), hp1] at this; exact this)⟩
  · cases hf
theorem so_icmp_gt {off : Int} {t : Nat} (hd : decode (pm_by G k) (pm_pc G k i) = .ok (.if_icmp .gt off, 3)) (ht : (pm_pc G k i : Int) + off = (pm_pc G k t : Int)) (hp1 : pm_pc G k (i + 1) = pm_pc G k i + 3) : pm_Sim0 G T k i (op_icmp (fun x y => decide (y < x)) t) := by
  intro p l e R s m args below meth c w C hR1 hR2 H locs cells slots Q mls ls st hp s' hf
  unfold op_icmp at hf
  dsimp only at hf
  split at hf
  · rename_i y x st'
    cases hf
    exact ⟨rfl, fun hH hS hL kk => lv_icmp_gt C.1 C.2.1 hd ht (fun h => by have := kk mls hL; dsimp only at this; rw [if_pos (decide_eq_true h)] at this; exact this) (fun h => by have := kk mls hL; dsimp only at this; rw [if_neg (fun z => h (of_decide_eq_true z)), hp1] at this; exact this)⟩
  · cases hf
theorem so_if_le {off : Int} {t : Nat} (hd : decode (pm_by G k) (pm_pc G k i) = .ok (.ifCond .le off, 3)) (ht : (pm_pc G k i : Int) + off = (pm_pc G k t : Int)) (hp1 : pm_pc G k (i + 1) = pm_pc G k i + 3) : pm_Sim0 G T k i (op_if (fun x => decide (x ≤ 0)) t) := by
  intro p l e R s m args below meth c w C hR1 hR2 H locs cells slots Q mls ls st hp s' hf
  unfold op_if at hf
  dsimp only at hf
  split at hf
  · rename_i x st'
    cases hf
    exact ⟨rfl, fun hH hS hL kk => lv_if_le C.1 C.2.1 hd ht (fun h => by have := kk mls hL; dsimp only at this; rw [if_pos (decide_eq_true h)] at this; exact this) (fun h => by have := kk mls hL; dsimp only at this; rw [if_neg (fun z => h (of_decide_eq_true z)), hp1] at this; exact this)⟩
  · cases hf
theorem so_icmp_le {off : Int} {t : Nat} (hd : decode (pm_by G k) (pm_pc G k i) = .ok (.if_icmp .le off, 3)) (ht : (pm_pc G k i : Int) + off = (pm_pc G k t : Int)) (hp1 : pm_pc G k (i + 1) = pm_pc G k i + 3) : pm_Sim0 G T k i (op_icmp (fun x y => decide (x ≤ y)) t) := by
  intro p l e R s m args below meth c w C hR1 hR2 H locs cells slots Q mls ls st hp s' hf
  unfold op_icmp at hf
  dsimp only at hf
  split at hf
  · rename_i y x st'
    cases hf
    exact ⟨rfl, fun hH hS hL kk => lv_icmp_le C.1 C.2.1 hd ht (fun h => by have := kk mls hL; dsimp only at this; rw [if_pos (decide_eq_true h)] at this; exact this) (fun h => by have := kk mls hL; dsimp only at this; rw [if_neg (fun z => h (of_decide_eq_true z)), hp1] at this; exact this)⟩
  · cases hf
end Steps0
