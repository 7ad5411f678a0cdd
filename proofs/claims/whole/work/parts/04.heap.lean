/-! Steps that read or write the heap. -/
theorem pm_P1 {D : va_G} {cl : List vw_C} {q : Nat × va_E} {H : Heap} (h : va_at D cl q H) : va_P D cl [q] H := by
  intro k x hx
  match k, hx with
  | 0, hx => cases hx; exact h
  | k + 1, hx => simp at hx
theorem pm_HR.at {T : pT} {w : pW} {hp : pH} {H : Heap} (h : pm_HR T w hp H) {a : Nat} {c : Nat} {fs : List Value} (ha : hp[a]? = some (.inr (c, fs))) : ∃ j, a = j + 1 ∧ va_at w.2.1 T.1 (w.1.2.1 + j, .inr (c, fs.map (pm_em w))) H := by
  match a, ha with
  | 0, ha => rw [h.1] at ha; cases ha
  | j + 1, ha => exact ⟨j, rfl, (h.2.2 j _ ha).1⟩
theorem pm_HR.arr {T : pT} {w : pW} {hp : pH} {H : Heap} (h : pm_HR T w hp H) {a t : Nat} {x : vp_A} (ht : t ≠ 3) (ha : hp[a]? = some (.inl (t, x))) : ∃ j, a = j + 1 ∧ va_at w.2.1 T.1 (w.1.2.1 + j, .inl (w.2.2 t, x)) H := by
  match a, ha with
  | 0, ha => rw [h.1] at ha; cases ha; exact absurd rfl ht
  | j + 1, ha => exact ⟨j, rfl, (h.2.2 j _ ha).1⟩
theorem pm_HR.zero {T : pT} {w : pW} {hp : pH} {H : Heap} (h : pm_HR T w hp H) {a : Nat} {x : vp_A} (ha : hp[a]? = some (.inl (3, x))) : a = 0 := by
  match a, ha with
  | 0, _ => rfl
  | j + 1, ha => exact absurd rfl ((h.2.2 j _ ha).2 3 x rfl)
theorem pm_HR.set {T : pT} {w : pW} {hp : pH} {H H1 : Heap} (h : pm_HR T w hp H) {j : Nat} {e : pE} (hj : j + 1 < hp.length) (he : va_at w.2.1 T.1 (w.1.2.1 + j, pm_emE w e) H1) (hn : ∀ (t : Nat) (x : vp_A), e = .inl (t, x) → t ≠ 3) (hz : H1.size = H.size) (ho : ∀ q : Nat, q ≠ w.1.2.1 + j → H1[q]? = H[q]?) : pm_HR T w (hp.set (j + 1) e) H1 := by
  refine ⟨?_, ?_, fun i e' hi => ?_⟩
  · rw [List.getElem?_set_ne (by omega)]
    exact h.1
  · rw [hz, List.length_set]
    exact h.2.1
  · by_cases hij : i = j
    · subst hij
      rw [List.getElem?_set_self hj] at hi
      cases hi
      exact ⟨he, hn⟩
    · rw [List.getElem?_set_ne (by omega)] at hi
      exact ⟨(h.2.2 i e' hi).1.kept (ho _ (by show w.1.2.1 + i ≠ _; omega)), (h.2.2 i e' hi).2⟩
theorem pm_HR.push {T : pT} {w : pW} {hp : pH} {H H1 : Heap} (h : pm_HR T w hp H) {e : pE} (he : va_at w.2.1 T.1 (H.size, pm_emE w e) H1) (hn3 : ∀ (t : Nat) (x : vp_A), e = .inl (t, x) → t ≠ 3) (hz : H1.size = H.size + 1) (ho : ∀ q : Nat, q < H.size → H1[q]? = H[q]?) : pm_HR T w (hp ++ [e]) H1 ∧ pm_ad w hp.length = H.size := by
  have hl : 0 < hp.length := (List.getElem?_eq_some_iff.mp h.1).1
  have hs := h.2.1
  obtain ⟨n, hn⟩ : ∃ n, hp.length = n + 1 := ⟨hp.length - 1, by omega⟩
  have hsz : H.size = w.1.2.1 + n := by omega
  refine ⟨⟨?_, ?_, fun i e' hi => ?_⟩, by rw [hn, hsz]; rfl⟩
  · rw [List.getElem?_append_left hl]
    exact h.1
  · rw [hz, List.length_append, List.length_singleton]
    omega
  · by_cases hi2 : i + 1 < hp.length
    · rw [List.getElem?_append_left hi2] at hi
      exact ⟨(h.2.2 i e' hi).1.kept (ho _ (by show w.1.2.1 + i < _; omega)), (h.2.2 i e' hi).2⟩
    · rw [List.getElem?_append_right (by omega)] at hi
      have hk : i + 1 - hp.length < 1 := (List.getElem?_eq_some_iff.mp hi).1
      have hin : i = n := by omega
      subst hin
      rw [show i + 1 - hp.length = 0 by omega] at hi
      cases hi
      rw [← hsz]
      exact ⟨he, hn3⟩
theorem pm_sz_set : ∀ (hp : pH) (a : Nat) (e e0 : pE), hp[a]? = some e0 → pm_esz e = pm_esz e0 → pm_sz (hp.set a e) = pm_sz hp
  | [], a, e, e0, h, _ => by simp at h
  | x :: hp, 0, e, e0, h, hs => by
    rw [List.getElem?_cons_zero] at h
    cases h
    show (pm_esz e :: hp.map pm_esz).sum = (pm_esz x :: hp.map pm_esz).sum
    rw [hs]
  | x :: hp, a + 1, e, e0, h, hs => by
    rw [List.getElem?_cons_succ] at h
    have := pm_sz_set hp a e e0 h hs
    show (pm_esz x :: (hp.set a e).map pm_esz).sum = (pm_esz x :: hp.map pm_esz).sum
    rw [List.sum_cons, List.sum_cons]
    unfold pm_sz at this
    rw [this]
theorem pm_sz_app (hp : pH) (e : pE) : pm_sz (hp ++ [e]) = pm_sz hp + pm_esz e := by
  unfold pm_sz
  rw [List.map_append, List.sum_append]
  simp
/-- a step that writes cells that are there -/
def pm_SimS (G : pG) (T : pT) (k i : Nat) (f : pS → Option pS) : Prop :=
  ∀ (p : Program) (l : Launch) (e : Env) (R : Room) (s : State) (m : MethodId) (args : Array Value) (below : List Frame) (meth : Method) (c : Code) (w : pW), pm_Cx G T w k p m c meth s args → 1 ≤ R.frames → 20 ≤ R.locals →
  ∀ (H : Heap) (locs : List Loc) (cells slots : Nat) (Q : State → Prop) (mls : Array Slot) (ls : List pO) (st : List Value) (hp : pH) (s' : pS), f (i, ls, st, hp) = some s' →
  (s'.2.2.2.length = hp.length ∧ pm_sz s'.2.2.2 = pm_sz hp) ∧
  (pm_HR T w hp H → va_S (pm_A w) s.heap H locs → pm_LR w (pm_nL G k) mls ls →
  (∀ (H' : Heap) (locs' : List Loc) (mls' : Array Slot), pm_HR T w s'.2.2.2 H' → va_S (pm_A w) s.heap H' locs' → pm_LR w (pm_nL G k) mls' s'.2.1 → W p l e R s m args below meth c H' locs' cells slots Q (F0 m (pm_pc G k s'.1) mls' (s'.2.2.1.map (pm_em w)))) →
  W p l e R s m args below meth c H locs cells slots Q (F0 m (pm_pc G k i) mls (st.map (pm_em w))))
theorem pm_SimS.sim {G : pG} {T : pT} {k i : Nat} {f : pS → Option pS} (h : pm_SimS G T k i f) : pm_Sim G T k i f := by
  intro p l e R s m args below meth c w C hR1 hR2 H locs cells slots Q mls ls st hp s' hf
  obtain ⟨⟨h0, h1⟩, h2⟩ := h p l e R s m args below meth c w C hR1 hR2 H locs cells slots Q mls ls st hp s' hf
  rw [h0, h1]
  refine ⟨⟨Nat.le_refl _, Nat.le_refl _⟩, fun hH hS hL hc hs kk => h2 hH hS hL (fun H' locs' mls' hH' hS' hL' => ?_)⟩
  have := kk H' locs' mls' hH' hS' hL'
  rw [Nat.sub_self, Nat.sub_self] at this
  exact this
section StepsH
variable {G : pG} {T : pT} {k i : Nat}
theorem so_getI {n ci j N : Nat} {C : String} {Tb : u_T} (hd : decode (pm_by G k) (pm_pc G k i) = .ok (.getfield n, 3)) (hc : T.1[ci]? = some (C, Tb, N)) (hj : j < N) (hl : Cond.fieldLink (pm_nm G k).cls n (Tb j).1 (Tb j).2.1 (Tb j).2.2.1 ∈ T.2.1) (hin : ∀ v ∈ u_ws C Tb N, v ∈ T.2.1) (hp1 : pm_pc G k (i + 1) = pm_pc G k i + 3) : pm_Sim0 G T k i (op_getI ci j) := by
  intro p l e R s m args below meth c w C0 hR1 hR2 H locs cells slots Q mls ls st hp s' hf
  unfold op_getI at hf
  dsimp only at hf
  split at hf
  · rename_i a st'
    split at hf
    · rename_i c' fs ha
      split at hf
      · rename_i hci
        subst hci
        split at hf
        · rename_i x hx
          cases hf
          refine ⟨rfl, fun hH hS hL kk => ?_⟩
          dsimp only at kk
          rw [hp1] at kk
          obtain ⟨q, rfl, hat⟩ := hH.at ha
          exact va_get C0.1 C0.2.1 C0.2.2.2.2.1 hin C0.2.2.2.1 C0.2.2.2.2.2.1.1 (pm_P1 hat) 0 rfl hc j hj (C0.2.2.2.2.1 _ hl) (fun _ h => h) (by rw [List.getElem?_map, hx]; rfl) hd (kk mls hL)
        · cases hf
      · cases hf
    · cases hf
  · cases hf
theorem so_getA {n ci j N : Nat} {C : String} {Tb : u_T} (hd : decode (pm_by G k) (pm_pc G k i) = .ok (.getfield n, 3)) (hc : T.1[ci]? = some (C, Tb, N)) (hj : j < N) (hl : Cond.fieldLink (pm_nm G k).cls n (Tb j).1 (Tb j).2.1 (Tb j).2.2.1 ∈ T.2.1) (hin : ∀ v ∈ u_ws C Tb N, v ∈ T.2.1) (hp1 : pm_pc G k (i + 1) = pm_pc G k i + 3) : pm_Sim0 G T k i (op_getA ci j) := by
  intro p l e R s m args below meth c w C0 hR1 hR2 H locs cells slots Q mls ls st hp s' hf
  unfold op_getA at hf
  dsimp only at hf
  split at hf
  · rename_i a st'
    split at hf
    · rename_i c' fs ha
      split at hf
      · rename_i hci
        subst hci
        split at hf
        · rename_i x hx
          cases hf
          refine ⟨rfl, fun hH hS hL kk => ?_⟩
          dsimp only at kk
          rw [hp1] at kk
          obtain ⟨q, rfl, hat⟩ := hH.at ha
          exact va_get C0.1 C0.2.1 C0.2.2.2.2.1 hin C0.2.2.2.1 C0.2.2.2.2.2.1.1 (pm_P1 hat) 0 rfl hc j hj (C0.2.2.2.2.1 _ hl) (fun _ h => h) (by rw [List.getElem?_map, hx]; rfl) hd (kk mls hL)
        · cases hf
      · cases hf
    · cases hf
  · cases hf
/-- a store into a field, final or not -/
theorem pm_put {p : Program} {l : Launch} {e : Env} {R : Room} {s : State} {m : MethodId} {args : Array Value} {below : List Frame} {meth : Method} {c : Code} {w : pW} (C0 : pm_Cx G T w k p m c meth s args) {H : Heap} {locs : List Loc} {cells slots : Nat} {Q : State → Prop} {pc : Nat} {mls : Array Slot} {rest : List Value}
    {n ci j N : Nat} {C : String} {Tb : u_T} {ty : Nat → FieldType} (hd : decode (pm_by G k) pc = .ok (.putfield n, 3)) (hc : T.1[ci]? = some (C, Tb, N)) (hj : j < N) (hl : Cond.fieldLink (pm_nm G k).cls n (Tb j).1 (Tb j).2.1 (Tb j).2.2.1 ∈ T.2.1) (hin : ∀ v ∈ u_ws C Tb N, v ∈ T.2.1) (hty : ∀ x, x < N → parseFieldDescriptor (Tb x).2.2.1 = some (ty x)) (hnm : ∀ x, x < N → ∀ y, y < N → x ≠ y → (Tb x).2.1 ≠ (Tb y).2.1)
    (hfin : (Tb j).2.2.2 = false ∨ ((Tb j).2.2.2 = true ∧ (pm_nm G k).name = "<init>" ∧ (Tb j).1 = (pm_nm G k).cls)) {v : Value} (hn : narrow (ty j) v = v) (hfit : fits (ty j) v = true) {q : Nat} {fs : List Value} (hat : va_at w.2.1 T.1 (w.1.2.1 + q, .inr (ci, fs)) H) (hf : j < fs.length) (hS : va_S (pm_A w) s.heap H locs)
    (kk : ∀ (H1 : Heap) (locs1 : List Loc), va_at w.2.1 T.1 (w.1.2.1 + q, .inr (ci, fs.set j v)) H1 → H1.size = H.size → (∀ x : Nat, x ≠ w.1.2.1 + q → H1[x]? = H[x]?) → va_S (pm_A w) s.heap H1 locs1 → W p l e R s m args below meth c H1 locs1 cells slots Q (F0 m (pc + 3) mls rest)) : W p l e R s m args below meth c H locs cells slots Q (F0 m pc mls (v :: .ref (w.1.2.1 + q) :: rest)) := by
  have hts := C0.2.2.2.2.1
  have hK := C0.2.2.2.2.2.1.1
  have hap := va_apart (own := C) hts hin ty hty hnm hK hc
  obtain ⟨r, h1, cell, q1, q2, q3, q4⟩ := hat
  cases h1.symm.trans hc
  obtain ⟨hSl, hfc, kC, hkC, hkind⟩ := hK.1 ci _ hc
  obtain ⟨cf, kf, fi, f, hi, hsl⟩ := hSl j hj
  have hlay := hts _ (hin _ (u_in_lay hj))
  have hst := (u_facts hfc hkC (u_lays hts hin hj) hi).1
  have hAq : pm_A w (w.1.2.1 + q) := Nat.le_add_right _ _
  have fin : ∀ H' : Heap, H'[w.1.2.1 + q]? = some (cell.setSlot f.slot v) → H'.size = H.size → (∀ x : Nat, x ≠ w.1.2.1 + q → H'[x]? = H[x]?) → W p l e R s m args below meth c H' (locs ++ [⟨w.1.2.1 + q, f.slot⟩]) cells slots Q (F0 m (pc + 3) mls rest) := by
    intro H' e1 e2 e3
    rw [hsl] at e1 ⊢
    exact kk H' _ ⟨_, hc, t_OB.to (V := updV (vp_V fs) j v) ⟨_, e1, q2, q3, t_set q4 hap hj v⟩ (fun x _ => vp_updV_set hf v x)⟩ e2 e3 (hS.put e2 e3 hAq)
  rcases hfin with hfin | ⟨hfin, hin2, hdecl⟩
  · unfold u_lay at hlay
    rw [if_neg (by rw [hfin]; decide)] at hlay
    have h6 := u_store hfc hkC hkind hlay hi (hty j hj) hn hfit
    exact W.putK C0.1 C0.2.1 (f := f) ⟨C0.2.2.2.1, hts _ hl, ⟨_, _, _, hi⟩, hst⟩ (by rw [q2]; exact h6) q1 q3 (by rw [hsl]; exact k2_hasslot (q4 j hj)) rfl rfl hd fin
  · unfold u_lay at hlay
    rw [if_pos hfin] at hlay
    have hcf : m.cls = cf := by
      obtain ⟨_, _, c', _, _, _, -, -, hf', -, -, -, hown2, -⟩ := Cond.laysFinal_spec hlay
      have e1 : c' = cf := by have := hi.symm.trans hf'; simp at this; exact this.1.symm
      rw [hdecl] at hown2
      rw [← e1]
      exact Option.some.inj (C0.2.2.2.1.symm.trans hown2)
    have h6 := u_fits hfc hkC hkind (Or.inr hlay) hi (hty j hj) hn hfit
    exact W.putFinK C0.1 C0.2.1 C0.2.2.2.1 (hts _ hl) hi hst hcf (C0.2.2.2.2.2.2.2.2.trans hin2) (by rw [q2]; exact h6) q1 q3 (by rw [hsl]; exact k2_hasslot (q4 j hj)) rfl rfl hd fin
theorem so_putI {n ci j N : Nat} {C : String} {Tb : u_T} {ty : Nat → FieldType} (hd : decode (pm_by G k) (pm_pc G k i) = .ok (.putfield n, 3)) (hc : T.1[ci]? = some (C, Tb, N)) (hj : j < N) (hl : Cond.fieldLink (pm_nm G k).cls n (Tb j).1 (Tb j).2.1 (Tb j).2.2.1 ∈ T.2.1) (hin : ∀ v ∈ u_ws C Tb N, v ∈ T.2.1) (hty : ∀ x, x < N → parseFieldDescriptor (Tb x).2.2.1 = some (ty x)) (hnm : ∀ x, x < N → ∀ y, y < N → x ≠ y → (Tb x).2.1 ≠ (Tb y).2.1) (hfin : (Tb j).2.2.2 = false) (htj : ty j = .int) (hp1 : pm_pc G k (i + 1) = pm_pc G k i + 3) : pm_SimS G T k i (op_putI ci j) := by
  intro p l e R s m args below meth c w C0 hR1 hR2 H locs cells slots Q mls ls st hp s' hf
  unfold op_putI at hf
  dsimp only at hf
  split at hf
  · rename_i x a st'
    split at hf
    · rename_i c' fs ha
      split at hf
      · rename_i hci
        obtain ⟨rfl, hfl⟩ := hci
        cases hf
        refine ⟨⟨List.length_set, pm_sz_set _ _ _ _ ha (by simp [pm_esz])⟩, fun hH hS hL kk => ?_⟩
        dsimp only at kk
        rw [hp1] at kk
        obtain ⟨q, rfl, hat⟩ := hH.at ha
        refine pm_put C0 hd hc hj hl hin hty hnm (Or.inl hfin) (v := .int x) (by rw [htj]; rfl) (by rw [htj]; rfl) hat (by rw [List.length_map]; exact hfl) hS (fun H1 locs1 h1 h2 h3 h4 => kk H1 locs1 mls (hH.set (List.getElem?_eq_some_iff.mp ha).1 ?_ (fun _ _ z => nomatch z) h2 h3) h4 hL)
        show va_at _ _ (_, Sum.inr (_, (fs.set j (.int x)).map (pm_em w))) _
        rw [List.map_set]
        exact h1
      · cases hf
    · cases hf
  · cases hf
theorem pm_narrowZ {x : Int32} (h : x = 0 ∨ x = 1) : narrow .boolean (.int x) = .int x ∧ fits .boolean (.int x) = true := by
  rcases h with rfl | rfl <;> exact ⟨rfl, rfl⟩
theorem so_putZ {n ci j N : Nat} {C : String} {Tb : u_T} {ty : Nat → FieldType} (hd : decode (pm_by G k) (pm_pc G k i) = .ok (.putfield n, 3)) (hc : T.1[ci]? = some (C, Tb, N)) (hj : j < N) (hl : Cond.fieldLink (pm_nm G k).cls n (Tb j).1 (Tb j).2.1 (Tb j).2.2.1 ∈ T.2.1) (hin : ∀ v ∈ u_ws C Tb N, v ∈ T.2.1) (hty : ∀ x, x < N → parseFieldDescriptor (Tb x).2.2.1 = some (ty x)) (hnm : ∀ x, x < N → ∀ y, y < N → x ≠ y → (Tb x).2.1 ≠ (Tb y).2.1) (hfin : (Tb j).2.2.2 = false) (htj : ty j = .boolean) (hp1 : pm_pc G k (i + 1) = pm_pc G k i + 3) : pm_SimS G T k i (op_putZ ci j) := by
  intro p l e R s m args below meth c w C0 hR1 hR2 H locs cells slots Q mls ls st hp s' hf
  unfold op_putZ at hf
  dsimp only at hf
  split at hf
  · rename_i x a st'
    split at hf
    · rename_i c' fs ha
      split at hf
      · rename_i hci
        obtain ⟨⟨rfl, hfl⟩, hz⟩ := hci
        cases hf
        refine ⟨⟨List.length_set, pm_sz_set _ _ _ _ ha (by simp [pm_esz])⟩, fun hH hS hL kk => ?_⟩
        dsimp only at kk
        rw [hp1] at kk
        obtain ⟨q, rfl, hat⟩ := hH.at ha
        refine pm_put C0 hd hc hj hl hin hty hnm (Or.inl hfin) (v := .int x) (by rw [htj]; exact (pm_narrowZ hz).1) (by rw [htj]; exact (pm_narrowZ hz).2) hat (by rw [List.length_map]; exact hfl) hS (fun H1 locs1 h1 h2 h3 h4 => kk H1 locs1 mls (hH.set (List.getElem?_eq_some_iff.mp ha).1 ?_ (fun _ _ z => nomatch z) h2 h3) h4 hL)
        show va_at _ _ (_, Sum.inr (_, (fs.set j (.int x)).map (pm_em w))) _
        rw [List.map_set]
        exact h1
      · cases hf
    · cases hf
  · cases hf
def pm_isRef : FieldType → Bool
  | .object _ => true
  | .array _ => true
  | _ => false
theorem pm_narrowA {t : FieldType} (h : pm_isRef t = true) (a : Nat) : narrow t (.ref a) = .ref a ∧ fits t (.ref a) = true := by
  cases t <;> first | exact ⟨rfl, rfl⟩ | cases h
theorem so_putA {n ci j N : Nat} {C : String} {Tb : u_T} {ty : Nat → FieldType} (hd : decode (pm_by G k) (pm_pc G k i) = .ok (.putfield n, 3)) (hc : T.1[ci]? = some (C, Tb, N)) (hj : j < N) (hl : Cond.fieldLink (pm_nm G k).cls n (Tb j).1 (Tb j).2.1 (Tb j).2.2.1 ∈ T.2.1) (hin : ∀ v ∈ u_ws C Tb N, v ∈ T.2.1) (hty : ∀ x, x < N → parseFieldDescriptor (Tb x).2.2.1 = some (ty x)) (hnm : ∀ x, x < N → ∀ y, y < N → x ≠ y → (Tb x).2.1 ≠ (Tb y).2.1) (hfin : (Tb j).2.2.2 = true) (hin2 : (pm_nm G k).name = "<init>") (hdecl : (Tb j).1 = (pm_nm G k).cls) (htj : pm_isRef (ty j) = true) (hp1 : pm_pc G k (i + 1) = pm_pc G k i + 3) : pm_SimS G T k i (op_putA ci j) := by
  intro p l e R s m args below meth c w C0 hR1 hR2 H locs cells slots Q mls ls st hp s' hf
  unfold op_putA at hf
  dsimp only at hf
  split at hf
  · rename_i x a st'
    split at hf
    · rename_i c' fs ha
      split at hf
      · rename_i hci
        obtain ⟨rfl, hfl⟩ := hci
        cases hf
        refine ⟨⟨List.length_set, pm_sz_set _ _ _ _ ha (by simp [pm_esz])⟩, fun hH hS hL kk => ?_⟩
        dsimp only at kk
        rw [hp1] at kk
        obtain ⟨q, rfl, hat⟩ := hH.at ha
        refine pm_put C0 hd hc hj hl hin hty hnm (Or.inr ⟨hfin, hin2, hdecl⟩) (v := .ref (pm_ad w x)) (pm_narrowA htj _).1 (pm_narrowA htj _).2 hat (by rw [List.length_map]; exact hfl) hS (fun H1 locs1 h1 h2 h3 h4 => kk H1 locs1 mls (hH.set (List.getElem?_eq_some_iff.mp ha).1 ?_ (fun _ _ z => nomatch z) h2 h3) h4 hL)
        show va_at _ _ (_, Sum.inr (_, (fs.set j (.ref x)).map (pm_em w))) _
        rw [List.map_set]
        exact h1
      · cases hf
    · cases hf
  · cases hf
theorem so_iald (hd : decode (pm_by G k) (pm_pc G k i) = .ok (.iaload, 1)) (hp1 : pm_pc G k (i + 1) = pm_pc G k i + 1) : pm_Sim0 G T k i (op_iald 0) := by
  intro p l e R s m args below meth c w C0 hR1 hR2 H locs cells slots Q mls ls st hp s' hf
  unfold op_iald at hf
  dsimp only at hf
  split at hf
  · rename_i x a st'
    split at hf
    · rename_i t' n f ha
      split at hf
      · rename_i hci
        obtain ⟨rfl, hpin⟩ := hci
        cases hf
        refine ⟨rfl, fun hH hS hL kk => ?_⟩
        dsimp only at kk
        rw [hp1] at kk
        obtain ⟨q, rfl, hat⟩ := hH.arr (by decide) ha
        exact va_iald C0.1 C0.2.1 C0.2.2.2.2.2.1.1 (pm_P1 hat) 0 0 rfl rfl (pin_in hpin) hd (kk mls hL)
      · cases hf
    · cases hf
  · cases hf
theorem so_sld (hd : decode (pm_by G k) (pm_pc G k i) = .ok (.iaload, 1)) (hp1 : pm_pc G k (i + 1) = pm_pc G k i + 1) : pm_Sim0 G T k i (op_iald 3) := by
  intro p l e R s m args below meth c w C0 hR1 hR2 H locs cells slots Q mls ls st hp s' hf
  unfold op_iald at hf
  dsimp only at hf
  split at hf
  · rename_i x a st'
    split at hf
    · rename_i t' n f ha
      split at hf
      · rename_i hci
        obtain ⟨rfl, hpin⟩ := hci
        cases hf
        refine ⟨rfl, fun hH hS hL kk => ?_⟩
        dsimp only at kk
        rw [hp1] at kk
        have hz : a = 0 := hH.zero ha
        subst hz
        rw [hH.1] at ha
        cases ha
        exact va_sld C0.1 C0.2.1 C0.2.2.2.2.2.1.2.2.1 (Nat.lt_of_lt_of_le C0.2.2.2.2.2.1.2.2.2.1 C0.2.2.2.2.2.1.2.2.2.2) (Nat.not_le.mpr C0.2.2.2.2.2.1.2.2.2.1) hS (pin_in hpin) hd (kk mls hL)
      · cases hf
    · cases hf
  · cases hf
theorem so_zald (hd : decode (pm_by G k) (pm_pc G k i) = .ok (.baload, 1)) (hp1 : pm_pc G k (i + 1) = pm_pc G k i + 1) : pm_Sim0 G T k i (op_iald 1) := by
  intro p l e R s m args below meth c w C0 hR1 hR2 H locs cells slots Q mls ls st hp s' hf
  unfold op_iald at hf
  dsimp only at hf
  split at hf
  · rename_i x a st'
    split at hf
    · rename_i t' n f ha
      split at hf
      · rename_i hci
        obtain ⟨rfl, hpin⟩ := hci
        cases hf
        refine ⟨rfl, fun hH hS hL kk => ?_⟩
        dsimp only at kk
        rw [hp1] at kk
        obtain ⟨q, rfl, hat⟩ := hH.arr (by decide) ha
        exact va_zald C0.1 C0.2.1 C0.2.2.2.2.2.1.1 (pm_P1 hat) 0 1 rfl rfl (pin_in hpin) hd (kk mls hL)
      · cases hf
    · cases hf
  · cases hf
theorem so_lald (hd : decode (pm_by G k) (pm_pc G k i) = .ok (.laload, 1)) (hp1 : pm_pc G k (i + 1) = pm_pc G k i + 1) : pm_Sim0 G T k i op_lald := by
  intro p l e R s m args below meth c w C0 hR1 hR2 H locs cells slots Q mls ls st hp s' hf
  unfold op_lald at hf
  dsimp only at hf
  split at hf
  · rename_i x a st'
    split at hf
    · rename_i t' n f ha
      split at hf
      · rename_i hci
        obtain ⟨rfl, hpin⟩ := hci
        cases hf
        refine ⟨rfl, fun hH hS hL kk => ?_⟩
        dsimp only at kk
        rw [hp1] at kk
        obtain ⟨q, rfl, hat⟩ := hH.arr (by decide) ha
        exact va_lald C0.1 C0.2.1 C0.2.2.2.2.2.1.1 (pm_P1 hat) 0 2 rfl rfl (pin_in hpin) hd (kk mls hL)
      · cases hf
    · cases hf
  · cases hf
theorem so_iast (hd : decode (pm_by G k) (pm_pc G k i) = .ok (.iastore, 1)) (hp1 : pm_pc G k (i + 1) = pm_pc G k i + 1) : pm_SimS G T k i op_iast := by
  intro p l e R s m args below meth c w C0 hR1 hR2 H locs cells slots Q mls ls st hp s' hf
  unfold op_iast at hf
  dsimp only at hf
  split at hf
  · rename_i x j a st'
    split at hf
    · rename_i t' n f ha
      split at hf
      · rename_i hci
        obtain ⟨rfl, hpin⟩ := hci
        cases hf
        refine ⟨⟨List.length_set, pm_sz_set _ _ _ _ ha rfl⟩, fun hH hS hL kk => ?_⟩
        dsimp only at kk
        rw [hp1] at kk
        obtain ⟨q, rfl, hat⟩ := hH.arr (by decide) ha
        refine W.iast C0.1 C0.2.1 hat ((C0.2.2.2.2.2.1.1.2 0 _ rfl).1 n (fun z => .int (f z))) (fun z => by cases z) (by show ¬ (j < 0 ∨ (arrV _ _ _).slots.size ≤ _); rw [arrV_size]; exact pin_in hpin) rfl rfl hd fun H1 e1 z1 o1 => ?_
        refine kk H1 _ mls (hH.set (List.getElem?_eq_some_iff.mp ha).1 ?_ (fun t y z => by cases z; decide) z1 o1) (hS.put z1 o1 (Nat.le_add_right _ _)) hL
        show H1[_]? = some (vp_cell _ _)
        rw [e1, vp_cell_i, vp_cell_i, arrV_store]
        congr 2
        funext z
        by_cases hz : z = j.toNatClampNeg
        · subst hz
          simp [updV, upd]
        · simp [updV, upd, hz]
      · cases hf
    · cases hf
  · cases hf
theorem so_zast (hd : decode (pm_by G k) (pm_pc G k i) = .ok (.bastore, 1)) (hp1 : pm_pc G k (i + 1) = pm_pc G k i + 1) : pm_SimS G T k i op_zast := by
  intro p l e R s m args below meth c w C0 hR1 hR2 H locs cells slots Q mls ls st hp s' hf
  unfold op_zast at hf
  dsimp only at hf
  split at hf
  · rename_i x j a st'
    split at hf
    · rename_i t' n f ha
      split at hf
      · rename_i hci
        obtain ⟨⟨rfl, hpin⟩, hx01⟩ := hci
        cases hf
        refine ⟨⟨List.length_set, pm_sz_set _ _ _ _ ha rfl⟩, fun hH hS hL kk => ?_⟩
        dsimp only at kk
        rw [hp1] at kk
        obtain ⟨q, rfl, hat⟩ := hH.arr (by decide) ha
        refine W.zast C0.1 C0.2.1 hat ((C0.2.2.2.2.2.1.1.2 1 _ rfl).1 n (fun z => .int (f z))) (fun z => by cases z) (by show ¬ (j < 0 ∨ (arrV _ _ _).slots.size ≤ _); rw [arrV_size]; exact pin_in hpin) rfl rfl hd fun H1 e1 z1 o1 => ?_
        refine kk H1 _ mls (hH.set (List.getElem?_eq_some_iff.mp ha).1 ?_ (fun t y z => by cases z; decide) z1 o1) (hS.put z1 o1 (Nat.le_add_right _ _)) hL
        show H1[_]? = some (vp_cell _ _)
        rw [e1, vp_cell_i, vp_cell_i, arrV_store, (pm_narrowZ hx01).1]
        congr 2
        funext z
        by_cases hz : z = j.toNatClampNeg
        · subst hz
          simp [updV, upd]
        · simp [updV, upd, hz]
      · cases hf
    · cases hf
  · cases hf
theorem so_last (hd : decode (pm_by G k) (pm_pc G k i) = .ok (.lastore, 1)) (hp1 : pm_pc G k (i + 1) = pm_pc G k i + 1) : pm_SimS G T k i op_last := by
  intro p l e R s m args below meth c w C0 hR1 hR2 H locs cells slots Q mls ls st hp s' hf
  unfold op_last at hf
  dsimp only at hf
  split at hf
  · rename_i x j a st'
    split at hf
    · rename_i t' n f ha
      split at hf
      · rename_i hci
        obtain ⟨rfl, hpin⟩ := hci
        cases hf
        refine ⟨⟨List.length_set, pm_sz_set _ _ _ _ ha rfl⟩, fun hH hS hL kk => ?_⟩
        dsimp only at kk
        rw [hp1] at kk
        obtain ⟨q, rfl, hat⟩ := hH.arr (by decide) ha
        refine W.last C0.1 C0.2.1 hat ((C0.2.2.2.2.2.1.1.2 2 _ rfl).1 n (fun z => .long (f z))) (fun z => by cases z) (by show ¬ (j < 0 ∨ (arrV _ _ _).slots.size ≤ _); rw [arrV_size]; exact pin_in hpin) rfl rfl hd fun H1 e1 z1 o1 => ?_
        refine kk H1 _ mls (hH.set (List.getElem?_eq_some_iff.mp ha).1 ?_ (fun t y z => by cases z; decide) z1 o1) (hS.put z1 o1 (Nat.le_add_right _ _)) hL
        show H1[_]? = some (vp_cell _ _)
        rw [e1, vp_cell_l, vp_cell_l, arrV_store]
        congr 2
        funext z
        by_cases hz : z = j.toNatClampNeg
        · subst hz
          simp [updV, vp_updL]
        · simp [updV, vp_updL, hz]
      · cases hf
    · cases hf
  · cases hf
theorem so_alen (hd : decode (pm_by G k) (pm_pc G k i) = .ok (.arraylength, 1)) (hp1 : pm_pc G k (i + 1) = pm_pc G k i + 1) : pm_Sim0 G T k i (op_alen 0) := by
  intro p l e R s m args below meth c w C0 hR1 hR2 H locs cells slots Q mls ls st hp s' hf
  unfold op_alen at hf
  dsimp only at hf
  split at hf
  · rename_i a st'
    split at hf
    · rename_i t' n f ha
      split at hf
      · rename_i hci
        subst hci
        cases hf
        refine ⟨rfl, fun hH hS hL kk => ?_⟩
        dsimp only at kk
        rw [hp1] at kk
        obtain ⟨q, rfl, hat⟩ := hH.arr (by decide) ha
        exact va_alen C0.1 C0.2.1 C0.2.2.2.2.2.1.1 (pm_P1 hat) 0 0 rfl rfl rfl hd (kk mls hL)
      · cases hf
    · cases hf
  · cases hf
theorem so_slen (hd : decode (pm_by G k) (pm_pc G k i) = .ok (.arraylength, 1)) (hp1 : pm_pc G k (i + 1) = pm_pc G k i + 1) : pm_Sim0 G T k i (op_alen 3) := by
  intro p l e R s m args below meth c w C0 hR1 hR2 H locs cells slots Q mls ls st hp s' hf
  unfold op_alen at hf
  dsimp only at hf
  split at hf
  · rename_i a st'
    split at hf
    · rename_i t' n f ha
      split at hf
      · rename_i hci
        subst hci
        cases hf
        refine ⟨rfl, fun hH hS hL kk => ?_⟩
        dsimp only at kk
        rw [hp1] at kk
        have hz : a = 0 := hH.zero ha
        subst hz
        rw [hH.1] at ha
        cases ha
        exact va_slen C0.1 C0.2.1 C0.2.2.2.2.2.1.2.2.1 (Nat.lt_of_lt_of_le C0.2.2.2.2.2.1.2.2.2.1 C0.2.2.2.2.2.1.2.2.2.2) (Nat.not_le.mpr C0.2.2.2.2.2.1.2.2.2.1) hS hd (kk mls hL)
      · cases hf
    · cases hf
  · cases hf
theorem pm_max {n : Int32} (h0 : 0 ≤ n) (h1 : n ≤ 1000) : n.toNatClampNeg ≤ 1000 ∧ ¬ n < 0 := by
  have a := Int32.le_iff_toInt_le.mp h0
  have b := Int32.le_iff_toInt_le.mp h1
  have e : (1000 : Int32).toInt = 1000 := by decide
  rw [e] at b
  refine ⟨?_, fun z => ?_⟩
  · show n.toInt.toNat ≤ 1000
    omega
  · have c := Int32.lt_iff_toInt_lt.mp z
    omega
theorem so_newa {t : Nat} {at' : ArrayType} {ty : FieldType} (hd : decode (pm_by G k) (pm_pc G k i) = .ok (.newarray at', 2)) (hty : newarray.typeOf at' = ty) (ht : (t = 0 ∧ ty = .int) ∨ (t = 1 ∧ ty = .boolean) ∨ (t = 2 ∧ ty = .long)) (hm : Cond.arrayClass ty ∈ T.2.1) (hp1 : pm_pc G k (i + 1) = pm_pc G k i + 2) : pm_Sim G T k i (op_newa t) := by
  intro p l e R s m args below meth c w C0 hR1 hR2 H locs cells slots Q mls ls st hp s' hf
  unfold op_newa at hf
  dsimp only at hf
  split at hf
  · rename_i n st'
    split at hf
    · rename_i hn
      obtain ⟨hn1, hn2⟩ := pm_max hn.1 hn.2
      cases hf
      have e1 : (hp ++ [pm_new t n.toNatClampNeg]).length - hp.length = 1 := by simp
      have e2 : pm_sz (hp ++ [pm_new t n.toNatClampNeg]) - pm_sz hp = n.toNatClampNeg := by
        rw [pm_sz_app]
        show _ + n.toNatClampNeg - _ = _
        omega
      refine ⟨⟨by simp, by rw [pm_sz_app]; exact Nat.le_add_right _ _⟩, fun hH hS hL hc hs kk => ?_⟩
      dsimp only at kk hc hs
      rw [e1] at hc
      rw [e2] at hs
      rw [hp1, e1, e2] at kk
      subst hty
      refine va_newaK C0.1 C0.2.1 (C0.2.2.2.2.1 _ hm) rfl hd rfl hn2 rfl ?_ hc hs rfl fun H1 cA g1 g2 g3 g4 g5 => ?_
      · rcases ht with ⟨-, e⟩ | ⟨-, e⟩ | ⟨-, e⟩ <;> rw [e] <;> simp only [componentBytes] <;> omega
      · have hcA : cA = w.2.2 t := by
          rcases ht with ⟨e0, e⟩ | ⟨e0, e⟩ | ⟨e0, e⟩ <;> subst e0 <;> rw [e] at g5
          · exact Option.some.inj (g5.symm.trans (C0.2.2.2.2.2.1.1.2 0 _ rfl).2)
          · exact Option.some.inj (g5.symm.trans (C0.2.2.2.2.2.1.1.2 1 _ rfl).2)
          · exact Option.some.inj (g5.symm.trans (C0.2.2.2.2.2.1.1.2 2 _ rfl).2)
        subst hcA
        have hat : va_at w.2.1 T.1 (H.size, pm_emE w (pm_new t n.toNatClampNeg)) H1 := by
          show H1[H.size]? = some (vp_cell _ _)
          rw [g1]
          rcases ht with ⟨e0, e⟩ | ⟨e0, e⟩ | ⟨e0, e⟩ <;> subst e0 <;> rw [e] <;> rfl
        obtain ⟨hH', had⟩ := hH.push hat (fun t' x' z => by cases z; rcases ht with ⟨e0, -⟩ | ⟨e0, -⟩ | ⟨e0, -⟩ <;> omega) g2 g3
        have := kk H1 locs mls hH' ⟨Nat.le_trans hS.1 (by omega), fun x h1 h2 => (g3 x (Nat.lt_of_lt_of_le h1 hS.1)).trans (hS.2.1 x h1 h2), hS.2.2⟩ hL
        rw [List.map_cons, show pm_em w (.ref hp.length) = .ref (pm_ad w hp.length) from rfl, had] at this
        exact this
    · cases hf
  · cases hf
theorem so_new {n ci N : Nat} {C : String} {Tb : u_T} {ty : Nat → FieldType} {fs : List Value} (hd : decode (pm_by G k) (pm_pc G k i) = .ok (.new n, 3)) (hc : T.1[ci]? = some (C, Tb, N)) (hin : ∀ v ∈ u_ws C Tb N, v ∈ T.2.1) (hty : ∀ x, x < N → parseFieldDescriptor (Tb x).2.2.1 = some (ty x)) (hcl : Cond.classLink (pm_nm G k).cls n C ∈ T.2.1) (hins : Cond.instantiable C N ∈ T.2.1) (hini : Cond.initialized C ∈ T.2.1) (hfs : ∀ j, j < N → defaultValue (ty j) = vp_V fs j) (hfm : ∀ w : pW, fs.map (pm_em w) = fs) (hN : fs.length = N) (hp1 : pm_pc G k (i + 1) = pm_pc G k i + 3) : pm_Sim G T k i (op_new ci fs) := by
  intro p l e R s m args below meth c w C0 hR1 hR2 H locs cells slots Q mls ls st hp s' hf
  cases hf
  have e1 : (hp ++ [Sum.inr (ci, fs)] : pH).length - hp.length = 1 := by simp
  have e2 : pm_sz (hp ++ [Sum.inr (ci, fs)]) - pm_sz hp = N := by
    rw [pm_sz_app]
    show _ + fs.length - _ = _
    omega
  refine ⟨⟨by simp, by rw [pm_sz_app]; exact Nat.le_add_right _ _⟩, fun hH hS hL hcc hs kk => ?_⟩
  dsimp only at kk hcc hs
  rw [e1] at hcc
  rw [e2] at hs
  rw [hp1, e1, e2] at kk
  have hts := C0.2.2.2.2.1
  have hKn := C0.2.2.2.2.2.1.1.1 ci _ hc
  refine W.newcK C0.1 C0.2.1 C0.2.2.2.1 (hts _ hcl) (hts _ hins) (hts _ hini) rfl hd hcc hs hKn.2.1 rfl fun H1 kC hkC g1 g2 g3 => ?_
  have hat : va_at w.2.1 T.1 (H.size, pm_emE w (.inr (ci, fs))) H1 := by
    refine ⟨_, hc, ?_⟩
    show t_OB _ _ _ _ _ (vp_V (fs.map (pm_em w)))
    rw [hfm]
    exact (u_born ty hts hin hKn hkC g1 hty).to hfs
  obtain ⟨hH', had⟩ := hH.push hat (fun t' x' z => nomatch z) g2 g3
  have := kk H1 locs mls hH' ⟨Nat.le_trans hS.1 (by omega), fun x h1 h2 => (g3 x (Nat.lt_of_lt_of_le h1 hS.1)).trans (hS.2.1 x h1 h2), hS.2.2⟩ hL
  rw [List.map_cons, show pm_em w (.ref hp.length) = .ref (pm_ad w hp.length) from rfl, had] at this
  exact this
theorem pm_cat_map (w : pW) (st : List Value) : ((st.map (pm_em w)).map fun v => v.category).sum = (st.map fun v => v.category).sum := by
  rw [List.map_map]
  congr 1
  apply List.map_congr_left
  intro v _
  exact pm_em_cat w v
theorem so_objinit {n : Nat} (hd : decode (pm_by G k) (pm_pc G k i) = .ok (.invokespecial n, 3)) (h1 : Cond.methodLink (pm_nm G k).cls n Lib.objectInit ∈ T.2.1) (h2 : Cond.instanceMethod Lib.objectInit ∈ T.2.1) (h3 : Cond.code Lib.objectInit ⟨#[0xb1]⟩ 1 none ∈ T.2.1) (hp1 : pm_pc G k (i + 1) = pm_pc G k i + 3) : pm_Sim0 G T k i op_objinit := by
  intro p l e R s m args below meth c w C0 hR1 hR2 H locs cells slots Q mls ls st hp s' hf
  unfold op_objinit at hf
  dsimp only at hf
  split at hf
  · rename_i a st'
    split at hf
    · rename_i hc
      cases hf
      refine ⟨rfl, fun hH hS hL kk => ?_⟩
      dsimp only at kk
      rw [hp1] at kk
      have hts := C0.2.2.2.2.1
      exact W.objInit C0.1 C0.2.1 C0.2.2.2.1 (hts _ h1) (hts _ h2) (hts _ h3) rfl (by rw [C0.2.2.1]; exact hL.1) rfl hd hR1 (by rw [pm_cat_map]; show 2 * 0 + _ + 12 ≤ _; omega) (kk mls hL)
    · cases hf
  · cases hf
end StepsH
