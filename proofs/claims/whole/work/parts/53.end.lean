/-! THE CLAIM OUT OF ONE WALK OF THE LAW'S BODY. Your part is whole_start (and what it stands on); all else here is the same for every law, but numbers. -/
def R_law : String := "VeilNationsLaw"
def lw_P (b : Addr) (xs : List Int32) (args : Array Value) (s : State) : Prop := args = #[.ref b] ∧ s.IntsAt b xs ∧ xs.length ≤ 384 ∧ (Jvm.Cond.and given_1 narrow_1).before args s = true
def lw_Q (_ : Array Value) (s : State) (o : Outcome) (t : State) : Prop := o = .returned (some (.int 1)) ∧ Framed s o t [] 82 3285
def lw_Z (below : List Frame) (a : Array Value) (s : State) : State → Prop := fun t => ∃ o, t.status = .running ∧ Ended t below o ∧ lw_Q a s o t
/-- the law's own end, with 1 on the stack, nothing written that was there before, its room as the claim has it -/
theorem lw_ret {p : Program} {l : Launch} {e : Env} {s : State} {m : MethodId} {below : List Frame} {meth : Method} {c : Code} {b : Nat} (hx : p.tables.exec = Jvm.exec) (hb : c.code = code) (hr : meth.sig.returnType = ret) (hlocks : meth.locks = false) {pc : Nat} {H : Heap} {ls : Array Slot} (hdg : decode code pc = .ok (.ireturn, 1)) : W p l e room_1 s m #[Value.ref b] below meth c H [] 82 3285 (lw_Z below #[Value.ref b] s) (F0 m pc ls [.int 1]) := by
  intro T hT X
  obtain ⟨fs, hret, hrun, hended, hW, hframe⟩ := X.leave (v := some (.int 1)) (hlocks := hlocks) (fun h => by rw [hr] at h; cases h)
  have hmeth' : T.vm.method? m = some meth := X.method'
  refine ⟨T.setFrames fs, ?_, .returned (some (.int 1)), hrun, hended, rfl, ⟨_, rfl⟩, hW, hframe⟩
  jvm_step X.here [X.here.top, hx, hb, hdg, hmeth', hr, ret, narrow_b1]
  (try refine ⟨rfl, ?_⟩); (try refine ⟨rfl, ?_⟩)
  first | (intro acts; rw [hret _ acts rfl rfl rfl]) | rw [hret _ _ rfl rfl rfl]
  exact Steps.refl _
/-- what holds at the law's entry: the machine, the code, the tables' words (any of lw_tbl by 'hts w (by decide +kernel)'), the script of L ints xs at the cell b, what the Statement gives of the start (any of its parts by flat_of_before) -/
def lw_At (p : Program) (s : State) (m : MethodId) (meth : Method) (c : Code) (b L : Nat) (xs : Nat → Int32) : Prop :=
  p.tables.exec = Jvm.exec ∧ c.code = code ∧ meth.sig.returnType = ret ∧ c.maxLocals = 4 ∧ s.vm.findClass R_law = some m.cls ∧ (∀ w ∈ lw_tbl, w.before #[Value.ref b] s = true) ∧ va_X b L xs s s.heap ∧ b < s.heap.size ∧ meth.locks = false ∧ (Jvm.Cond.and given_1 narrow_1).before #[Value.ref b] s = true ∧ meth.name = "law"
/-- where the law returns, and by which instruction -/
def rtO : Option pOp → Option Nat
  | some (.inr (.inr rk)) => some rk
  | _ => none
def rtB (i : Nat) : Bool := match rtO (pg.1 180 i) with
  | none => true
  | some rk => decide (rk = 3) && decide (decode code (pm_pc pg 180 i) = .ok (.ireturn, 1))
set_option maxRecDepth 8000 in
theorem rtB_all : (List.range 656).all rtB = true := by decide +kernel
theorem rt_len : (lk2 pg_codes 180 []).length = 41 := by decide +kernel
theorem law_rt {i rk : Nat} (h : pg.1 180 i = some (.inr (.inr rk))) : rk = 3 ∧ decode code (pm_pc pg 180 i) = .ok (.ireturn, 1) := by
  have hi : i < 656 := by
    by_cases q : i < 656
    · exact q
    · exfalso
      have e : pg.1 180 i = lk2o (lk2 pg_codes 180 []) i := rfl
      rw [e] at h
      unfold lk2o at h
      have e2 : (lk2 pg_codes 180 [])[i / 16]? = none := List.getElem?_eq_none (by rw [rt_len]; omega)
      rw [List.getD_eq_getElem?_getD, e2] at h
      simp at h
  have := List.all_eq_true.mp rtB_all i (List.mem_range.mpr hi)
  unfold rtB at this
  rw [h] at this
  have e : rtO (some (.inr (.inr rk))) = some rk := rfl
  rw [e] at this
  dsimp only at this
  rw [Bool.and_eq_true, decide_eq_true_eq, decide_eq_true_eq] at this
  exact this
theorem uw0 : ∀ w ∈ u_ws "VeilNations$Calls" pTX0 2, w ∈ lw_tbl := by decide +kernel
theorem ui0 : Cond.instantiable "VeilNations$Calls" 2 ∈ lw_tbl := by decide +kernel
theorem uw1 : ∀ w ∈ u_ws "VeilNations$Course" pTX1 6, w ∈ lw_tbl := by decide +kernel
theorem ui1 : Cond.instantiable "VeilNations$Course" 6 ∈ lw_tbl := by decide +kernel
theorem uw2 : ∀ w ∈ u_ws "VeilNations$Pad" pTX2 6, w ∈ lw_tbl := by decide +kernel
theorem ui2 : Cond.instantiable "VeilNations$Pad" 6 ∈ lw_tbl := by decide +kernel
theorem uw3 : ∀ w ∈ u_ws "VeilNations$Rhythms" pTX3 2, w ∈ lw_tbl := by decide +kernel
theorem ui3 : Cond.instantiable "VeilNations$Rhythms" 2 ∈ lw_tbl := by decide +kernel
theorem uw4 : ∀ w ∈ u_ws "VeilNations$Sights" pTX4 3, w ∈ lw_tbl := by decide +kernel
theorem ui4 : Cond.instantiable "VeilNations$Sights" 3 ∈ lw_tbl := by decide +kernel
theorem uw5 : ∀ w ∈ u_ws "VeilNations$Stamps" pTX5 2, w ∈ lw_tbl := by decide +kernel
theorem ui5 : Cond.instantiable "VeilNations$Stamps" 2 ∈ lw_tbl := by decide +kernel
theorem uw6 : ∀ w ∈ u_ws "VeilNations$Whole" pTX6 4, w ∈ lw_tbl := by decide +kernel
theorem ui6 : Cond.instantiable "VeilNations$Whole" 4 ∈ lw_tbl := by decide +kernel
theorem uw7 : ∀ w ∈ u_ws "VeilNations$World" pTX7 8, w ∈ lw_tbl := by decide +kernel
theorem ui7 : Cond.instantiable "VeilNations$World" 8 ∈ lw_tbl := by decide +kernel
theorem uw8 : ∀ w ∈ u_ws "VeilNations" pTX8 8, w ∈ lw_tbl := by decide +kernel
theorem ui8 : Cond.instantiable "VeilNations" 8 ∈ lw_tbl := by decide +kernel
theorem uw9 : ∀ w ∈ u_ws "VeilNationsModel" pTX9 34, w ∈ lw_tbl := by decide +kernel
theorem ui9 : Cond.instantiable "VeilNationsModel" 34 ∈ lw_tbl := by decide +kernel
theorem ua0 : Cond.arrayClass .int ∈ lw_tbl := by decide +kernel
theorem ua1 : Cond.arrayClass .boolean ∈ lw_tbl := by decide +kernel
theorem ua2 : Cond.arrayClass .long ∈ lw_tbl := by decide +kernel
theorem un_ : ∀ q ∈ pg_nests, pm_nw q ∈ lw_tbl := by decide +kernel
theorem whole_start {p : Program} {e : Env} {s : State} {m : MethodId} {below : List Frame} {meth : Method} {c : Code} (l : Launch) (hflags : l.flags = flags0) {b L : Nat} {xs : Nat → Int32} (hL : L ≤ 384) (C0 : lw_At p s m meth c b L xs) : W p l e room_1 s m #[Value.ref b] below meth c s.heap [] 0 0 (lw_Z below #[Value.ref b] s) (entryFrame m ([Value.ref b] : List Value).toArray 4) := by
  obtain ⟨hx, hb, hr, hml, hown, hts, hX, hbl, hlocks, hgv, hnm⟩ := C0
  obtain ⟨c0, i0, K0⟩ := u_known (C := "VeilNations$Calls") (T := pTX0) (N := 2) (n := 2) hts uw0 (hts _ ui0)
  obtain ⟨c1, i1, K1⟩ := u_known (C := "VeilNations$Course") (T := pTX1) (N := 6) (n := 6) hts uw1 (hts _ ui1)
  obtain ⟨c2, i2, K2⟩ := u_known (C := "VeilNations$Pad") (T := pTX2) (N := 6) (n := 6) hts uw2 (hts _ ui2)
  obtain ⟨c3, i3, K3⟩ := u_known (C := "VeilNations$Rhythms") (T := pTX3) (N := 2) (n := 2) hts uw3 (hts _ ui3)
  obtain ⟨c4, i4, K4⟩ := u_known (C := "VeilNations$Sights") (T := pTX4) (N := 3) (n := 3) hts uw4 (hts _ ui4)
  obtain ⟨c5, i5, K5⟩ := u_known (C := "VeilNations$Stamps") (T := pTX5) (N := 2) (n := 2) hts uw5 (hts _ ui5)
  obtain ⟨c6, i6, K6⟩ := u_known (C := "VeilNations$Whole") (T := pTX6) (N := 4) (n := 4) hts uw6 (hts _ ui6)
  obtain ⟨c7, i7, K7⟩ := u_known (C := "VeilNations$World") (T := pTX7) (N := 8) (n := 8) hts uw7 (hts _ ui7)
  obtain ⟨c8, i8, K8⟩ := u_known (C := "VeilNations") (T := pTX8) (N := 8) (n := 8) hts uw8 (hts _ ui8)
  obtain ⟨c9, i9, K9⟩ := u_known (C := "VeilNationsModel") (T := pTX9) (N := 34) (n := 34) hts uw9 (hts _ ui9)
  obtain ⟨a0, ka0, co0, f0, g0, h0⟩ := Cond.arrayClass_spec (hts _ ua0)
  obtain ⟨a1, ka1, co1, f1, g1, h1⟩ := Cond.arrayClass_spec (hts _ ua1)
  obtain ⟨a2, ka2, co2, f2, g2, h2⟩ := Cond.arrayClass_spec (hts _ ua2)
  obtain ⟨w, hw⟩ : ∃ w : pW, w = ((b, s.heap.size, L, xs), ((fun k => match k with | 0 => c0 | 1 => c1 | 2 => c2 | 3 => c3 | 4 => c4 | 5 => c5 | 6 => c6 | 7 => c7 | 8 => c8 | _ => c9), (fun k => match k with | 0 => i0 | 1 => i1 | 2 => i2 | 3 => i3 | 4 => i4 | 5 => i5 | 6 => i6 | 7 => i7 | 8 => i8 | _ => i9)), (fun t => match t with | 0 => a0 | 1 => a1 | _ => a2)) := ⟨_, rfl⟩
  have w1 : w.1 = (b, s.heap.size, L, xs) := by rw [hw]
  have hK : pm_K pg_T w s := by
    subst hw
    refine ⟨⟨fun k q hq => ?_, fun k q hq => ?_⟩, fun q hq => va_Nw.of rfl (hts _ (un_ q hq)), hX, hbl, Nat.le_refl _⟩
    · have hq : pg_cl[k]? = some q := hq
      match k, hq with
      | 0, hq => cases hq; exact K0
      | 1, hq => cases hq; exact K1
      | 2, hq => cases hq; exact K2
      | 3, hq => cases hq; exact K3
      | 4, hq => cases hq; exact K4
      | 5, hq => cases hq; exact K5
      | 6, hq => cases hq; exact K6
      | 7, hq => cases hq; exact K7
      | 8, hq => cases hq; exact K8
      | 9, hq => cases hq; exact K9
      | n + 10, hq => simp at hq
    · have hq : ([(a0, .int), (a1, .boolean), (a2, .long)] : List (ClassId × FieldType))[k]? = some q := hq
      match k, hq with
      | 0, hq => cases hq; exact ⟨fun n z => ⟨fun k h => (by cases h), ka0, g0, co0, h0⟩, f0⟩
      | 1, hq => cases hq; exact ⟨fun n z => ⟨fun k h => (by cases h), ka1, g1, co1, h1⟩, f1⟩
      | 2, hq => cases hq; exact ⟨fun n z => ⟨fun k h => (by cases h), ka2, g2, co2, h2⟩, f2⟩
      | n + 3, hq => simp at hq
  obtain ⟨hp', hrun, hlen, hsz⟩ := lw_run (L := L) (f := xs) hL
  obtain ⟨n, hex⟩ := (pm_dn_iff pg 180 _ _).mp hrun
  have hC : pm_Cx pg pg_T w 180 p m c meth s #[Value.ref b] := ⟨hx, hb, hml, hown, fun v hv => hts v (List.mem_filter.mp hv).1, hK, hlocks, hr, hnm⟩
  have hH : pm_HR pg_T w [lwS L xs] s.heap := by
    refine ⟨by rw [w1]; rfl, by rw [w1]; rfl, fun i e h => ?_⟩
    simp at h
  have hs0 : pm_sz [lwS L xs] = L := rfl
  have ead : [Value.ref b] = ([Value.ref 0] : List Value).map (pm_em w) := by
    show [Value.ref b] = [Value.ref w.1.1]
    rw [w1]
  have key := pm_simW pg_all n 180 0 _ _ _ _ _ hex p l e room_1 s m #[Value.ref b] below meth c w hC rfl rfl (by decide) (by decide) s.heap [] 0 0 (lw_Z below #[Value.ref b] s) _ hH va_S.rf (pm_LR_entry w (by decide +kernel)) (by rw [hlen]; show 0 + (83 - 1) ≤ 82; omega) (by rw [hsz, hs0]; show 0 + (L + 3285 - L) ≤ 3285; omega) ?_
  · rw [← ead, show pm_pc pg 180 0 = 0 from rfl, show pm_nL pg 180 = 4 from rfl] at key
    rw [lg_entry_eq]
    exact key
  · intro H' locs' mls' i' rk st' hrk hret hH' hS'
    obtain ⟨r3, hd⟩ := law_rt hrk
    subst r3
    obtain ⟨z, e1, e2, _⟩ := pm_ret3 hret
    have ez : nI 1 = z := by
      have := Option.some.inj e2
      exact (Value.int.inj this)
    rw [hlen, hsz, hs0, e1, ← ez]
    refine va_forget (fun q hq => ?_) ?_
    · have := hS'.2.2 q hq
      unfold pm_A at this
      rw [w1] at this
      exact this
    refine W.widen (k := 82) (n := 3285) (Nat.le_refl 82) (by show 0 + (L + 3285 - L) ≤ 3285; omega) ?_
    exact lw_ret hx hb hr hlocks hd
set_option maxHeartbeats 4000000 in
theorem lw_walk (l : Launch) (hflags : l.flags = flags0) (b : Addr) (xs : List Int32) : MetFree l x (headSpec (Jvm.Cond.code x code maxLocals ret :: tables_1) room_1) (lw_P b xs) (fun _ _ _ _ _ => True) lw_Q := by
  refine MetFree.of_bodyS (code := code) (maxLocals := maxLocals) (ret := ret) (by decide) ?_ ?_
  · intro args s m h hn
    obtain ⟨meth, c, h1, h2, h3, h4, h5, h6, -, -⟩ := Cond.code_spec hn (atoms_spec (ws := Jvm.Cond.code x code maxLocals ret :: tables_1) h _ List.mem_cons_self)
    exact ⟨meth, c, h1, h2, h3, h4, h5, h6⟩
  · intro p e s m args below meth c s₁ B hml0 hP _
    obtain ⟨rfl, hx, hbd, hgv⟩ := hP
    obtain ⟨scr, harrAt, hlist, hof, hsmall⟩ := hx
    obtain ⟨hcb, hkn, -, -⟩ := State.arrayAt?_spec harrAt
    have hown : s.vm.findClass R_law = some m.cls := findClass_of_methodNamed B.named
    have hts0 : ∀ c ∈ (Jvm.Cond.code x code maxLocals ret :: tables_1), c.before #[Value.ref b] s = true := atoms_spec (ws := Jvm.Cond.code x code maxLocals ret :: tables_1) B.pre
    have hts : ∀ w ∈ lw_tbl, w.before #[Value.ref b] s = true := k2_hts_sels lw_privs (fun w hw => hts0 w (List.mem_cons_of_mem _ hw)) lw_privs_ok
    have hml : c.maxLocals = 4 := B.maxLocals_eq (hts0 _ List.mem_cons_self)
    have X₀ : Stand p l e room_1 s m #[Value.ref b] below meth c s₁ [] 0 0 := Stand.of_body B
    have hh0 : s₁.heap = s.heap := by rw [B.state]; rfl
    have hsz : scr.slots.size = xs.length := by rw [← Array.length_toList, hlist, List.length_map]
    have hval : ∀ j : Nat, j < xs.length → scr.slots[j]? = some (.int (xs.getD j 0)) := fun j hj => by
      rw [← Array.getElem?_toList, hlist]
      simp [hj]
    have hbl : b < s.heap.size := (Array.getElem?_eq_some_iff.mp hcb).1
    have hX : va_X b xs.length (fun j => xs.getD j 0) s s.heap := ⟨scr, hcb, hof, hkn, hsz, hval⟩
    have K : W p l e room_1 s m #[Value.ref b] below meth c s₁.heap [] 0 0 (lw_Z below #[Value.ref b] s) (entryFrame m ([Value.ref b] : List Value).toArray 4) := by
      rw [hh0]
      exact whole_start l hflags hbd ⟨B.exec, B.bytes, B.returns, hml, hown, hts, hX, hbl, B.notSynchronized, hgv, (name_of_methodNamed B.named B.method).1⟩
    obtain ⟨t, a1, o, b1, b2, b3⟩ := K s₁ rfl X₀
    exact ⟨t, o, a1, b1, b2, b3⟩
theorem lw_pre_spec {args : Array Value} {s : State} (h : (Jvm.Cond.and given_1 narrow_1).before args s = true) (hr : rest_1_c.before args s = true) : ∃ (b : Addr) (xs : List Int32), lw_P b xs args s := by
  have hs := flat_of_before _ h
  have hq := flat_of_before _ hr
  have hc : (Cond.count 1).before args s = true := hs _ (by decide +kernel)
  have harr : (Cond.arrayOf (.arg 0) .int).before args s = true := hs _ (by decide +kernel)
  have hle : (Cond.le (.length (.arg 0)) (.int 384)).before args s = true := hs _ (by decide +kernel)
  have hlen : (Cond.isInt (.length (.arg 0))).before args s = true := hq _ (by decide +kernel)
  have hall : (Cond.all (.arg 0) (.isInt (.elem (.arg 0) (.index 0)))).before args s = true := hq _ (by decide +kernel)
  obtain ⟨b, xs, hb, hx⟩ := State.ints_of_pre rfl harr hlen hall
  have hsm : xs.length < 2 ^ 31 := hx.choose_spec.2.2.2
  have hev : (Term.length (.arg 0)).eval args s none [] s = some (.int xs.length.toInt32) := hx.length_eval hb
  have hv := Cond.le_ints hev (show (Term.int 384).eval args s none [] s = some (.int 384) from rfl)
  have hd : xs.length.toInt32 ≤ 384 := by
    simpa [Cond.before, Cond.holds, hv] using hle
  have hN : xs.length ≤ 384 := (Int32.ofNat_le_ofNat hsm (by decide)).mp (show Int32.ofNat xs.length ≤ Int32.ofNat 384 from hd)
  exact ⟨b, xs, Cond.one_arg hc (show args[0]? = some (.ref b) from hb), hx, hN, h⟩
theorem lw_comes (l : Launch) (hflags : l.flags = flags0) : Comes l x (Jvm.Cond.code x code maxLocals ret :: tables_1) room_1 (fun tb e args s => Calls_1 tb e args s ∧ rest_1 tb e args s ∧ Pre_1 tb e args s)
    (fun _ _ args s o t => lw_Q args s o t) := by
  intro p e ha hc hk s m args below hf hfit hheap happ hpre
  obtain ⟨b, xs, hP⟩ := lw_pre_spec hpre.2.2 hpre.2.1
  obtain ⟨k, o, h1, h2, h3, hQ⟩ := lw_walk l hflags b xs p e ha hc hk s m args below hf ((Spec.applies_iff_loose hf).mp happ).1 hP trivial
  exact ⟨k, o, h1, h2, h3, hQ⟩
theorem lw_frame {s t : State} {o : Outcome} {args : Array Value} (h : Framed s o t [] 82 3285) :
    Framed s o t (fieldLocs frame_1_writes args s ++ arrayLocs frame_1_arrays args s ++ staticLocs frame_1_statics s) 82 3285 := h
theorem lw_limb (L : Cond) (hL : ∀ (args : Array Value) (s t : State), L.after args s (.returned (some (.int 1))) t = true) :
    ArmFor flags0 classFile x code maxLocals ret World_1 tables_1 room_1 Calls_1 rest_1 Pre_1
      (fun tb e a s o t => postC L tb e a s o t ∧ Framed s o t (fieldLocs frame_1_writes a s ++ arrayLocs frame_1_arrays a s ++ staticLocs frame_1_statics s) 82 3285) := by
  intro l hflags _ _ p e ha hc hk s m args below hf hfit hheap happ hpre
  obtain ⟨k, o, h1, h2, h3, rfl, hF⟩ := lw_comes l hflags p e ha hc hk s m args below hf hfit hheap happ hpre
  exact ⟨k, _, h1, h2, h3, hL args s _, lw_frame hF⟩
theorem i_vc : Claimed_1_1 ∧ Claimed_1_2 := ⟨lw_limb limb_1_1 (fun args s t => by simp [limb_1_1, Cond.after, Cond.holds, Cond.value]), lw_limb limb_1_2 (fun args s t => Cond.after_iff.mpr (by
  first | (rw [show limb_1_2 = Cond.eq .result (.int 1) from rfl, Cond.eq_ints (x := 1) (y := 1) rfl rfl]; simp; done) | (simp [limb_1_2, Cond.value, Term.eval]; done)))⟩
