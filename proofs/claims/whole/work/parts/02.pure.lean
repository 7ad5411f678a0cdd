/-! A pure machine: heap, steps, runs. No word of the Statement's machine here. -/
abbrev pE : Type := (Nat × vp_A) ⊕ (Nat × List Value)
abbrev pH : Type := List pE
abbrev pO : Type := Option Value
abbrev pS : Type := Nat × List pO × List Value × pH
/-- a call: callee, how many values, the answer's kind (0 none, 1 int, 2 long), 0 or 1 + the receiver's class -/
abbrev pC : Type := Nat × Nat × Nat × Nat
abbrev pOp : Type := (pS → Option pS) ⊕ (pC ⊕ Nat)
abbrev pR : Type := Option Value × pH
/-- a method: name, bytes, locals, answer's type, room in frames and locals, program counters -/
abbrev pI : Type := MethodName × ByteArray × Nat × Option FieldType × Nat × Nat × List (List Nat)
/-- tables in rows of sixteen -/
def lk2 {α : Type} (L : List (List α)) (k : Nat) (d : α) : α := (L.getD (k / 16) []).getD (k % 16) d
def lk2o {α : Type} (L : List (List α)) (k : Nat) : Option α := (L.getD (k / 16) [])[k % 16]?
abbrev pG : Type := (Nat → Nat → Option pOp) × (Nat → pI)
def pm_nm (G : pG) (k : Nat) : MethodName := (G.2 k).1
def pm_by (G : pG) (k : Nat) : ByteArray := (G.2 k).2.1
def pm_nL (G : pG) (k : Nat) : Nat := (G.2 k).2.2.1
def pm_rt (G : pG) (k : Nat) : Option FieldType := (G.2 k).2.2.2.1
def pm_fr (G : pG) (k : Nat) : Nat := (G.2 k).2.2.2.2.1
def pm_lo (G : pG) (k : Nat) : Nat := (G.2 k).2.2.2.2.2.1
def pm_pc (G : pG) (k i : Nat) : Nat := lk2 (G.2 k).2.2.2.2.2.2 i 0
/-- a store at place a may be made: within, and no long ends there -/
def pm_ok (ls : List pO) (a : Nat) : Bool := decide (a < ls.length) && (match a with
  | 0 => true
  | j + 1 => match ls[j]? with
    | some (some (.long _)) => false
    | some (some (.double _)) => false
    | _ => true)
/-- an index within -/
def pin (i : Int32) (n : Nat) : Bool := decide (¬ (i < 0 ∨ n ≤ i.toNatClampNeg))
theorem pin_in {i : Int32} {n : Nat} (h : pin i n = true) : vp_in i n := of_decide_eq_true (p := ¬ (i < 0 ∨ n ≤ i.toNatClampNeg)) h
-- the steps
def op_iload (a : Nat) : pS → Option pS := fun s => match s.2.1[a]? with
  | some (some (.int x)) => some (s.1 + 1, s.2.1, .int x :: s.2.2.1, s.2.2.2)
  | _ => none
def op_lload (a : Nat) : pS → Option pS := fun s => match s.2.1[a]? with
  | some (some (.long x)) => some (s.1 + 1, s.2.1, .long x :: s.2.2.1, s.2.2.2)
  | _ => none
def op_aload (a : Nat) : pS → Option pS := fun s => match s.2.1[a]? with
  | some (some (.ref x)) => some (s.1 + 1, s.2.1, .ref x :: s.2.2.1, s.2.2.2)
  | _ => none
def op_istore (a : Nat) : pS → Option pS := fun s => match s.2.2.1 with
  | .int x :: st => if pm_ok s.2.1 a = true then some (s.1 + 1, s.2.1.set a (some (.int x)), st, s.2.2.2) else none
  | _ => none
def op_lstore (a : Nat) : pS → Option pS := fun s => match s.2.2.1 with
  | .long x :: st => if pm_ok s.2.1 a = true ∧ a + 1 < s.2.1.length then some (s.1 + 1, (s.2.1.set a (some (.long x))).set (a + 1) none, st, s.2.2.2) else none
  | _ => none
def op_astore (a : Nat) : pS → Option pS := fun s => match s.2.2.1 with
  | .ref x :: st => if pm_ok s.2.1 a = true then some (s.1 + 1, s.2.1.set a (some (.ref x)), st, s.2.2.2) else none
  | _ => none
def op_ic (x : Int32) : pS → Option pS := fun s => some (s.1 + 1, s.2.1, .int x :: s.2.2.1, s.2.2.2)
def op_lc (x : Int64) : pS → Option pS := fun s => some (s.1 + 1, s.2.1, .long x :: s.2.2.1, s.2.2.2)
def op_iinc (a : Nat) (d : Int32) : pS → Option pS := fun s => match s.2.1[a]? with
  | some (some (.int x)) => if pm_ok s.2.1 a = true then some (s.1 + 1, s.2.1.set a (some (.int (x + d))), s.2.2.1, s.2.2.2) else none
  | _ => none
def op_bin (f : Int32 → Int32 → Int32) : pS → Option pS := fun s => match s.2.2.1 with
  | .int y :: .int x :: st => some (s.1 + 1, s.2.1, .int (f x y) :: st, s.2.2.2)
  | _ => none
def op_div (f : Int32 → Int32 → Int32) : pS → Option pS := fun s => match s.2.2.1 with
  | .int y :: .int x :: st => if y = 0 then none else some (s.1 + 1, s.2.1, .int (f x y) :: st, s.2.2.2)
  | _ => none
def op_max : pS → Option pS := fun s => match s.2.2.1 with
  | .int y :: .int x :: st => if (st.map fun v => v.category).sum ≤ 7 then some (s.1 + 1, s.2.1, .int (if x < y then y else x) :: st, s.2.2.2) else none
  | _ => none
def op_lbin (f : Int64 → Int64 → Int64) : pS → Option pS := fun s => match s.2.2.1 with
  | .long y :: .long x :: st => some (s.1 + 1, s.2.1, .long (f x y) :: st, s.2.2.2)
  | _ => none
def op_ldiv (f : Int64 → Int64 → Int64) : pS → Option pS := fun s => match s.2.2.1 with
  | .long y :: .long x :: st => if y = 0 then none else some (s.1 + 1, s.2.1, .long (f x y) :: st, s.2.2.2)
  | _ => none
def op_i2l : pS → Option pS := fun s => match s.2.2.1 with
  | .int x :: st => some (s.1 + 1, s.2.1, .long x.toInt64 :: st, s.2.2.2)
  | _ => none
def op_l2i : pS → Option pS := fun s => match s.2.2.1 with
  | .long x :: st => some (s.1 + 1, s.2.1, .int x.toInt32 :: st, s.2.2.2)
  | _ => none
def op_lcmp : pS → Option pS := fun s => match s.2.2.1 with
  | .long y :: .long x :: st => some (s.1 + 1, s.2.1, .int (lg_cmp x y) :: st, s.2.2.2)
  | _ => none
def op_dup : pS → Option pS := fun s => match s.2.2.1 with
  | .int x :: st => some (s.1 + 1, s.2.1, .int x :: .int x :: st, s.2.2.2)
  | .ref x :: st => some (s.1 + 1, s.2.1, .ref x :: .ref x :: st, s.2.2.2)
  | _ => none
def op_dup2 : pS → Option pS := fun s => match s.2.2.1 with
  | .int x :: .ref y :: st => some (s.1 + 1, s.2.1, .int x :: .ref y :: .int x :: .ref y :: st, s.2.2.2)
  | _ => none
def op_pop : pS → Option pS := fun s => match s.2.2.1 with
  | .int _ :: st => some (s.1 + 1, s.2.1, st, s.2.2.2)
  | .ref _ :: st => some (s.1 + 1, s.2.1, st, s.2.2.2)
  | _ => none
def op_goto (t : Nat) : pS → Option pS := fun s => some (t, s.2.1, s.2.2.1, s.2.2.2)
def op_if (c : Int32 → Bool) (t : Nat) : pS → Option pS := fun s => match s.2.2.1 with
  | .int x :: st => some (if c x = true then t else s.1 + 1, s.2.1, st, s.2.2.2)
  | _ => none
def op_icmp (c : Int32 → Int32 → Bool) (t : Nat) : pS → Option pS := fun s => match s.2.2.1 with
  | .int y :: .int x :: st => some (if c x y = true then t else s.1 + 1, s.2.1, st, s.2.2.2)
  | _ => none
def pm_sw (d : Nat) : List (Int32 × Nat) → Int32 → Nat
  | [], _ => d
  | q :: r, x => if x = q.1 then q.2 else pm_sw d r x
def op_sw (d : Nat) (l : List (Int32 × Nat)) : pS → Option pS := fun s => match s.2.2.1 with
  | .int x :: st => some (pm_sw d l x, s.2.1, st, s.2.2.2)
  | _ => none
def op_getI (ci k : Nat) : pS → Option pS := fun s => match s.2.2.1 with
  | .ref a :: st => match s.2.2.2[a]? with
    | some (.inr (c, fs)) => if c = ci then (match fs[k]? with
      | some (.int x) => some (s.1 + 1, s.2.1, .int x :: st, s.2.2.2)
      | _ => none) else none
    | _ => none
  | _ => none
def op_getA (ci k : Nat) : pS → Option pS := fun s => match s.2.2.1 with
  | .ref a :: st => match s.2.2.2[a]? with
    | some (.inr (c, fs)) => if c = ci then (match fs[k]? with
      | some (.ref x) => some (s.1 + 1, s.2.1, .ref x :: st, s.2.2.2)
      | _ => none) else none
    | _ => none
  | _ => none
def op_putI (ci k : Nat) : pS → Option pS := fun s => match s.2.2.1 with
  | .int x :: .ref a :: st => match s.2.2.2[a]? with
    | some (.inr (c, fs)) => if c = ci ∧ k < fs.length then some (s.1 + 1, s.2.1, st, s.2.2.2.set a (.inr (c, fs.set k (.int x)))) else none
    | _ => none
  | _ => none
def op_putZ (ci k : Nat) : pS → Option pS := fun s => match s.2.2.1 with
  | .int x :: .ref a :: st => match s.2.2.2[a]? with
    | some (.inr (c, fs)) => if (c = ci ∧ k < fs.length) ∧ (x = 0 ∨ x = 1) then some (s.1 + 1, s.2.1, st, s.2.2.2.set a (.inr (c, fs.set k (.int x)))) else none
    | _ => none
  | _ => none
def op_putA (ci k : Nat) : pS → Option pS := fun s => match s.2.2.1 with
  | .ref x :: .ref a :: st => match s.2.2.2[a]? with
    | some (.inr (c, fs)) => if c = ci ∧ k < fs.length then some (s.1 + 1, s.2.1, st, s.2.2.2.set a (.inr (c, fs.set k (.ref x)))) else none
    | _ => none
  | _ => none
/-- arrays: kind 0 of ints, 1 of booleans, 2 of longs, 3 the script -/
def op_iald (t : Nat) : pS → Option pS := fun s => match s.2.2.1 with
  | .int i :: .ref a :: st => match s.2.2.2[a]? with
    | some (.inl (t', n, .inl f)) => if t' = t ∧ pin i n = true then some (s.1 + 1, s.2.1, .int (f i.toNatClampNeg) :: st, s.2.2.2) else none
    | _ => none
  | _ => none
def op_lald : pS → Option pS := fun s => match s.2.2.1 with
  | .int i :: .ref a :: st => match s.2.2.2[a]? with
    | some (.inl (t', n, .inr (.inl f))) => if t' = 2 ∧ pin i n = true then some (s.1 + 1, s.2.1, .long (f i.toNatClampNeg) :: st, s.2.2.2) else none
    | _ => none
  | _ => none
def op_iast : pS → Option pS := fun s => match s.2.2.1 with
  | .int x :: .int i :: .ref a :: st => match s.2.2.2[a]? with
    | some (.inl (t', n, .inl f)) => if t' = 0 ∧ pin i n = true then some (s.1 + 1, s.2.1, st, s.2.2.2.set a (.inl (t', n, .inl (upd f i.toNatClampNeg x)))) else none
    | _ => none
  | _ => none
def op_zast : pS → Option pS := fun s => match s.2.2.1 with
  | .int x :: .int i :: .ref a :: st => match s.2.2.2[a]? with
    | some (.inl (t', n, .inl f)) => if (t' = 1 ∧ pin i n = true) ∧ (x = 0 ∨ x = 1) then some (s.1 + 1, s.2.1, st, s.2.2.2.set a (.inl (t', n, .inl (upd f i.toNatClampNeg x)))) else none
    | _ => none
  | _ => none
def op_last : pS → Option pS := fun s => match s.2.2.1 with
  | .long x :: .int i :: .ref a :: st => match s.2.2.2[a]? with
    | some (.inl (t', n, .inr (.inl f))) => if t' = 2 ∧ pin i n = true then some (s.1 + 1, s.2.1, st, s.2.2.2.set a (.inl (t', n, .inr (.inl (vp_updL f i.toNatClampNeg x))))) else none
    | _ => none
  | _ => none
def op_alen (t : Nat) : pS → Option pS := fun s => match s.2.2.1 with
  | .ref a :: st => match s.2.2.2[a]? with
    | some (.inl (t', n, .inl _)) => if t' = t then some (s.1 + 1, s.2.1, .int (Int32.ofNat n) :: st, s.2.2.2) else none
    | _ => none
  | _ => none
def pm_new (t n : Nat) : pE := .inl (t, n, if t = 2 then .inr (.inl (fun _ => 0)) else .inl (fun _ => 0))
def op_newa (t : Nat) : pS → Option pS := fun s => match s.2.2.1 with
  | .int n :: st => if 0 ≤ n ∧ n ≤ 1000 then some (s.1 + 1, s.2.1, .ref s.2.2.2.length :: st, s.2.2.2 ++ [pm_new t n.toNatClampNeg]) else none
  | _ => none
def op_new (ci : Nat) (fs : List Value) : pS → Option pS := fun s => some (s.1 + 1, s.2.1, .ref s.2.2.2.length :: s.2.2.1, s.2.2.2 ++ [.inr (ci, fs)])
def op_objinit : pS → Option pS := fun s => match s.2.2.1 with
  | .ref _ :: st => if (st.map fun v => v.category).sum ≤ 8 then some (s.1 + 1, s.2.1, st, s.2.2.2) else none
  | _ => none
-- runs
def pm_args (n : Nat) (st : List Value) : Option (List Value × List Value) := if n ≤ st.length then some ((st.take n).reverse, st.drop n) else none
def pm_ent : List Value → List pO
  | [] => []
  | .long x :: vs => some (.long x) :: none :: pm_ent vs
  | .double x :: vs => some (.double x) :: none :: pm_ent vs
  | v :: vs => some v :: pm_ent vs
def pm_entry (nL : Nat) (vs : List Value) : List pO := pm_ent vs ++ List.replicate (nL - (pm_ent vs).length) none
def pm_push : Nat → Option Value → List Value → Option (List Value)
  | 0, none, st => some st
  | 1, some (.int x), st => some (.int x :: st)
  | 2, some (.long x), st => some (.long x :: st)
  | _, _, _ => none
/-- kinds of return: 0 none, 1 int, 2 long, 3 boolean -/
def pm_ret : Nat → List Value → Option (Option Value)
  | 0, [] => some none
  | 1, [.int x] => some (some (.int x))
  | 2, [.long x] => some (some (.long x))
  | 3, [.int x] => if x = 0 ∨ x = 1 then some (some (.int x)) else none
  | _, _ => none
def pm_rcv (rc : Nat) (as : List Value) (hp : pH) : Bool := match rc with
  | 0 => true
  | ci + 1 => match as with
    | .ref a :: _ => match hp[a]? with
      | some (.inr (c, _)) => c == ci
      | _ => false
    | _ => false
def pm_may (c : pC) (nL : Nat) (as rest : List Value) (hp : pH) : Bool := decide ((rest.map fun v => v.category).sum ≤ 8) && (decide ((pm_ent as).length ≤ nL) && pm_rcv c.2.2.2 as hp)
def pm_go (E : Nat → pS → Option pR) (G : pG) (k : Nat) (s : pS) : Option pOp → Option pR
  | none => none
  | some (.inl f) => (f s).bind (fun s' => E k s')
  | some (.inr (.inl c)) => (pm_args c.2.1 s.2.2.1).bind (fun ar => if pm_may c (pm_nL G c.1) ar.1 ar.2 s.2.2.2 = true then
      (E c.1 (0, pm_entry (pm_nL G c.1) ar.1, [], s.2.2.2)).bind (fun r => (pm_push c.2.2.1 r.1 ar.2).bind (fun st => E k (s.1 + 1, s.2.1, st, r.2))) else none)
  | some (.inr (.inr rk)) => (pm_ret rk s.2.2.1).map (fun v => (v, s.2.2.2))
def pm_ex (G : pG) : Nat → Nat → pS → Option pR
  | 0, _, _ => none
  | n + 1, k, s => pm_go (pm_ex G n) G k s (G.1 k s.1)
theorem pm_go_le {E E' : Nat → pS → Option pR} (h : ∀ k s r, E k s = some r → E' k s = some r) {G : pG} {k : Nat} {s : pS} {o : Option pOp} {r : pR} (hr : pm_go E G k s o = some r) : pm_go E' G k s o = some r := by
  match o with
  | none => exact hr
  | some (.inl f) =>
    simp only [pm_go, Option.bind_eq_some_iff] at hr ⊢
    obtain ⟨s', h1, h2⟩ := hr
    exact ⟨s', h1, h _ _ _ h2⟩
  | some (.inr (.inl c)) =>
    simp only [pm_go, Option.bind_eq_some_iff] at hr ⊢
    obtain ⟨ar, h1, h2⟩ := hr
    refine ⟨ar, h1, ?_⟩
    split at h2
    · rename_i hm
      rw [if_pos hm]
      simp only [Option.bind_eq_some_iff] at h2 ⊢
      obtain ⟨r1, h3, st, h4, h5⟩ := h2
      exact ⟨r1, h _ _ _ h3, st, h4, h _ _ _ h5⟩
    · cases h2
  | some (.inr (.inr rk)) => exact hr
theorem pm_ex_succ (G : pG) : ∀ (n k : Nat) (s : pS) (r : pR), pm_ex G n k s = some r → pm_ex G (n + 1) k s = some r
  | 0, _, _, _, h => by cases h
  | n + 1, _, _, _, h => pm_go_le (E := pm_ex G n) (E' := pm_ex G (n + 1)) (pm_ex_succ G n) h
theorem pm_ex_le (G : pG) {n m : Nat} (h : n ≤ m) {k : Nat} {s : pS} {r : pR} (hr : pm_ex G n k s = some r) : pm_ex G m k s = some r := by
  induction h with
  | refl => exact hr
  | step _ ih => exact pm_ex_succ G _ _ _ _ ih
/-- what a run comes to, if it comes to an end -/
noncomputable def pm_dn (G : pG) (k : Nat) (s : pS) : Option pR := @dite _ (∃ n, (pm_ex G n k s).isSome = true) (Classical.propDecidable _) (fun h => pm_ex G (Classical.choose h) k s) (fun _ => none)
theorem pm_dn_iff (G : pG) (k : Nat) (s : pS) (r : pR) : pm_dn G k s = some r ↔ ∃ n, pm_ex G n k s = some r := by
  unfold pm_dn
  constructor
  · intro h
    split at h
    · exact ⟨_, h⟩
    · cases h
  · rintro ⟨n, h⟩
    have hs : ∃ n, (pm_ex G n k s).isSome = true := ⟨n, by rw [h]; rfl⟩
    rw [dif_pos hs]
    have h1 := Classical.choose_spec hs
    obtain ⟨r', hr'⟩ := Option.isSome_iff_exists.mp h1
    have e1 := pm_ex_le G (Nat.le_max_left n (Classical.choose hs)) h
    have e2 := pm_ex_le G (Nat.le_max_right n (Classical.choose hs)) hr'
    rw [hr', ← e2, e1]
theorem pm_dn_eq (G : pG) (k : Nat) (s : pS) : pm_dn G k s = pm_go (pm_dn G) G k s (G.1 k s.1) := by
  apply Option.ext
  intro r
  rw [pm_dn_iff]
  constructor
  · rintro ⟨n, h⟩
    match n, h with
    | n + 1, h => exact pm_go_le (E := pm_ex G n) (fun k s r h => (pm_dn_iff G k s r).mpr ⟨n, h⟩) h
  · intro h
    generalize ho : G.1 k s.1 = o at h
    match o, h with
    | none, h => cases h
    | some (.inl f), h =>
      simp only [pm_go, Option.bind_eq_some_iff] at h
      obtain ⟨s', h1, h2⟩ := h
      obtain ⟨n, h2⟩ := (pm_dn_iff _ _ _ _).mp h2
      refine ⟨n + 1, ?_⟩
      show pm_go (pm_ex G n) G k s (G.1 k s.1) = some r
      rw [ho]
      simp only [pm_go, Option.bind_eq_some_iff]
      exact ⟨s', h1, h2⟩
    | some (.inr (.inl c)), h =>
      simp only [pm_go, Option.bind_eq_some_iff] at h
      obtain ⟨ar, h1, h2⟩ := h
      split at h2
      · rename_i hm
        simp only [Option.bind_eq_some_iff] at h2
        obtain ⟨r1, h3, st, h4, h5⟩ := h2
        obtain ⟨n1, h3⟩ := (pm_dn_iff _ _ _ _).mp h3
        obtain ⟨n2, h5⟩ := (pm_dn_iff _ _ _ _).mp h5
        refine ⟨max n1 n2 + 1, ?_⟩
        show pm_go (pm_ex G (max n1 n2)) G k s (G.1 k s.1) = some r
        rw [ho]
        simp only [pm_go, Option.bind_eq_some_iff]
        refine ⟨ar, h1, ?_⟩
        rw [if_pos hm]
        simp only [Option.bind_eq_some_iff]
        exact ⟨r1, pm_ex_le G (Nat.le_max_left _ _) h3, st, h4, pm_ex_le G (Nat.le_max_right _ _) h5⟩
      · cases h2
    | some (.inr (.inr rk)), h =>
      refine ⟨1, ?_⟩
      show pm_go (pm_ex G 0) G k s (G.1 k s.1) = some r
      rw [ho]
      exact h
/-- a run of method k from instruction i on -/
noncomputable def dn (G : pG) (k i : Nat) (ls : List pO) (st : List Value) (hp : pH) : Option pR := pm_dn G k (i, ls, st, hp)
/-- a call of method y -/
noncomputable def cl (G : pG) (y : Nat) (as : List Value) (hp : pH) : Option pR := pm_dn G y (0, pm_entry (pm_nL G y) as, [], hp)
theorem dn_step {G : pG} {k i : Nat} {f : pS → Option pS} (h : G.1 k i = some (.inl f)) (ls : List pO) (st : List Value) (hp : pH) : dn G k i ls st hp = (f (i, ls, st, hp)).bind (fun s' => pm_dn G k s') := by
  unfold dn
  rw [pm_dn_eq]
  show pm_go (pm_dn G) G k (i, ls, st, hp) (G.1 k i) = _
  rw [h]
  rfl
theorem dn_ret {G : pG} {k i rk : Nat} (h : G.1 k i = some (.inr (.inr rk))) (ls : List pO) (st : List Value) (hp : pH) : dn G k i ls st hp = (pm_ret rk st).map (fun v => (v, hp)) := by
  unfold dn
  rw [pm_dn_eq]
  show pm_go (pm_dn G) G k (i, ls, st, hp) (G.1 k i) = _
  rw [h]
  rfl
theorem dn_call {G : pG} {k i : Nat} {c : pC} (h : G.1 k i = some (.inr (.inl c))) (ls : List pO) (st : List Value) (hp : pH) : dn G k i ls st hp = (pm_args c.2.1 st).bind (fun ar => if pm_may c (pm_nL G c.1) ar.1 ar.2 hp = true then (cl G c.1 ar.1 hp).bind (fun r => (pm_push c.2.2.1 r.1 ar.2).bind (fun st => dn G k (i + 1) ls st r.2)) else none) := by
  unfold dn
  rw [pm_dn_eq]
  show pm_go (pm_dn G) G k (i, ls, st, hp) (G.1 k i) = _
  rw [h]
  rfl
