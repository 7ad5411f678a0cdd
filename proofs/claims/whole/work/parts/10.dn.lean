/-! Runs as equations: what each kind of step makes of 'dn'. -/
def pm_nl : pO → Bool
  | some (.long _) => false
  | some (.double _) => false
  | _ => true
theorem nl_none : pm_nl none = true := rfl
theorem nl_int (x : Int32) : pm_nl (some (.int x)) = true := rfl
theorem nl_ref (x : Nat) : pm_nl (some (.ref x)) = true := rfl
def pm_cs (st : List Value) : Nat := (st.map fun v => v.category).sum
theorem cs_nil : pm_cs [] = 0 := rfl
theorem cs_int (x : Int32) (st : List Value) : pm_cs (.int x :: st) = 1 + pm_cs st := rfl
theorem cs_ref (x : Nat) (st : List Value) : pm_cs (.ref x :: st) = 1 + pm_cs st := rfl
theorem cs_long (x : Int64) (st : List Value) : pm_cs (.long x :: st) = 2 + pm_cs st := rfl
theorem pm_ok_nl {ls : List pO} {j : Nat} {v : pO} (h1 : j + 1 < ls.length) (h2 : ls[j]? = some v) (h3 : pm_nl v = true) : pm_ok ls (j + 1) = true := by
  unfold pm_ok
  rw [Bool.and_eq_true]
  refine ⟨decide_eq_true h1, ?_⟩
  show (match ls[j]? with
    | some (some (.long _)) => false
    | some (some (.double _)) => false
    | _ => true) = true
  rw [h2]
  rcases v with _ | v
  · rfl
  · cases v <;> first | rfl | cases h3
theorem pa_0 (st : List Value) : pm_args 0 st = some ([], st) := by simp [pm_args]
theorem pa_1 (a : Value) (st : List Value) : pm_args 1 (a :: st) = some ([a], st) := by simp [pm_args]
theorem pa_2 (a b : Value) (st : List Value) : pm_args 2 (b :: a :: st) = some ([a, b], st) := by simp [pm_args]
theorem pa_3 (a b c : Value) (st : List Value) : pm_args 3 (c :: b :: a :: st) = some ([a, b, c], st) := by simp [pm_args]
theorem pa_4 (a b c d : Value) (st : List Value) : pm_args 4 (d :: c :: b :: a :: st) = some ([a, b, c, d], st) := by simp [pm_args]
theorem pa_5 (a b c d e : Value) (st : List Value) : pm_args 5 (e :: d :: c :: b :: a :: st) = some ([a, b, c, d, e], st) := by simp [pm_args]
theorem pa_6 (a b c d e f : Value) (st : List Value) : pm_args 6 (f :: e :: d :: c :: b :: a :: st) = some ([a, b, c, d, e, f], st) := by simp [pm_args]
-- reading and writing the heap
def qg_i (hp : pH) (a ci k : Nat) (F : Int32 → Option pR) : Option pR := match hp[a]? with
  | some (.inr (c, fs)) => if c = ci then (match fs[k]? with
    | some (.int x) => F x
    | _ => none) else none
  | _ => none
def qg_a (hp : pH) (a ci k : Nat) (F : Nat → Option pR) : Option pR := match hp[a]? with
  | some (.inr (c, fs)) => if c = ci then (match fs[k]? with
    | some (.ref x) => F x
    | _ => none) else none
  | _ => none
def qp_v (hp : pH) (a ci k : Nat) (v : Value) (F : pH → Option pR) : Option pR := match hp[a]? with
  | some (.inr (c, fs)) => if c = ci ∧ k < fs.length then F (hp.set a (.inr (c, fs.set k v))) else none
  | _ => none
def qa_i (hp : pH) (a t : Nat) (i : Int32) (F : Int32 → Option pR) : Option pR := match hp[a]? with
  | some (.inl (t', n, .inl f)) => if t' = t ∧ pin i n = true then F (f i.toNatClampNeg) else none
  | _ => none
def qa_l (hp : pH) (a : Nat) (i : Int32) (F : Int64 → Option pR) : Option pR := match hp[a]? with
  | some (.inl (t', n, .inr (.inl f))) => if t' = 2 ∧ pin i n = true then F (f i.toNatClampNeg) else none
  | _ => none
def qx_i (hp : pH) (a t : Nat) (i x : Int32) (F : pH → Option pR) : Option pR := match hp[a]? with
  | some (.inl (t', n, .inl f)) => if t' = t ∧ pin i n = true then F (hp.set a (.inl (t', n, .inl (upd f i.toNatClampNeg x)))) else none
  | _ => none
def qx_l (hp : pH) (a : Nat) (i : Int32) (x : Int64) (F : pH → Option pR) : Option pR := match hp[a]? with
  | some (.inl (t', n, .inr (.inl f))) => if t' = 2 ∧ pin i n = true then F (hp.set a (.inl (t', n, .inr (.inl (vp_updL f i.toNatClampNeg x))))) else none
  | _ => none
def qn_a (hp : pH) (a t : Nat) (F : Int32 → Option pR) : Option pR := match hp[a]? with
  | some (.inl (t', n, .inl _)) => if t' = t then F (Int32.ofNat n) else none
  | _ => none
def qz (x : Int32) (X : Option pR) : Option pR := if x = 0 ∨ x = 1 then X else none
def pm_obj (hp : pH) (a ci : Nat) : Bool := match hp[a]? with
  | some (.inr (c, _)) => c == ci
  | _ => false
def qv (hp : pH) (a ci : Nat) (X : Option pR) : Option pR := if pm_obj hp a ci = true then X else none
def qr_i (r : Option pR) (F : Int32 → pH → Option pR) : Option pR := match r with
  | some (some (.int x), hp) => F x hp
  | _ => none
def qr_l (r : Option pR) (F : Int64 → pH → Option pR) : Option pR := match r with
  | some (some (.long x), hp) => F x hp
  | _ => none
def qr_v (r : Option pR) (F : pH → Option pR) : Option pR := match r with
  | some (none, hp) => F hp
  | _ => none
def q_i (x : Int32) (hp : pH) : Option pR := some (some (.int x), hp)
def q_l (x : Int64) (hp : pH) : Option pR := some (some (.long x), hp)
def q_v (hp : pH) : Option pR := some (none, hp)
theorem eg_i {hp : pH} {a ci k : Nat} {fs : List Value} {x : Int32} (h : hp[a]? = some (.inr (ci, fs))) (h2 : fs[k]? = some (.int x)) (F : Int32 → Option pR) : qg_i hp a ci k F = F x := by
  unfold qg_i
  rw [h]
  dsimp only
  rw [if_pos rfl, h2]
theorem eg_a {hp : pH} {a ci k : Nat} {fs : List Value} {x : Nat} (h : hp[a]? = some (.inr (ci, fs))) (h2 : fs[k]? = some (.ref x)) (F : Nat → Option pR) : qg_a hp a ci k F = F x := by
  unfold qg_a
  rw [h]
  dsimp only
  rw [if_pos rfl, h2]
theorem ep_v {hp : pH} {a ci k : Nat} {fs : List Value} (h : hp[a]? = some (.inr (ci, fs))) (h2 : k < fs.length) (v : Value) (F : pH → Option pR) : qp_v hp a ci k v F = F (hp.set a (.inr (ci, fs.set k v))) := by
  unfold qp_v
  rw [h]
  dsimp only
  rw [if_pos ⟨rfl, h2⟩]
theorem ea_i {hp : pH} {a t n : Nat} {f : Nat → Int32} (h : hp[a]? = some (.inl (t, n, .inl f))) {i : Int32} (h2 : pin i n = true) (F : Int32 → Option pR) : qa_i hp a t i F = F (f i.toNatClampNeg) := by
  unfold qa_i
  rw [h]
  dsimp only
  rw [if_pos ⟨rfl, h2⟩]
theorem ea_l {hp : pH} {a n : Nat} {f : Nat → Int64} (h : hp[a]? = some (.inl (2, n, .inr (.inl f)))) {i : Int32} (h2 : pin i n = true) (F : Int64 → Option pR) : qa_l hp a i F = F (f i.toNatClampNeg) := by
  unfold qa_l
  rw [h]
  dsimp only
  rw [if_pos ⟨rfl, h2⟩]
theorem ex_i {hp : pH} {a t n : Nat} {f : Nat → Int32} (h : hp[a]? = some (.inl (t, n, .inl f))) {i : Int32} (h2 : pin i n = true) (x : Int32) (F : pH → Option pR) : qx_i hp a t i x F = F (hp.set a (.inl (t, n, .inl (upd f i.toNatClampNeg x)))) := by
  unfold qx_i
  rw [h]
  dsimp only
  rw [if_pos ⟨rfl, h2⟩]
theorem ex_l {hp : pH} {a n : Nat} {f : Nat → Int64} (h : hp[a]? = some (.inl (2, n, .inr (.inl f)))) {i : Int32} (h2 : pin i n = true) (x : Int64) (F : pH → Option pR) : qx_l hp a i x F = F (hp.set a (.inl (2, n, .inr (.inl (vp_updL f i.toNatClampNeg x))))) := by
  unfold qx_l
  rw [h]
  dsimp only
  rw [if_pos ⟨rfl, h2⟩]
theorem en_a {hp : pH} {a t n : Nat} {f : Nat → Int32} (h : hp[a]? = some (.inl (t, n, .inl f))) (F : Int32 → Option pR) : qn_a hp a t F = F (Int32.ofNat n) := by
  unfold qn_a
  rw [h]
  dsimp only
  rw [if_pos rfl]
theorem ev_o {hp : pH} {a ci : Nat} {fs : List Value} (h : hp[a]? = some (.inr (ci, fs))) (X : Option pR) : qv hp a ci X = X := by
  unfold qv pm_obj
  rw [h]
  simp
theorem ez_0 (X : Option pR) : qz 0 X = X := rfl
theorem ez_1 (X : Option pR) : qz 1 X = X := rfl
theorem er_i (x : Int32) (hp : pH) (F : Int32 → pH → Option pR) : qr_i (q_i x hp) F = F x hp := rfl
theorem er_l (x : Int64) (hp : pH) (F : Int64 → pH → Option pR) : qr_l (q_l x hp) F = F x hp := rfl
theorem er_v (hp : pH) (F : pH → Option pR) : qr_v (q_v hp) F = F hp := rfl
theorem qr_i_eq (o : Option pR) (st : List Value) (F : List Value → pH → Option pR) : (o.bind fun r => (pm_push 1 r.1 st).bind fun st' => F st' r.2) = qr_i o (fun x hp => F (.int x :: st) hp) := by
  rcases o with _ | ⟨_ | v, hp⟩
  · rfl
  · rfl
  · cases v <;> rfl
theorem qr_l_eq (o : Option pR) (st : List Value) (F : List Value → pH → Option pR) : (o.bind fun r => (pm_push 2 r.1 st).bind fun st' => F st' r.2) = qr_l o (fun x hp => F (.long x :: st) hp) := by
  rcases o with _ | ⟨_ | v, hp⟩
  · rfl
  · rfl
  · cases v <;> rfl
theorem qr_v_eq (o : Option pR) (st : List Value) (F : List Value → pH → Option pR) : (o.bind fun r => (pm_push 0 r.1 st).bind fun st' => F st' r.2) = qr_v o (fun hp => F st hp) := by
  rcases o with _ | ⟨_ | v, hp⟩ <;> rfl
-- the kinds of step
section DN
variable {G : pG} {k i a : Nat} {ls : List pO} {st : List Value} {hp : pH}
theorem dn_istore (h : G.1 k i = some (.inl (op_istore a))) (hok : pm_ok ls a = true) (x : Int32) : dn G k i ls (.int x :: st) hp = dn G k (i + 1) (ls.set a (some (.int x))) st hp := by
  rw [dn_step h]
  unfold op_istore
  dsimp only
  rw [if_pos hok]
  rfl
theorem dn_astore (h : G.1 k i = some (.inl (op_astore a))) (hok : pm_ok ls a = true) (x : Nat) : dn G k i ls (.ref x :: st) hp = dn G k (i + 1) (ls.set a (some (.ref x))) st hp := by
  rw [dn_step h]
  unfold op_astore
  dsimp only
  rw [if_pos hok]
  rfl
theorem dn_lstore (h : G.1 k i = some (.inl (op_lstore a))) (hok : pm_ok ls a = true) (ha : a + 1 < ls.length) (x : Int64) : dn G k i ls (.long x :: st) hp = dn G k (i + 1) ((ls.set a (some (.long x))).set (a + 1) none) st hp := by
  rw [dn_step h]
  unfold op_lstore
  dsimp only
  rw [if_pos ⟨hok, ha⟩]
  rfl
theorem dn_iinc {d x : Int32} (h : G.1 k i = some (.inl (op_iinc a d))) (hok : pm_ok ls a = true) (hx : ls[a]? = some (some (.int x))) : dn G k i ls st hp = dn G k (i + 1) (ls.set a (some (.int (x + d)))) st hp := by
  rw [dn_step h]
  unfold op_iinc
  dsimp only
  rw [hx]
  dsimp only
  rw [if_pos hok]
  rfl
theorem dn_div {f : Int32 → Int32 → Int32} (h : G.1 k i = some (.inl (op_div f))) (x y : Int32) : dn G k i ls (.int y :: .int x :: st) hp = if y = 0 then none else dn G k (i + 1) ls (.int (f x y) :: st) hp := by
  rw [dn_step h]
  unfold op_div
  dsimp only
  split <;> rfl
theorem dn_ldiv {f : Int64 → Int64 → Int64} (h : G.1 k i = some (.inl (op_ldiv f))) (x y : Int64) : dn G k i ls (.long y :: .long x :: st) hp = if y = 0 then none else dn G k (i + 1) ls (.long (f x y) :: st) hp := by
  rw [dn_step h]
  unfold op_ldiv
  dsimp only
  split <;> rfl
theorem dn_max (h : G.1 k i = some (.inl op_max)) (hc : pm_cs st ≤ 7) (x y : Int32) : dn G k i ls (.int y :: .int x :: st) hp = dn G k (i + 1) ls (.int (if x < y then y else x) :: st) hp := by
  rw [dn_step h]
  unfold op_max
  dsimp only
  unfold pm_cs at hc
  rw [if_pos hc]
  rfl
theorem dn_if {c : Int32 → Bool} {t : Nat} (h : G.1 k i = some (.inl (op_if c t))) (x : Int32) : dn G k i ls (.int x :: st) hp = if c x = true then dn G k t ls st hp else dn G k (i + 1) ls st hp := by
  rw [dn_step h]
  unfold op_if
  dsimp only
  split <;> rfl
theorem dn_icmp {c : Int32 → Int32 → Bool} {t : Nat} (h : G.1 k i = some (.inl (op_icmp c t))) (x y : Int32) : dn G k i ls (.int y :: .int x :: st) hp = if c x y = true then dn G k t ls st hp else dn G k (i + 1) ls st hp := by
  rw [dn_step h]
  unfold op_icmp
  dsimp only
  split <;> rfl
theorem dn_sw {d : Nat} {l : List (Int32 × Nat)} (h : G.1 k i = some (.inl (op_sw d l))) (x : Int32) : dn G k i ls (.int x :: st) hp = dn G k (pm_sw d l x) ls st hp := by
  rw [dn_step h]
  rfl
noncomputable def pm_swd (G : pG) (k : Nat) (ls : List pO) (st : List Value) (hp : pH) (d : Nat) : List (Int32 × Nat) → Int32 → Option pR
  | [], _ => dn G k d ls st hp
  | q :: r, x => if x = q.1 then dn G k q.2 ls st hp else pm_swd G k ls st hp d r x
theorem pm_swd_eq {d : Nat} : ∀ (l : List (Int32 × Nat)) (x : Int32), dn G k (pm_sw d l x) ls st hp = pm_swd G k ls st hp d l x
  | [], _ => rfl
  | q :: r, x => by
    unfold pm_sw pm_swd
    split
    · rfl
    · exact pm_swd_eq r x
theorem dn_sw2 {d : Nat} {l : List (Int32 × Nat)} (h : G.1 k i = some (.inl (op_sw d l))) (x : Int32) : dn G k i ls (.int x :: st) hp = pm_swd G k ls st hp d l x := (dn_sw h x).trans (pm_swd_eq l x)
theorem dn_getI {ci j : Nat} (h : G.1 k i = some (.inl (op_getI ci j))) (a : Nat) : dn G k i ls (.ref a :: st) hp = qg_i hp a ci j (fun x => dn G k (i + 1) ls (.int x :: st) hp) := by
  rw [dn_step h]
  unfold op_getI qg_i
  dsimp only
  generalize hp[a]? = e
  rcases e with _ | (_ | ⟨c, fs⟩)
  · rfl
  · rfl
  dsimp only
  by_cases hc : c = ci
  · rw [if_pos hc, if_pos hc]
    generalize fs[j]? = v
    rcases v with _ | v
    · rfl
    · cases v <;> rfl
  · rw [if_neg hc, if_neg hc]
    rfl
theorem dn_getA {ci j : Nat} (h : G.1 k i = some (.inl (op_getA ci j))) (a : Nat) : dn G k i ls (.ref a :: st) hp = qg_a hp a ci j (fun x => dn G k (i + 1) ls (.ref x :: st) hp) := by
  rw [dn_step h]
  unfold op_getA qg_a
  dsimp only
  generalize hp[a]? = e
  rcases e with _ | (_ | ⟨c, fs⟩)
  · rfl
  · rfl
  dsimp only
  by_cases hc : c = ci
  · rw [if_pos hc, if_pos hc]
    generalize fs[j]? = v
    rcases v with _ | v
    · rfl
    · cases v <;> rfl
  · rw [if_neg hc, if_neg hc]
    rfl
theorem dn_putI {ci j : Nat} (h : G.1 k i = some (.inl (op_putI ci j))) (a : Nat) (x : Int32) : dn G k i ls (.int x :: .ref a :: st) hp = qp_v hp a ci j (.int x) (fun hp => dn G k (i + 1) ls st hp) := by
  rw [dn_step h]
  unfold op_putI qp_v
  dsimp only
  generalize hp[a]? = e
  rcases e with _ | (_ | ⟨c, fs⟩)
  · rfl
  · rfl
  dsimp only
  by_cases hc : c = ci ∧ j < fs.length
  · rw [if_pos hc, if_pos hc]
    rfl
  · rw [if_neg hc, if_neg hc]
    rfl
theorem dn_putA {ci j : Nat} (h : G.1 k i = some (.inl (op_putA ci j))) (a x : Nat) : dn G k i ls (.ref x :: .ref a :: st) hp = qp_v hp a ci j (.ref x) (fun hp => dn G k (i + 1) ls st hp) := by
  rw [dn_step h]
  unfold op_putA qp_v
  dsimp only
  generalize hp[a]? = e
  rcases e with _ | (_ | ⟨c, fs⟩)
  · rfl
  · rfl
  dsimp only
  by_cases hc : c = ci ∧ j < fs.length
  · rw [if_pos hc, if_pos hc]
    rfl
  · rw [if_neg hc, if_neg hc]
    rfl
theorem dn_putZ {ci j : Nat} (h : G.1 k i = some (.inl (op_putZ ci j))) (a : Nat) (x : Int32) : dn G k i ls (.int x :: .ref a :: st) hp = qz x (qp_v hp a ci j (.int x) (fun hp => dn G k (i + 1) ls st hp)) := by
  rw [dn_step h]
  unfold op_putZ qp_v qz
  dsimp only
  generalize hp[a]? = e
  by_cases hz : x = 0 ∨ x = 1
  · rw [if_pos hz]
    rcases e with _ | (_ | ⟨c, fs⟩)
    · rfl
    · rfl
    dsimp only
    by_cases hc : c = ci ∧ j < fs.length
    · rw [if_pos ⟨hc, hz⟩, if_pos hc]
      rfl
    · rw [if_neg (fun q => hc q.1), if_neg hc]
      rfl
  · rw [if_neg hz]
    rcases e with _ | (_ | ⟨c, fs⟩)
    · rfl
    · rfl
    dsimp only
    rw [if_neg (fun q => hz q.2)]
    rfl
theorem dn_iald {t : Nat} (h : G.1 k i = some (.inl (op_iald t))) (a : Nat) (x : Int32) : dn G k i ls (.int x :: .ref a :: st) hp = qa_i hp a t x (fun y => dn G k (i + 1) ls (.int y :: st) hp) := by
  rw [dn_step h]
  unfold op_iald qa_i
  dsimp only
  generalize hp[a]? = e
  rcases e with _ | (⟨t', n, (f | (f | f))⟩ | _)
  · rfl
  · skip
    dsimp only
    by_cases hc : t' = t ∧ pin x n = true
    · rw [if_pos hc, if_pos hc]
      rfl
    · rw [if_neg hc, if_neg hc]
      rfl
  · rfl
  · rfl
  · rfl
theorem dn_lald (h : G.1 k i = some (.inl op_lald)) (a : Nat) (x : Int32) : dn G k i ls (.int x :: .ref a :: st) hp = qa_l hp a x (fun y => dn G k (i + 1) ls (.long y :: st) hp) := by
  rw [dn_step h]
  unfold op_lald qa_l
  dsimp only
  generalize hp[a]? = e
  rcases e with _ | (⟨t', n, (f | (f | f))⟩ | _)
  · rfl
  · rfl
  · skip
    dsimp only
    by_cases hc : t' = 2 ∧ pin x n = true
    · rw [if_pos hc, if_pos hc]
      rfl
    · rw [if_neg hc, if_neg hc]
      rfl
  · rfl
  · rfl
theorem dn_iast (h : G.1 k i = some (.inl op_iast)) (a : Nat) (x y : Int32) : dn G k i ls (.int y :: .int x :: .ref a :: st) hp = qx_i hp a 0 x y (fun hp => dn G k (i + 1) ls st hp) := by
  rw [dn_step h]
  unfold op_iast qx_i
  dsimp only
  generalize hp[a]? = e
  rcases e with _ | (⟨t', n, (f | (f | f))⟩ | _)
  · rfl
  · skip
    dsimp only
    by_cases hc : t' = 0 ∧ pin x n = true
    · rw [if_pos hc, if_pos hc]
      rfl
    · rw [if_neg hc, if_neg hc]
      rfl
  · rfl
  · rfl
  · rfl
theorem dn_zast (h : G.1 k i = some (.inl op_zast)) (a : Nat) (x y : Int32) : dn G k i ls (.int y :: .int x :: .ref a :: st) hp = qz y (qx_i hp a 1 x y (fun hp => dn G k (i + 1) ls st hp)) := by
  rw [dn_step h]
  unfold op_zast qx_i qz
  dsimp only
  by_cases hz : y = 0 ∨ y = 1
  · rw [if_pos hz]
    generalize hp[a]? = e
    rcases e with _ | (⟨t', n, (f | (f | f))⟩ | _)
    · rfl
    · dsimp only
      by_cases hc : t' = 1 ∧ pin x n = true
      · rw [if_pos ⟨hc, hz⟩, if_pos hc]
        rfl
      · rw [if_neg (fun q => hc q.1), if_neg hc]
        rfl
    · rfl
    · rfl
    · rfl
  · rw [if_neg hz]
    generalize hp[a]? = e
    rcases e with _ | (⟨t', n, (f | (f | f))⟩ | _)
    · rfl
    · dsimp only
      rw [if_neg (fun q => hz q.2)]
      rfl
    · rfl
    · rfl
    · rfl
theorem dn_last (h : G.1 k i = some (.inl op_last)) (a : Nat) (x : Int32) (y : Int64) : dn G k i ls (.long y :: .int x :: .ref a :: st) hp = qx_l hp a x y (fun hp => dn G k (i + 1) ls st hp) := by
  rw [dn_step h]
  unfold op_last qx_l
  dsimp only
  generalize hp[a]? = e
  rcases e with _ | (⟨t', n, (f | (f | f))⟩ | _)
  · rfl
  · rfl
  · skip
    dsimp only
    by_cases hc : t' = 2 ∧ pin x n = true
    · rw [if_pos hc, if_pos hc]
      rfl
    · rw [if_neg hc, if_neg hc]
      rfl
  · rfl
  · rfl
theorem dn_alen {t : Nat} (h : G.1 k i = some (.inl (op_alen t))) (a : Nat) : dn G k i ls (.ref a :: st) hp = qn_a hp a t (fun y => dn G k (i + 1) ls (.int y :: st) hp) := by
  rw [dn_step h]
  unfold op_alen qn_a
  dsimp only
  generalize hp[a]? = e
  rcases e with _ | (⟨t', n, (f | (f | f))⟩ | _)
  · rfl
  · skip
    dsimp only
    by_cases hc : t' = t
    · rw [if_pos hc, if_pos hc]
      rfl
    · rw [if_neg hc, if_neg hc]
      rfl
  · rfl
  · rfl
  · rfl
theorem dn_newa {t : Nat} (h : G.1 k i = some (.inl (op_newa t))) {n : Int32} (hn : 0 ≤ n ∧ n ≤ 1000) : dn G k i ls (.int n :: st) hp = dn G k (i + 1) ls (.ref hp.length :: st) (hp ++ [pm_new t n.toNatClampNeg]) := by
  rw [dn_step h]
  unfold op_newa
  dsimp only
  rw [if_pos hn]
  rfl
theorem dn_objinit (h : G.1 k i = some (.inl op_objinit)) (hc : pm_cs st ≤ 8) (a : Nat) : dn G k i ls (.ref a :: st) hp = dn G k (i + 1) ls st hp := by
  rw [dn_step h]
  unfold op_objinit
  dsimp only
  unfold pm_cs at hc
  rw [if_pos hc]
  rfl
theorem dn_callX {y na rk rc : Nat} {st0 as : List Value} (h : G.1 k i = some (.inr (.inl (y, na, rk, rc)))) (ha : pm_args na st0 = some (as, st)) (hl : (pm_ent as).length ≤ pm_nL G y) (hc : pm_cs st ≤ 8) : dn G k i ls st0 hp = if pm_rcv rc as hp = true then (cl G y as hp).bind (fun r => (pm_push rk r.1 st).bind (fun st => dn G k (i + 1) ls st r.2)) else none := by
  rw [dn_call h]
  dsimp only
  rw [ha]
  dsimp only [Option.bind_some]
  have e : pm_may (y, na, rk, rc) (pm_nL G y) as st hp = pm_rcv rc as hp := by
    unfold pm_may
    unfold pm_cs at hc
    rw [decide_eq_true hc, decide_eq_true hl]
    rfl
  rw [e]
theorem dn_cS_i {y na : Nat} {st0 as : List Value} (h : G.1 k i = some (.inr (.inl (y, na, 1, 0)))) (ha : pm_args na st0 = some (as, st)) (hl : (pm_ent as).length ≤ pm_nL G y) (hc : pm_cs st ≤ 8) : dn G k i ls st0 hp = qr_i (cl G y as hp) (fun x hp => dn G k (i + 1) ls (.int x :: st) hp) := by
  rw [dn_callX h ha hl hc]
  exact qr_i_eq (cl G y as hp) st (fun st' hp' => dn G k (i + 1) ls st' hp')
theorem dn_cS_l {y na : Nat} {st0 as : List Value} (h : G.1 k i = some (.inr (.inl (y, na, 2, 0)))) (ha : pm_args na st0 = some (as, st)) (hl : (pm_ent as).length ≤ pm_nL G y) (hc : pm_cs st ≤ 8) : dn G k i ls st0 hp = qr_l (cl G y as hp) (fun x hp => dn G k (i + 1) ls (.long x :: st) hp) := by
  rw [dn_callX h ha hl hc]
  exact qr_l_eq (cl G y as hp) st (fun st' hp' => dn G k (i + 1) ls st' hp')
theorem dn_cS_v {y na : Nat} {st0 as : List Value} (h : G.1 k i = some (.inr (.inl (y, na, 0, 0)))) (ha : pm_args na st0 = some (as, st)) (hl : (pm_ent as).length ≤ pm_nL G y) (hc : pm_cs st ≤ 8) : dn G k i ls st0 hp = qr_v (cl G y as hp) (fun hp => dn G k (i + 1) ls st hp) := by
  rw [dn_callX h ha hl hc]
  exact qr_v_eq (cl G y as hp) st (fun st' hp' => dn G k (i + 1) ls st' hp')
theorem dn_cV_i {y na ci b : Nat} {st0 as : List Value} (h : G.1 k i = some (.inr (.inl (y, na, 1, ci + 1)))) (ha : pm_args na st0 = some (.ref b :: as, st)) (hl : (pm_ent (.ref b :: as)).length ≤ pm_nL G y) (hc : pm_cs st ≤ 8) : dn G k i ls st0 hp = qv hp b ci (qr_i (cl G y (.ref b :: as) hp) (fun x hp => dn G k (i + 1) ls (.int x :: st) hp)) := by
  rw [dn_callX h ha hl hc, qr_i_eq (cl G y (.ref b :: as) hp) st (fun st' hp' => dn G k (i + 1) ls st' hp')]
  rfl
theorem dn_cV_l {y na ci b : Nat} {st0 as : List Value} (h : G.1 k i = some (.inr (.inl (y, na, 2, ci + 1)))) (ha : pm_args na st0 = some (.ref b :: as, st)) (hl : (pm_ent (.ref b :: as)).length ≤ pm_nL G y) (hc : pm_cs st ≤ 8) : dn G k i ls st0 hp = qv hp b ci (qr_l (cl G y (.ref b :: as) hp) (fun x hp => dn G k (i + 1) ls (.long x :: st) hp)) := by
  rw [dn_callX h ha hl hc, qr_l_eq (cl G y (.ref b :: as) hp) st (fun st' hp' => dn G k (i + 1) ls st' hp')]
  rfl
theorem dn_cV_v {y na ci b : Nat} {st0 as : List Value} (h : G.1 k i = some (.inr (.inl (y, na, 0, ci + 1)))) (ha : pm_args na st0 = some (.ref b :: as, st)) (hl : (pm_ent (.ref b :: as)).length ≤ pm_nL G y) (hc : pm_cs st ≤ 8) : dn G k i ls st0 hp = qv hp b ci (qr_v (cl G y (.ref b :: as) hp) (fun hp => dn G k (i + 1) ls st hp)) := by
  rw [dn_callX h ha hl hc, qr_v_eq (cl G y (.ref b :: as) hp) st (fun st' hp' => dn G k (i + 1) ls st' hp')]
  rfl
theorem dn_zret (h : G.1 k i = some (.inr (.inr 3))) (x : Int32) : dn G k i ls [.int x] hp = qz x (q_i x hp) := by
  rw [dn_ret h]
  unfold qz q_i
  show (if x = 0 ∨ x = 1 then some (some (Value.int x)) else none).map _ = _
  split <;> rfl
end DN
-- the same, one lemma a step, for chains
section DNC
variable {G : pG} {k i a : Nat} {ls : List pO} {st : List Value} {hp : pH}
theorem dc_iload {x : Int32} (h : G.1 k i = some (.inl (op_iload a))) (hx : ls[a]? = some (some (.int x))) : dn G k i ls st hp = dn G k (i + 1) ls (.int x :: st) hp := by
  rw [dn_step h]
  unfold op_iload
  dsimp only
  rw [hx]
  rfl
theorem dc_lload {x : Int64} (h : G.1 k i = some (.inl (op_lload a))) (hx : ls[a]? = some (some (.long x))) : dn G k i ls st hp = dn G k (i + 1) ls (.long x :: st) hp := by
  rw [dn_step h]
  unfold op_lload
  dsimp only
  rw [hx]
  rfl
theorem dc_aload {x : Nat} (h : G.1 k i = some (.inl (op_aload a))) (hx : ls[a]? = some (some (.ref x))) : dn G k i ls st hp = dn G k (i + 1) ls (.ref x :: st) hp := by
  rw [dn_step h]
  unfold op_aload
  dsimp only
  rw [hx]
  rfl
theorem dc_ic {x : Int32} (h : G.1 k i = some (.inl (op_ic x))) : dn G k i ls st hp = dn G k (i + 1) ls (.int x :: st) hp := dn_step h ls st hp
theorem dc_lc {x : Int64} (h : G.1 k i = some (.inl (op_lc x))) : dn G k i ls st hp = dn G k (i + 1) ls (.long x :: st) hp := dn_step h ls st hp
theorem dc_bin {f : Int32 → Int32 → Int32} (h : G.1 k i = some (.inl (op_bin f))) (x y : Int32) : dn G k i ls (.int y :: .int x :: st) hp = dn G k (i + 1) ls (.int (f x y) :: st) hp := dn_step h ls _ hp
theorem dc_lbin {f : Int64 → Int64 → Int64} (h : G.1 k i = some (.inl (op_lbin f))) (x y : Int64) : dn G k i ls (.long y :: .long x :: st) hp = dn G k (i + 1) ls (.long (f x y) :: st) hp := dn_step h ls _ hp
theorem dc_i2l (h : G.1 k i = some (.inl op_i2l)) (x : Int32) : dn G k i ls (.int x :: st) hp = dn G k (i + 1) ls (.long x.toInt64 :: st) hp := dn_step h ls _ hp
theorem dc_l2i (h : G.1 k i = some (.inl op_l2i)) (x : Int64) : dn G k i ls (.long x :: st) hp = dn G k (i + 1) ls (.int x.toInt32 :: st) hp := dn_step h ls _ hp
theorem dc_lcmp (h : G.1 k i = some (.inl op_lcmp)) (x y : Int64) : dn G k i ls (.long y :: .long x :: st) hp = dn G k (i + 1) ls (.int (lg_cmp x y) :: st) hp := dn_step h ls _ hp
theorem dc_dupI (h : G.1 k i = some (.inl op_dup)) (x : Int32) : dn G k i ls (.int x :: st) hp = dn G k (i + 1) ls (.int x :: .int x :: st) hp := dn_step h ls _ hp
theorem dc_dupA (h : G.1 k i = some (.inl op_dup)) (x : Nat) : dn G k i ls (.ref x :: st) hp = dn G k (i + 1) ls (.ref x :: .ref x :: st) hp := dn_step h ls _ hp
theorem dc_dup2 (h : G.1 k i = some (.inl op_dup2)) (x : Int32) (y : Nat) : dn G k i ls (.int x :: .ref y :: st) hp = dn G k (i + 1) ls (.int x :: .ref y :: .int x :: .ref y :: st) hp := dn_step h ls _ hp
theorem dc_popI (h : G.1 k i = some (.inl op_pop)) (x : Int32) : dn G k i ls (.int x :: st) hp = dn G k (i + 1) ls st hp := dn_step h ls _ hp
theorem dc_popA (h : G.1 k i = some (.inl op_pop)) (x : Nat) : dn G k i ls (.ref x :: st) hp = dn G k (i + 1) ls st hp := dn_step h ls _ hp
theorem dc_goto {t : Nat} (h : G.1 k i = some (.inl (op_goto t))) : dn G k i ls st hp = dn G k t ls st hp := dn_step h ls st hp
theorem dc_new {ci : Nat} {fs : List Value} (h : G.1 k i = some (.inl (op_new ci fs))) : dn G k i ls st hp = dn G k (i + 1) ls (.ref hp.length :: st) (hp ++ [.inr (ci, fs)]) := dn_step h ls st hp
theorem dc_ireturn (h : G.1 k i = some (.inr (.inr 1))) (x : Int32) : dn G k i ls [.int x] hp = q_i x hp := dn_ret h ls _ hp
theorem dc_lreturn (h : G.1 k i = some (.inr (.inr 2))) (x : Int64) : dn G k i ls [.long x] hp = q_l x hp := dn_ret h ls _ hp
theorem dc_return (h : G.1 k i = some (.inr (.inr 0))) : dn G k i ls [] hp = q_v hp := dn_ret h ls _ hp
theorem q_ite {α : Type} {c : Prop} {d : Decidable c} {X Y A B : α} (h1 : X = A) (h2 : Y = B) : (if decide c = true then X else Y) = if c then A else B := by
  subst h1
  subst h2
  by_cases h : c <;> simp [h]
theorem q_ife {α : Type} {c : Prop} {d : Decidable c} {X Y A B : α} (h1 : X = A) (h2 : Y = B) : (if c then X else Y) = if c then A else B := by
  subst h1
  subst h2
  rfl
theorem q_swc {x y : Int32} {d : Nat} {t : Nat} {r : List (Int32 × Nat)} {A B : Option pR} (h1 : dn G k t ls st hp = A) (h2 : pm_swd G k ls st hp d r x = B) : pm_swd G k ls st hp d ((y, t) :: r) x = if x = y then A else B := by
  subst h1
  subst h2
  rfl
theorem q_swn {x : Int32} {d : Nat} {A : Option pR} (h1 : dn G k d ls st hp = A) : pm_swd G k ls st hp d [] x = A := h1
end DNC
