/-! The reference, made. -/
def m1_ : aM := ((z_ 8, z_ 8, z_ 8, z_ 8, 0, 0, 0), (z_ 6, z_ 6), (z_ 8, z_ 8, 0), (z_ 60, 0), (zR 60, zR 60, zR 60, 0), (z_ 160, fun _ => false, 0, false), (zR 8, z_ 27, zR 8, zR 501, fun _ => false, fun _ => 0, fun _ => 0, 0, 0, 0, 0, 0))
def mM_ (me mi : List Nat) : aM := ((z_ 8, me, z_ 8, z_ 8, 0, 9, 0), (mi, z_ 6), m1_.2.2)
def m0_ : aM := mM_ (List.replicate 8 3) (List.replicate 6 1)
/-- arrays made one behind another, each put into a field -/
def alN (o ci : Nat) (F : pH → Option pR) : List (Nat × pE) → pH → Option pR
  | [], hp => F hp
  | q :: r, hp => qp_v (hp ++ [q.2]) o ci q.1 (.ref hp.length) (fun hp1 => alN o ci F r hp1)
def alS : List (Nat × pE) → Nat → List Value → List Value
  | [], _, fs => fs
  | q :: r, n, fs => alS r (n + 1) (fs.set q.1 (.ref n))
theorem alN_eq {pre : pH} {ci : Nat} {F : pH → Option pR} : ∀ (L : List (Nat × pE)) (n : Nat) (fs : List Value) (X : pH), ((pre ++ [(.inr (ci, fs) : pE)]) ++ X).length = n → (∀ q ∈ L, q.1 < fs.length) → alN pre.length ci F L ((pre ++ [.inr (ci, fs)]) ++ X) = F ((pre ++ [.inr (ci, alS L n fs)]) ++ (X ++ L.map Prod.snd))
  | [], n, fs, X, _, _ => by
    show F _ = F _
    rw [List.map_nil, List.append_nil]
    rfl
  | q :: r, n, fs, X, hn, hk => by
    show qp_v (((pre ++ [(.inr (ci, fs) : pE)]) ++ X) ++ [q.2]) pre.length ci q.1 (.ref ((pre ++ [(.inr (ci, fs) : pE)]) ++ X).length) (fun hp1 => alN pre.length ci F r hp1) = _
    rw [hn, al_v (hk q (List.mem_cons_self ..))]
    have h2 : ((pre ++ [(.inr (ci, fs.set q.1 (.ref n)) : pE)]) ++ (X ++ [q.2])).length = n + 1 := by
      rw [← hn]
      simp only [List.length_append, List.length_cons, List.length_nil]
      omega
    rw [alN_eq r (n + 1) (fs.set q.1 (.ref n)) (X ++ [q.2]) h2 (fun p hp => by rw [List.length_set]; exact hk p (List.mem_cons_of_mem _ hp)), List.append_assoc X]
    rfl
def mL_ : List (Nat × pE) := [(0, aI 8 (z_ 8)), (1, aI 8 (z_ 8)), (2, aI 8 (z_ 8)), (3, aI 8 (z_ 8)), (7, aI 6 (z_ 6)), (8, aI 6 (z_ 6)), (9, aI 8 (z_ 8)), (10, aI 8 (z_ 8)), (12, aI 60 (z_ 60)), (14, aI 60 (z_ 60)), (15, aI 60 (z_ 60)), (16, aI 60 (z_ 60)), (18, aI 8 (z_ 8)), (19, aI 27 (z_ 27)), (25, aI 8 (z_ 8)), (26, aI 501 (z_ 501)), (27, aZ 256 (fun _ => false)), (28, aL 441 (fun _ => 0)), (29, aL 441 (fun _ => 0)), (30, aI 160 (z_ 160)), (31, aZ 2 (fun _ => false))]
theorem mL_k : ∀ q ∈ mL_, q.1 < 34 := by
  intro q hq
  have : q.1 ∈ mL_.map Prod.fst := List.mem_map_of_mem hq
  have h : ∀ k ∈ ([0, 1, 2, 3, 7, 8, 9, 10, 12, 14, 15, 16, 18, 19, 25, 26, 27, 28, 29, 30, 31] : List Nat), k < 34 := by decide
  exact h q.1 this
theorem alS_c {q : Nat × pE} {r : List (Nat × pE)} {n m : Nat} {fs : List Value} (fs' : List Value) (hm : n + 1 = m) (h : fs.set q.1 (.ref n) = fs') : alS (q :: r) n fs = alS r m fs' := by
  subst hm
  subst h
  rfl
theorem eS_ (o : Nat) : alS mL_ (o + 1) [.null, .null, .null, .null, .int 0, .int 0, .int 0, .null, .null, .null, .null, .int 0, .null, .int 0, .null, .null, .null, .int 0, .null, .null, .int 0, .int 0, .int 0, .int 0, .int 0, .null, .null, .null, .null, .null, .null, .null, .int 0, .int 0] = [.ref (o + 1), .ref (o + 2), .ref (o + 3), .ref (o + 4), .int 0, .int 0, .int 0, .ref (o + 5), .ref (o + 6), .ref (o + 7), .ref (o + 8), .int 0, .ref (o + 9), .int 0, .ref (o + 10), .ref (o + 11), .ref (o + 12), .int 0, .ref (o + 13), .ref (o + 14), .int 0, .int 0, .int 0, .int 0, .int 0, .ref (o + 15), .ref (o + 16), .ref (o + 17), .ref (o + 18), .ref (o + 19), .ref (o + 20), .ref (o + 21), .int 0, .int 0] := by
  unfold mL_
  rw [alS_c (m := o + 2) [.ref (o + 1), .null, .null, .null, .int 0, .int 0, .int 0, .null, .null, .null, .null, .int 0, .null, .int 0, .null, .null, .null, .int 0, .null, .null, .int 0, .int 0, .int 0, .int 0, .int 0, .null, .null, .null, .null, .null, .null, .null, .int 0, .int 0] (by rfl) (by rfl)]
  rw [alS_c (m := o + 3) [.ref (o + 1), .ref (o + 2), .null, .null, .int 0, .int 0, .int 0, .null, .null, .null, .null, .int 0, .null, .int 0, .null, .null, .null, .int 0, .null, .null, .int 0, .int 0, .int 0, .int 0, .int 0, .null, .null, .null, .null, .null, .null, .null, .int 0, .int 0] (by rfl) (by rfl)]
  rw [alS_c (m := o + 4) [.ref (o + 1), .ref (o + 2), .ref (o + 3), .null, .int 0, .int 0, .int 0, .null, .null, .null, .null, .int 0, .null, .int 0, .null, .null, .null, .int 0, .null, .null, .int 0, .int 0, .int 0, .int 0, .int 0, .null, .null, .null, .null, .null, .null, .null, .int 0, .int 0] (by rfl) (by rfl)]
  rw [alS_c (m := o + 5) [.ref (o + 1), .ref (o + 2), .ref (o + 3), .ref (o + 4), .int 0, .int 0, .int 0, .null, .null, .null, .null, .int 0, .null, .int 0, .null, .null, .null, .int 0, .null, .null, .int 0, .int 0, .int 0, .int 0, .int 0, .null, .null, .null, .null, .null, .null, .null, .int 0, .int 0] (by rfl) (by rfl)]
  rw [alS_c (m := o + 6) [.ref (o + 1), .ref (o + 2), .ref (o + 3), .ref (o + 4), .int 0, .int 0, .int 0, .ref (o + 5), .null, .null, .null, .int 0, .null, .int 0, .null, .null, .null, .int 0, .null, .null, .int 0, .int 0, .int 0, .int 0, .int 0, .null, .null, .null, .null, .null, .null, .null, .int 0, .int 0] (by rfl) (by rfl)]
  rw [alS_c (m := o + 7) [.ref (o + 1), .ref (o + 2), .ref (o + 3), .ref (o + 4), .int 0, .int 0, .int 0, .ref (o + 5), .ref (o + 6), .null, .null, .int 0, .null, .int 0, .null, .null, .null, .int 0, .null, .null, .int 0, .int 0, .int 0, .int 0, .int 0, .null, .null, .null, .null, .null, .null, .null, .int 0, .int 0] (by rfl) (by rfl)]
  rw [alS_c (m := o + 8) [.ref (o + 1), .ref (o + 2), .ref (o + 3), .ref (o + 4), .int 0, .int 0, .int 0, .ref (o + 5), .ref (o + 6), .ref (o + 7), .null, .int 0, .null, .int 0, .null, .null, .null, .int 0, .null, .null, .int 0, .int 0, .int 0, .int 0, .int 0, .null, .null, .null, .null, .null, .null, .null, .int 0, .int 0] (by rfl) (by rfl)]
  rw [alS_c (m := o + 9) [.ref (o + 1), .ref (o + 2), .ref (o + 3), .ref (o + 4), .int 0, .int 0, .int 0, .ref (o + 5), .ref (o + 6), .ref (o + 7), .ref (o + 8), .int 0, .null, .int 0, .null, .null, .null, .int 0, .null, .null, .int 0, .int 0, .int 0, .int 0, .int 0, .null, .null, .null, .null, .null, .null, .null, .int 0, .int 0] (by rfl) (by rfl)]
  rw [alS_c (m := o + 10) [.ref (o + 1), .ref (o + 2), .ref (o + 3), .ref (o + 4), .int 0, .int 0, .int 0, .ref (o + 5), .ref (o + 6), .ref (o + 7), .ref (o + 8), .int 0, .ref (o + 9), .int 0, .null, .null, .null, .int 0, .null, .null, .int 0, .int 0, .int 0, .int 0, .int 0, .null, .null, .null, .null, .null, .null, .null, .int 0, .int 0] (by rfl) (by rfl)]
  rw [alS_c (m := o + 11) [.ref (o + 1), .ref (o + 2), .ref (o + 3), .ref (o + 4), .int 0, .int 0, .int 0, .ref (o + 5), .ref (o + 6), .ref (o + 7), .ref (o + 8), .int 0, .ref (o + 9), .int 0, .ref (o + 10), .null, .null, .int 0, .null, .null, .int 0, .int 0, .int 0, .int 0, .int 0, .null, .null, .null, .null, .null, .null, .null, .int 0, .int 0] (by rfl) (by rfl)]
  rw [alS_c (m := o + 12) [.ref (o + 1), .ref (o + 2), .ref (o + 3), .ref (o + 4), .int 0, .int 0, .int 0, .ref (o + 5), .ref (o + 6), .ref (o + 7), .ref (o + 8), .int 0, .ref (o + 9), .int 0, .ref (o + 10), .ref (o + 11), .null, .int 0, .null, .null, .int 0, .int 0, .int 0, .int 0, .int 0, .null, .null, .null, .null, .null, .null, .null, .int 0, .int 0] (by rfl) (by rfl)]
  rw [alS_c (m := o + 13) [.ref (o + 1), .ref (o + 2), .ref (o + 3), .ref (o + 4), .int 0, .int 0, .int 0, .ref (o + 5), .ref (o + 6), .ref (o + 7), .ref (o + 8), .int 0, .ref (o + 9), .int 0, .ref (o + 10), .ref (o + 11), .ref (o + 12), .int 0, .null, .null, .int 0, .int 0, .int 0, .int 0, .int 0, .null, .null, .null, .null, .null, .null, .null, .int 0, .int 0] (by rfl) (by rfl)]
  rw [alS_c (m := o + 14) [.ref (o + 1), .ref (o + 2), .ref (o + 3), .ref (o + 4), .int 0, .int 0, .int 0, .ref (o + 5), .ref (o + 6), .ref (o + 7), .ref (o + 8), .int 0, .ref (o + 9), .int 0, .ref (o + 10), .ref (o + 11), .ref (o + 12), .int 0, .ref (o + 13), .null, .int 0, .int 0, .int 0, .int 0, .int 0, .null, .null, .null, .null, .null, .null, .null, .int 0, .int 0] (by rfl) (by rfl)]
  rw [alS_c (m := o + 15) [.ref (o + 1), .ref (o + 2), .ref (o + 3), .ref (o + 4), .int 0, .int 0, .int 0, .ref (o + 5), .ref (o + 6), .ref (o + 7), .ref (o + 8), .int 0, .ref (o + 9), .int 0, .ref (o + 10), .ref (o + 11), .ref (o + 12), .int 0, .ref (o + 13), .ref (o + 14), .int 0, .int 0, .int 0, .int 0, .int 0, .null, .null, .null, .null, .null, .null, .null, .int 0, .int 0] (by rfl) (by rfl)]
  rw [alS_c (m := o + 16) [.ref (o + 1), .ref (o + 2), .ref (o + 3), .ref (o + 4), .int 0, .int 0, .int 0, .ref (o + 5), .ref (o + 6), .ref (o + 7), .ref (o + 8), .int 0, .ref (o + 9), .int 0, .ref (o + 10), .ref (o + 11), .ref (o + 12), .int 0, .ref (o + 13), .ref (o + 14), .int 0, .int 0, .int 0, .int 0, .int 0, .ref (o + 15), .null, .null, .null, .null, .null, .null, .int 0, .int 0] (by rfl) (by rfl)]
  rw [alS_c (m := o + 17) [.ref (o + 1), .ref (o + 2), .ref (o + 3), .ref (o + 4), .int 0, .int 0, .int 0, .ref (o + 5), .ref (o + 6), .ref (o + 7), .ref (o + 8), .int 0, .ref (o + 9), .int 0, .ref (o + 10), .ref (o + 11), .ref (o + 12), .int 0, .ref (o + 13), .ref (o + 14), .int 0, .int 0, .int 0, .int 0, .int 0, .ref (o + 15), .ref (o + 16), .null, .null, .null, .null, .null, .int 0, .int 0] (by rfl) (by rfl)]
  rw [alS_c (m := o + 18) [.ref (o + 1), .ref (o + 2), .ref (o + 3), .ref (o + 4), .int 0, .int 0, .int 0, .ref (o + 5), .ref (o + 6), .ref (o + 7), .ref (o + 8), .int 0, .ref (o + 9), .int 0, .ref (o + 10), .ref (o + 11), .ref (o + 12), .int 0, .ref (o + 13), .ref (o + 14), .int 0, .int 0, .int 0, .int 0, .int 0, .ref (o + 15), .ref (o + 16), .ref (o + 17), .null, .null, .null, .null, .int 0, .int 0] (by rfl) (by rfl)]
  rw [alS_c (m := o + 19) [.ref (o + 1), .ref (o + 2), .ref (o + 3), .ref (o + 4), .int 0, .int 0, .int 0, .ref (o + 5), .ref (o + 6), .ref (o + 7), .ref (o + 8), .int 0, .ref (o + 9), .int 0, .ref (o + 10), .ref (o + 11), .ref (o + 12), .int 0, .ref (o + 13), .ref (o + 14), .int 0, .int 0, .int 0, .int 0, .int 0, .ref (o + 15), .ref (o + 16), .ref (o + 17), .ref (o + 18), .null, .null, .null, .int 0, .int 0] (by rfl) (by rfl)]
  rw [alS_c (m := o + 20) [.ref (o + 1), .ref (o + 2), .ref (o + 3), .ref (o + 4), .int 0, .int 0, .int 0, .ref (o + 5), .ref (o + 6), .ref (o + 7), .ref (o + 8), .int 0, .ref (o + 9), .int 0, .ref (o + 10), .ref (o + 11), .ref (o + 12), .int 0, .ref (o + 13), .ref (o + 14), .int 0, .int 0, .int 0, .int 0, .int 0, .ref (o + 15), .ref (o + 16), .ref (o + 17), .ref (o + 18), .ref (o + 19), .null, .null, .int 0, .int 0] (by rfl) (by rfl)]
  rw [alS_c (m := o + 21) [.ref (o + 1), .ref (o + 2), .ref (o + 3), .ref (o + 4), .int 0, .int 0, .int 0, .ref (o + 5), .ref (o + 6), .ref (o + 7), .ref (o + 8), .int 0, .ref (o + 9), .int 0, .ref (o + 10), .ref (o + 11), .ref (o + 12), .int 0, .ref (o + 13), .ref (o + 14), .int 0, .int 0, .int 0, .int 0, .int 0, .ref (o + 15), .ref (o + 16), .ref (o + 17), .ref (o + 18), .ref (o + 19), .ref (o + 20), .null, .int 0, .int 0] (by rfl) (by rfl)]
  rw [alS_c (m := o + 22) [.ref (o + 1), .ref (o + 2), .ref (o + 3), .ref (o + 4), .int 0, .int 0, .int 0, .ref (o + 5), .ref (o + 6), .ref (o + 7), .ref (o + 8), .int 0, .ref (o + 9), .int 0, .ref (o + 10), .ref (o + 11), .ref (o + 12), .int 0, .ref (o + 13), .ref (o + 14), .int 0, .int 0, .int 0, .int 0, .int 0, .ref (o + 15), .ref (o + 16), .ref (o + 17), .ref (o + 18), .ref (o + 19), .ref (o + 20), .ref (o + 21), .int 0, .int 0] (by rfl) (by rfl)]
  rfl
theorem eM_ : mL_.map Prod.snd = [aI 8 (z_ 8), aI 8 (z_ 8), aI 8 (z_ 8), aI 8 (z_ 8), aI 6 (z_ 6), aI 6 (z_ 6), aI 8 (z_ 8), aI 8 (z_ 8), aI 60 (z_ 60), aI 60 (z_ 60), aI 60 (z_ 60), aI 60 (z_ 60), aI 8 (z_ 8), aI 27 (z_ 27), aI 8 (z_ 8), aI 501 (z_ 501), aZ 256 (fun _ => false), aL 441 (fun _ => 0), aL 441 (fun _ => 0), aI 160 (z_ 160), aZ 2 (fun _ => false)] := rfl
theorem eO_ (o : Nat) : cM o m1_ = (.inr (9, [.ref (o + 1), .ref (o + 2), .ref (o + 3), .ref (o + 4), .int 0, .int 0, .int 0, .ref (o + 5), .ref (o + 6), .ref (o + 7), .ref (o + 8), .int 0, .ref (o + 9), .int 0, .ref (o + 10), .ref (o + 11), .ref (o + 12), .int 0, .ref (o + 13), .ref (o + 14), .int 0, .int 0, .int 0, .int 0, .int 0, .ref (o + 15), .ref (o + 16), .ref (o + 17), .ref (o + 18), .ref (o + 19), .ref (o + 20), .ref (o + 21), .int 0, .int 0]) : pE) :: [aI 8 (z_ 8), aI 8 (z_ 8), aI 8 (z_ 8), aI 8 (z_ 8), aI 6 (z_ 6), aI 6 (z_ 6), aI 8 (z_ 8), aI 8 (z_ 8), aI 60 (z_ 60), aI 60 (z_ 60), aI 60 (z_ 60), aI 60 (z_ 60), aI 8 (z_ 8), aI 27 (z_ 27), aI 8 (z_ 8), aI 501 (z_ 501), aZ 256 (fun _ => false), aL 441 (fun _ => 0), aL 441 (fun _ => 0), aI 160 (z_ 160), aZ 2 (fun _ => false)] := rfl
theorem n_M (pre : pH) : cl pg 106 [.ref pre.length] (pre ++ [.inr (9, [.null, .null, .null, .null, .int 0, .int 0, .int 0, .null, .null, .null, .null, .int 0, .null, .int 0, .null, .null, .null, .int 0, .null, .null, .int 0, .int 0, .int 0, .int 0, .int 0, .null, .null, .null, .null, .null, .null, .null, .int 0, .int 0])]) = q_v (pre ++ cM pre.length m0_) := by
  have e0 : pre ++ [(.inr (9, [.null, .null, .null, .null, .int 0, .int 0, .int 0, .null, .null, .null, .null, .int 0, .null, .int 0, .null, .null, .null, .int 0, .null, .null, .int 0, .int 0, .int 0, .int 0, .int 0, .null, .null, .null, .null, .null, .null, .null, .int 0, .int 0]) : pE)] = (pre ++ [.inr (9, [.null, .null, .null, .null, .int 0, .int 0, .int 0, .null, .null, .null, .null, .int 0, .null, .int 0, .null, .null, .null, .int 0, .null, .null, .int 0, .int 0, .int 0, .int 0, .int 0, .null, .null, .null, .null, .null, .null, .null, .int 0, .int 0])]) ++ [] := (List.append_nil _).symm
  have hx : iM (pre ++ cM pre.length m1_) pre.length m1_ := isAt_pre _ _
  have eN := alN_eq (pre := pre) (ci := 9) (F := fun hp21 => qp_v hp21 pre.length 9 5 (.int (nI 9)) (fun hp22 => dn pg 106 91 [some (.ref pre.length), some (.int (nI 0))] [] hp22)) mL_ (pre.length + 1) [.null, .null, .null, .null, .int 0, .int 0, .int 0, .null, .null, .null, .null, .int 0, .null, .int 0, .null, .null, .null, .int 0, .null, .null, .int 0, .int 0, .int 0, .int 0, .int 0, .null, .null, .null, .null, .null, .null, .null, .int 0, .int 0] [] (len_pre 0 rfl) mL_k
  have eC : (pre ++ [(.inr (9, alS mL_ (pre.length + 1) [.null, .null, .null, .null, .int 0, .int 0, .int 0, .null, .null, .null, .null, .int 0, .null, .int 0, .null, .null, .null, .int 0, .null, .null, .int 0, .int 0, .int 0, .int 0, .int 0, .null, .null, .null, .null, .null, .null, .null, .int 0, .int 0]) : pE)]) ++ ([] ++ mL_.map Prod.snd) = pre ++ cM pre.length m1_ := by
    rw [eS_, eM_, eO_, List.append_assoc]
    rfl
  rw [eC] at eN
  rw [E106, B106_0, e0, cl8, cl6, cl60, cl27, cl501, cl256, cl441, cl160, cl2, new_Z, new_Z, new_L, new_I, new_I, new_I, new_I, new_I, new_I]
  refine Eq.trans eN ?_
  have p5 : qp_v (pre ++ cM pre.length m1_) pre.length 9 5 (.int (nI 9)) (fun hp22 => dn pg 106 91 [some (.ref pre.length), some (.int (nI 0))] [] hp22) = dn pg 106 91 [some (.ref pre.length), some (.int (nI 0))] [] (sM (pre ++ cM pre.length m1_) pre.length (mM_ (z_ 8) (z_ 6))) := pM_5 hx 9 _
  show qp_v (pre ++ cM pre.length m1_) pre.length 9 5 (.int (nI 9)) (fun hp22 => dn pg 106 91 [some (.ref pre.length), some (.int (nI 0))] [] hp22) = _
  rw [p5]
  have kmi : ∀ k i, i + k = 6 → dn pg 106 103 [some (.ref pre.length), some (.int (nI i))] [] (sM (pre ++ cM pre.length m1_) pre.length (mM_ (List.replicate 8 3) (cpL (z_ 6) (List.replicate 6 1) i))) = q_v (pre ++ cM pre.length m0_) := by
    intro k
    induction k with
    | zero =>
      intro i hi
      have : i = 6 := by omega
      subst this
      rw [B106_103, if_pos (by decide), cpL_n (n := 6) rfl rfl]
      show q_v (wr (pre ++ cM pre.length m1_) pre.length (cM pre.length m0_)) = _
      rw [wr_pre (cM pre.length m1_) (cM pre.length m0_) pre rfl]
    | succ k ih =>
      intro i hi
      have h6 : i < 6 := by omega
      have hc := cpL_set (xs := z_ 6) (ys := List.replicate 6 1) (n := 6) (k := i) rfl rfl h6
      rw [rep_get h6] at hc
      unfold mM_
      rw [B106_103, if_neg (nI_ge h6 (by omega)), gM_7s hx, wM_mis hx h6 (cpL_len (n := 6) rfl rfl (by omega)), hc, nI_add]
      exact ih (i + 1) (by omega)
  have kme : ∀ k i, i + k = 8 → dn pg 106 91 [some (.ref pre.length), some (.int (nI i))] [] (sM (pre ++ cM pre.length m1_) pre.length (mM_ (cpL (z_ 8) (List.replicate 8 3) i) (z_ 6))) = q_v (pre ++ cM pre.length m0_) := by
    intro k
    induction k with
    | zero =>
      intro i hi
      have : i = 8 := by omega
      subst this
      rw [B106_91, if_pos (by decide), cpL_n (n := 8) rfl rfl]
      exact kmi 6 0 rfl
    | succ k ih =>
      intro i hi
      have h8 : i < 8 := by omega
      have hc := cpL_set (xs := z_ 8) (ys := List.replicate 8 3) (n := 8) (k := i) rfl rfl h8
      rw [rep_get h8] at hc
      unfold mM_
      rw [B106_91, if_neg (nI_ge h8 (by omega)), gM_1s hx, wM_ms hx h8 (cpL_len (n := 8) rfl rfl (by omega)), hc, nI_add]
      exact ih (i + 1) (by omega)
  exact kme 8 0 rfl
/-- at the start all is alike -/
theorem z8_ : ∀ i, i < 8 → (z_ 8).getD i 0 = 0 := fun i _ => z_get 8 i
theorem okw0 : okW w0_ := by
  refine ⟨⟨rfl, rfl, rfl, rfl⟩, fun i hi => ?_, by decide, by decide, by decide⟩
  show (z_ 8).getD i 0 < 4 ∧ (List.replicate 8 3).getD i 0 < 10 ∧ (z_ 8).getD i 0 < 10 ∧ (z_ 8).getD i 0 < 256
  rw [z_get, rep_get hi]
  omega
theorem okc0 : okC c0_ := by
  refine ⟨⟨rfl, rfl⟩, fun i hi => ?_⟩
  show (List.replicate 6 1).getD i 0 < 10 ∧ (z_ 6).getD i 0 < 100
  rw [z_get, rep_get hi]
  omega
theorem oks0 : okS s0_ := by
  refine ⟨rfl, fun i hi => ?_, by decide, by decide⟩
  show (z_ 8).getD i 0 < 61
  rw [z_get]
  omega
theorem okn0 : okN n0_ := ⟨okw0, okc0, oks0⟩
theorem Rel_0 : Rel x0_ m0_ := by
  refine ⟨⟨okn0, okn0, okn0, ⟨rfl, by decide, fun i hi => absurd hi (Nat.not_lt_zero _)⟩, okw0, okw0, rfl⟩, ⟨?_, rfl, rfl, ⟨rfl, fun i hi => absurd hi (Nat.not_lt_zero _)⟩, ⟨rfl, rfl, by decide, fun i hi => ?_, fun i hi => ?_⟩⟩, ⟨rfl, rfl, fun i hi => absurd hi (Nat.not_lt_zero _)⟩, ⟨rfl, rfl⟩, ⟨rfl, fun q => (by cases q)⟩, ⟨rfl, fun q => (by cases q)⟩⟩
  · intro i j hi hj
    show hs ((z_ 8).getD i 0) j = hs ((z_ 8).getD j 0) i
    rw [z_get, z_get, hs_0, hs_0]
  · show (z_ 8).getD i 0 < 61
    rw [z_get]
    omega
  · show (z_ 8).getD i 0 < 2
    rw [z_get]
    omega
