/-! What is made at the start. -/
theorem isAt_pre (pre cs : pH) : isAt (pre ++ cs) pre.length cs := fun j hj => by
  rw [List.getElem?_append_right (by omega)]
  congr 1
  omega
theorem set_pre (pre : pH) (c e : pE) (cs : pH) : (pre ++ c :: cs).set pre.length e = pre ++ e :: cs := by
  induction pre with
  | nil => rfl
  | cons a pre ih =>
    show a :: (pre ++ c :: cs).set pre.length e = _
    rw [ih]
    rfl
theorem wr_pre : ∀ (cs cs' : List pE) (pre : pH), cs.length = cs'.length → wr (pre ++ cs) pre.length cs' = pre ++ cs'
  | [], [], _, _ => rfl
  | [], _ :: _, _, h => by cases h
  | _ :: _, [], _, h => by cases h
  | c :: cs, c' :: cs', pre, h => by
    show wr ((pre ++ c :: cs).set pre.length c') (pre.length + 1) cs' = _
    have e1 : pre ++ c' :: cs = (pre ++ [c']) ++ cs := by simp
    have e2 : pre.length + 1 = (pre ++ [c']).length := by simp
    rw [set_pre, e1, e2, wr_pre cs cs' (pre ++ [c']) (by simpa using h)]
    simp
theorem vA (hp : pH) (ci : Nat) (fs : List Value) (K : Option pR) : qv (hp ++ [.inr (ci, fs)]) hp.length ci K = K := ev_o (fs := fs) (by
  rw [List.getElem?_append_right (Nat.le_refl _), Nat.sub_self]
  rfl) K
theorem al_v {pre X Y : pH} {ci k : Nat} {fs : List Value} (hk : k < fs.length) (v : Value) (F : pH → Option pR) : qp_v (((pre ++ [.inr (ci, fs)]) ++ X) ++ Y) pre.length ci k v F = F ((pre ++ [.inr (ci, fs.set k v)]) ++ (X ++ Y)) := by
  have e : ((pre ++ [(.inr (ci, fs) : pE)]) ++ X) ++ Y = pre ++ (.inr (ci, fs)) :: (X ++ Y) := by simp
  have e2 : (pre ++ [(.inr (ci, fs.set k v) : pE)]) ++ (X ++ Y) = pre ++ (.inr (ci, fs.set k v)) :: (X ++ Y) := by simp
  rw [e, e2, ep_v (fs := fs) _ hk, set_pre]
  rw [List.getElem?_append_right (Nat.le_refl _), Nat.sub_self]
  rfl
theorem len_pre {pre X : pH} {c : pE} (n : Nat) (h : X.length = n) : ((pre ++ [c]) ++ X).length = pre.length + (1 + n) := by
  rw [List.length_append, List.length_append, h]
  show pre.length + 1 + n = _
  omega
def z_ (n : Nat) : List Nat := List.replicate n 0
theorem z_get (n j : Nat) : (z_ n).getD j 0 = 0 := by
  unfold z_
  rw [List.getD_eq_getElem?_getD, List.getElem?_replicate]
  split <;> rfl
theorem new_I (n : Nat) : pm_new 0 n = aI n (z_ n) := by
  unfold aI
  have : (fun j => nI ((z_ n).getD j 0)) = fun _ => (0 : Int32) := by
    funext j
    rw [z_get]
    rfl
  rw [this]
  rfl
theorem new_Z (n : Nat) : pm_new 1 n = aZ n (fun _ => false) := rfl
theorem new_L (n : Nat) : pm_new 2 n = aL n (fun _ => 0) := rfl
def zR (n : Nat) : Nat → Int32 := fun j => nI ((z_ n).getD j 0)
theorem new_R (n : Nat) : aI n (z_ n) = aR n (zR n) := rfl
theorem cl8 : (nI 8).toNatClampNeg = 8 := nI_clamp (by decide)
theorem cl6 : (nI 6).toNatClampNeg = 6 := nI_clamp (by decide)
theorem cl60 : (nI 60).toNatClampNeg = 60 := nI_clamp (by decide)
theorem cl112 : (nI 112).toNatClampNeg = 112 := nI_clamp (by decide)
theorem cl3 : (nI 3).toNatClampNeg = 3 := nI_clamp (by decide)
theorem cl401 : (nI 401).toNatClampNeg = 401 := nI_clamp (by decide)
theorem cl27 : (nI 27).toNatClampNeg = 27 := nI_clamp (by decide)
theorem cl501 : (nI 501).toNatClampNeg = 501 := nI_clamp (by decide)
theorem cl256 : (nI 256).toNatClampNeg = 256 := nI_clamp (by decide)
theorem cl441 : (nI 441).toNatClampNeg = 441 := nI_clamp (by decide)
theorem cl160 : (nI 160).toNatClampNeg = 160 := nI_clamp (by decide)
theorem cl2 : (nI 2).toNatClampNeg = 2 := nI_clamp (by decide)
def w1_ : aW := (z_ 8, z_ 8, z_ 8, z_ 8, zR 8, 0, 0, 0)
def w0_ : aW := (z_ 8, List.replicate 8 3, z_ 8, z_ 8, zR 8, 0, 9, 0)
def c1_ : aC := (z_ 6, z_ 6)
def c0_ : aC := (List.replicate 6 1, z_ 6)
def s0_ : aS := (z_ 8, 0, 0)
def n0_ : aN := (false, w0_, c0_, s0_)
def p0_ : aP := (z_ 60, zR 60, zR 60, zR 60, 0, 0)
def k0_ : aK := ((0, 0, 0, 0, 0), w0_)
def q0_ : aQ := (zR 112, 0)
def b0_ : aB := (z_ 3, zR 401)
def x0_ : aX := (n0_, n0_, n0_, p0_, k0_, w0_, q0_, b0_)
theorem rep_get {n v j : Nat} (h : j < n) : (List.replicate n v).getD j 0 = v := by
  rw [List.getD_eq_getElem?_getD, List.getElem?_replicate, if_pos h]
  rfl
theorem n_W (pre : pH) : cl pg 2 [.ref pre.length] (pre ++ [.inr (7, [.null, .null, .null, .null, .null, .int 0, .int 0, .int 0])]) = q_v (pre ++ cW pre.length w0_) := by
  have e0 : pre ++ [(.inr (7, [.null, .null, .null, .null, .null, .int 0, .int 0, .int 0]) : pE)] = (pre ++ [.inr (7, [.null, .null, .null, .null, .null, .int 0, .int 0, .int 0])]) ++ [] := (List.append_nil _).symm
  rw [E2, B2_0, e0, cl8, new_I]
  rw [al_v (by exact Nat.le_of_ble_eq_true rfl), len_pre 0 rfl, al_v (by exact Nat.le_of_ble_eq_true rfl), len_pre 1 rfl, al_v (by exact Nat.le_of_ble_eq_true rfl), len_pre 2 rfl, al_v (by exact Nat.le_of_ble_eq_true rfl), len_pre 3 rfl, al_v (by exact Nat.le_of_ble_eq_true rfl), len_pre 4 rfl]
  have e1 : cW pre.length w1_ = [.inr (7, [.ref (pre.length + (1 + 0)), .ref (pre.length + (1 + 1)), .ref (pre.length + (1 + 2)), .ref (pre.length + (1 + 3)), .ref (pre.length + (1 + 4)), .int 0, .int 0, .int 0])] ++ [aI 8 (z_ 8), aI 8 (z_ 8), aI 8 (z_ 8), aI 8 (z_ 8), aI 8 (z_ 8)] := rfl
  show dn pg 2 24 [some (.ref pre.length), some (.int (nI 0))] [] ((pre ++ [.inr (7, [.ref (pre.length + (1 + 0)), .ref (pre.length + (1 + 1)), .ref (pre.length + (1 + 2)), .ref (pre.length + (1 + 3)), .ref (pre.length + (1 + 4)), .int 0, .int 0, .int 0])]) ++ [aI 8 (z_ 8), aI 8 (z_ 8), aI 8 (z_ 8), aI 8 (z_ 8), aI 8 (z_ 8)]) = _
  rw [List.append_assoc, ← e1]
  have hx : iW (pre ++ cW pre.length w1_) pre.length w1_ := isAt_pre _ _
  have key : ∀ k i, i + k = 8 → dn pg 2 24 [some (.ref pre.length), some (.int (nI i))] [] (sW (pre ++ cW pre.length w1_) pre.length (z_ 8, cpL (z_ 8) (List.replicate 8 3) i, z_ 8, z_ 8, zR 8, 0, 0, 0)) = q_v (pre ++ cW pre.length w0_) := by
    intro k
    induction k with
    | zero =>
      intro i hi
      have : i = 8 := by omega
      subst this
      rw [B2_24, if_pos (by decide), pW_6s hx, cpL_n (n := 8) rfl rfl]
      show q_v (wr (pre ++ cW pre.length w1_) pre.length (cW pre.length w0_)) = _
      rw [wr_pre (cW pre.length w1_) (cW pre.length w0_) pre rfl]
    | succ k ih =>
      intro i hi
      have h8 : i < 8 := by omega
      have hc := cpL_set (xs := z_ 8) (ys := List.replicate 8 3) (n := 8) (k := i) rfl rfl h8
      rw [rep_get h8] at hc
      rw [B2_24, if_neg (nI_ge h8 (by omega)), gW_1s hx, wW_ms hx h8 (cpL_len (n := 8) rfl rfl (by omega)), hc, nI_add]
      exact ih (i + 1) (by omega)
  have := key 8 0 rfl
  rw [cpL_0] at this
  have e2 : sW (pre ++ cW pre.length w1_) pre.length (z_ 8, z_ 8, z_ 8, z_ 8, zR 8, 0, 0, 0) = pre ++ cW pre.length w1_ := sW_i hx
  rw [e2] at this
  exact this
theorem n_C (pre : pH) : cl pg 3 [.ref pre.length] (pre ++ [.inr (0, [.null, .null])]) = q_v (pre ++ cC pre.length c0_) := by
  have e0 : pre ++ [(.inr (0, [.null, .null]) : pE)] = (pre ++ [.inr (0, [.null, .null])]) ++ [] := (List.append_nil _).symm
  rw [E3, B3_0, e0, cl6, new_I]
  rw [al_v (by exact Nat.le_of_ble_eq_true rfl), len_pre 0 rfl, al_v (by exact Nat.le_of_ble_eq_true rfl), len_pre 1 rfl]
  have e1 : cC pre.length c1_ = [.inr (0, [.ref (pre.length + (1 + 0)), .ref (pre.length + (1 + 1))])] ++ [aI 6 (z_ 6), aI 6 (z_ 6)] := rfl
  show dn pg 3 12 [some (.ref pre.length), some (.int (nI 0))] [] ((pre ++ [.inr (0, [.ref (pre.length + (1 + 0)), .ref (pre.length + (1 + 1))])]) ++ [aI 6 (z_ 6), aI 6 (z_ 6)]) = _
  rw [List.append_assoc, ← e1]
  have hx : iC (pre ++ cC pre.length c1_) pre.length c1_ := isAt_pre _ _
  have key : ∀ k i, i + k = 6 → dn pg 3 12 [some (.ref pre.length), some (.int (nI i))] [] (sC (pre ++ cC pre.length c1_) pre.length (cpL (z_ 6) (List.replicate 6 1) i, z_ 6)) = q_v (pre ++ cC pre.length c0_) := by
    intro k
    induction k with
    | zero =>
      intro i hi
      have : i = 6 := by omega
      subst this
      rw [B3_12, if_pos (by decide), cpL_n (n := 6) rfl rfl]
      show q_v (wr (pre ++ cC pre.length c1_) pre.length (cC pre.length c0_)) = _
      rw [wr_pre (cC pre.length c1_) (cC pre.length c0_) pre rfl]
    | succ k ih =>
      intro i hi
      have h6 : i < 6 := by omega
      have hc := cpL_set (xs := z_ 6) (ys := List.replicate 6 1) (n := 6) (k := i) rfl rfl h6
      rw [rep_get h6] at hc
      rw [B3_12, if_neg (nI_ge h6 (by omega)), gC_0s hx, wC_mis hx h6 (cpL_len (n := 6) rfl rfl (by omega)), hc, nI_add]
      exact ih (i + 1) (by omega)
  have := key 6 0 rfl
  rw [cpL_0] at this
  have e2 : sC (pre ++ cC pre.length c1_) pre.length (z_ 6, z_ 6) = pre ++ cC pre.length c1_ := sC_i hx
  rw [e2] at this
  exact this
theorem n_S (pre : pH) : cl pg 4 [.ref pre.length] (pre ++ [.inr (4, [.null, .int 0, .int 0])]) = q_v (pre ++ cS pre.length s0_) := by
  have e0 : pre ++ [(.inr (4, [.null, .int 0, .int 0]) : pE)] = (pre ++ [.inr (4, [.null, .int 0, .int 0])]) ++ [] := (List.append_nil _).symm
  rw [E4, B4_0, e0, cl8, new_I]
  rw [al_v (by exact Nat.le_of_ble_eq_true rfl), len_pre 0 rfl, List.append_assoc]
  rfl
theorem n_P (pre : pH) : cl pg 5 [.ref pre.length] (pre ++ [.inr (2, [.null, .null, .null, .null, .int 0, .int 0])]) = q_v (pre ++ cP pre.length p0_) := by
  have e0 : pre ++ [(.inr (2, [.null, .null, .null, .null, .int 0, .int 0]) : pE)] = (pre ++ [.inr (2, [.null, .null, .null, .null, .int 0, .int 0])]) ++ [] := (List.append_nil _).symm
  rw [E5, B5_0, e0, cl60, new_I]
  rw [al_v (by exact Nat.le_of_ble_eq_true rfl), len_pre 0 rfl, al_v (by exact Nat.le_of_ble_eq_true rfl), len_pre 1 rfl, al_v (by exact Nat.le_of_ble_eq_true rfl), len_pre 2 rfl, al_v (by exact Nat.le_of_ble_eq_true rfl), len_pre 3 rfl, List.append_assoc]
  rfl
theorem n_K (pre : pH) : cl pg 6 [.ref pre.length] (pre ++ [.inr (1, [.null, .int 0, .int 0, .int 0, .int 0, .int 0])]) = q_v (pre ++ cK pre.length k0_) := by
  have e0 : pre ++ [(.inr (1, [.null, .int 0, .int 0, .int 0, .int 0, .int 0]) : pE)] = (pre ++ [.inr (1, [.null, .int 0, .int 0, .int 0, .int 0, .int 0])]) ++ [] := (List.append_nil _).symm
  rw [E6, B6_0, e0, vA, n_W, er_v, len_pre 0 rfl, al_v (by exact Nat.le_of_ble_eq_true rfl), List.append_assoc]
  rfl
theorem n_Q (pre : pH) : cl pg 7 [.ref pre.length] (pre ++ [.inr (3, [.null, .int 0])]) = q_v (pre ++ cQ pre.length q0_) := by
  have e0 : pre ++ [(.inr (3, [.null, .int 0]) : pE)] = (pre ++ [.inr (3, [.null, .int 0])]) ++ [] := (List.append_nil _).symm
  rw [E7, B7_0, e0, cl112, new_I]
  rw [al_v (by exact Nat.le_of_ble_eq_true rfl), len_pre 0 rfl, List.append_assoc]
  rfl
theorem n_B (pre : pH) : cl pg 8 [.ref pre.length] (pre ++ [.inr (5, [.null, .null])]) = q_v (pre ++ cB pre.length b0_) := by
  have e0 : pre ++ [(.inr (5, [.null, .null]) : pE)] = (pre ++ [.inr (5, [.null, .null])]) ++ [] := (List.append_nil _).symm
  rw [E8, B8_0, e0, cl3, cl401, new_I, new_I]
  rw [al_v (by exact Nat.le_of_ble_eq_true rfl), len_pre 0 rfl, al_v (by exact Nat.le_of_ble_eq_true rfl), len_pre 1 rfl, List.append_assoc]
  rfl
theorem n_N (pre : pH) : cl pg 1 [.ref pre.length] (pre ++ [.inr (6, [.null, .null, .null, .int 0])]) = q_v (pre ++ cN pre.length n0_) := by
  have e0 : pre ++ [(.inr (6, [.null, .null, .null, .int 0]) : pE)] = (pre ++ [.inr (6, [.null, .null, .null, .int 0])]) ++ [] := (List.append_nil _).symm
  rw [E1, B1_0, e0, vA, n_W, er_v, len_pre 0 rfl, al_v (by exact Nat.le_of_ble_eq_true rfl), vA, n_C, er_v, len_pre 6 rfl, al_v (by exact Nat.le_of_ble_eq_true rfl), vA, n_S, er_v, len_pre 9 rfl, al_v (by exact Nat.le_of_ble_eq_true rfl), List.append_assoc]
  rfl
theorem n_X (pre : pH) : cl pg 0 [.ref pre.length] (pre ++ [.inr (8, [.null, .null, .null, .null, .null, .null, .null, .null])]) = q_v (pre ++ cX pre.length x0_) := by
  have e0 : pre ++ [(.inr (8, [.null, .null, .null, .null, .null, .null, .null, .null]) : pE)] = (pre ++ [.inr (8, [.null, .null, .null, .null, .null, .null, .null, .null])]) ++ [] := (List.append_nil _).symm
  rw [E0, B0_0, e0, vA, n_N, er_v, len_pre 0 rfl, al_v (by exact Nat.le_of_ble_eq_true rfl), vA, n_N, er_v, len_pre 12 rfl, al_v (by exact Nat.le_of_ble_eq_true rfl), vA, n_N, er_v, len_pre 24 rfl, al_v (by exact Nat.le_of_ble_eq_true rfl), vA, n_P, er_v, len_pre 36 rfl, al_v (by exact Nat.le_of_ble_eq_true rfl), vA, n_K, er_v, len_pre 41 rfl, al_v (by exact Nat.le_of_ble_eq_true rfl), vA, n_W, er_v, len_pre 48 rfl, al_v (by exact Nat.le_of_ble_eq_true rfl), vA, n_Q, er_v, len_pre 54 rfl, al_v (by exact Nat.le_of_ble_eq_true rfl), vA, n_B, er_v, len_pre 56 rfl, al_v (by exact Nat.le_of_ble_eq_true rfl), List.append_assoc]
  rfl
