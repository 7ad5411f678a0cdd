/-! The reference, made. -/
def m1_ : aM := ((z_ 8, z_ 8, z_ 8, z_ 8, 0, 0, 0), (z_ 6, z_ 6), (z_ 8, z_ 8, 0), (z_ 60, 0), (zR 60, zR 60, zR 60, 0), (z_ 160, fun _ => false, 0, false), (zR 8, z_ 27, zR 8, zR 501, fun _ => false, fun _ => 0, fun _ => 0, 0, 0, 0, 0, 0))
def mM_ (me mi : List Nat) : aM := ((z_ 8, me, z_ 8, z_ 8, 0, 9, 0), (mi, z_ 6), m1_.2.2)
def m0_ : aM := mM_ (List.replicate 8 3) (List.replicate 6 1)
theorem n_M (pre : pH) : cl pg 106 [.ref pre.length] (pre ++ [.inr (9, [.null, .null, .null, .null, .int 0, .int 0, .int 0, .null, .null, .null, .null, .int 0, .null, .int 0, .null, .null, .null, .int 0, .null, .null, .int 0, .int 0, .int 0, .int 0, .int 0, .null, .null, .null, .null, .null, .null, .null, .int 0, .int 0])]) = q_v (pre ++ cM pre.length m0_) := by
  have e0 : pre ++ [(.inr (9, [.null, .null, .null, .null, .int 0, .int 0, .int 0, .null, .null, .null, .null, .int 0, .null, .int 0, .null, .null, .null, .int 0, .null, .null, .int 0, .int 0, .int 0, .int 0, .int 0, .null, .null, .null, .null, .null, .null, .null, .int 0, .int 0]) : pE)] = (pre ++ [.inr (9, [.null, .null, .null, .null, .int 0, .int 0, .int 0, .null, .null, .null, .null, .int 0, .null, .int 0, .null, .null, .null, .int 0, .null, .null, .int 0, .int 0, .int 0, .int 0, .int 0, .null, .null, .null, .null, .null, .null, .null, .int 0, .int 0])]) ++ [] := (List.append_nil _).symm
  rw [E106, B106_0, e0, cl8, cl6, cl60, cl27, cl501, cl256, cl441, cl160, cl2, new_Z, new_Z, new_L, new_I, new_I, new_I, new_I, new_I, new_I]
  rw [al_v (by exact Nat.le_of_ble_eq_true rfl), len_pre 0 rfl, al_v (by exact Nat.le_of_ble_eq_true rfl), len_pre 1 rfl, al_v (by exact Nat.le_of_ble_eq_true rfl), len_pre 2 rfl, al_v (by exact Nat.le_of_ble_eq_true rfl), len_pre 3 rfl, al_v (by exact Nat.le_of_ble_eq_true rfl), len_pre 4 rfl, al_v (by exact Nat.le_of_ble_eq_true rfl), len_pre 5 rfl, al_v (by exact Nat.le_of_ble_eq_true rfl), len_pre 6 rfl, al_v (by exact Nat.le_of_ble_eq_true rfl), len_pre 7 rfl, al_v (by exact Nat.le_of_ble_eq_true rfl), len_pre 8 rfl, al_v (by exact Nat.le_of_ble_eq_true rfl), len_pre 9 rfl, al_v (by exact Nat.le_of_ble_eq_true rfl), len_pre 10 rfl, al_v (by exact Nat.le_of_ble_eq_true rfl), len_pre 11 rfl, al_v (by exact Nat.le_of_ble_eq_true rfl), len_pre 12 rfl, al_v (by exact Nat.le_of_ble_eq_true rfl), len_pre 13 rfl, al_v (by exact Nat.le_of_ble_eq_true rfl), len_pre 14 rfl, al_v (by exact Nat.le_of_ble_eq_true rfl), len_pre 15 rfl, al_v (by exact Nat.le_of_ble_eq_true rfl), len_pre 16 rfl, al_v (by exact Nat.le_of_ble_eq_true rfl), len_pre 17 rfl, al_v (by exact Nat.le_of_ble_eq_true rfl), len_pre 18 rfl, al_v (by exact Nat.le_of_ble_eq_true rfl), len_pre 19 rfl, al_v (by exact Nat.le_of_ble_eq_true rfl), len_pre 20 rfl]
  have hx : iM (pre ++ cM pre.length m1_) pre.length m1_ := isAt_pre _ _
  refine Eq.trans (b := qp_v (pre ++ cM pre.length m1_) pre.length 9 5 (.int (nI 9)) (fun hp22 => dn pg 106 91 [some (.ref pre.length), some (.int (nI 0))] [] hp22)) ?_ ?_
  · rw [List.append_assoc]
    rfl
  have p5 : qp_v (pre ++ cM pre.length m1_) pre.length 9 5 (.int (nI 9)) (fun hp22 => dn pg 106 91 [some (.ref pre.length), some (.int (nI 0))] [] hp22) = dn pg 106 91 [some (.ref pre.length), some (.int (nI 0))] [] (sM (pre ++ cM pre.length m1_) pre.length (mM_ (z_ 8) (z_ 6))) := pM_5 hx 9 _
  rw [p5]
  have kmi : ∀ k i, i + k = 6 → dn pg 106 103 [some (.ref pre.length), some (.int (nI i))] [] (sM (pre ++ cM pre.length m1_) pre.length (mM_ (List.replicate 8 3) (cpL (z_ 6) (List.replicate 6 1) i))) = q_v (pre ++ cM pre.length m0_) := by
    intro k
    induction k with
    | zero =>
      intro i hi
      have : i = 6 := by omega
      subst this
      rw [B106_103, if_pos (by decide), cpL_n (n := 6) rfl rfl]
      show q_v (wr (pre ++ cM pre.length m1_) pre.length (cM pre.length m0_)) = _
      rw [wr_pre _ _ _ rfl]
    | succ k ih =>
      intro i hi
      have h6 : i < 6 := by omega
      have hc := cpL_set (xs := z_ 6) (ys := List.replicate 6 1) (n := 6) (k := i) rfl rfl h6
      rw [rep_get h6] at hc
      unfold mM_
      rw [B106_103, if_neg (nI_ge h6 (by omega)), gM_7s hx, wM_mis hx h6 (cpL_len (n := 6) rfl rfl (by omega)), hc, nI_add]
      exact ih (i + 1) (by omega)
  have kme : ∀ k i, i + k = 8 → dn pg 106 91 [some (.ref pre.length), some (.int (nI i))] [] (sM (pre ++ cM pre.length m1_) pre.length (mM_ (cpL (z_ 8) (List.replicate 8 3) i) (z_ 6))) = q_v (pre ++ cM pre.length m0_) := by
    intro k
    induction k with
    | zero =>
      intro i hi
      have : i = 8 := by omega
      subst this
      rw [B106_91, if_pos (by decide), cpL_n (n := 8) rfl rfl]
      exact kmi 6 0 rfl
    | succ k ih =>
      intro i hi
      have h8 : i < 8 := by omega
      have hc := cpL_set (xs := z_ 8) (ys := List.replicate 8 3) (n := 8) (k := i) rfl rfl h8
      rw [rep_get h8] at hc
      unfold mM_
      rw [B106_91, if_neg (nI_ge h8 (by omega)), gM_1s hx, wM_ms hx h8 (cpL_len (n := 8) rfl rfl (by omega)), hc, nI_add]
      exact ih (i + 1) (by omega)
  exact kme 8 0 rfl
/-- at the start all is alike -/
theorem z8_ : ∀ i, i < 8 → (z_ 8).getD i 0 = 0 := fun i _ => z_get 8 i
theorem okw0 : okW w0_ := by
  refine ⟨⟨rfl, rfl, rfl, rfl⟩, fun i hi => ?_, by decide, by decide, by decide⟩
  show (z_ 8).getD i 0 < 4 ∧ (List.replicate 8 3).getD i 0 < 10 ∧ (z_ 8).getD i 0 < 10 ∧ (z_ 8).getD i 0 < 256
  rw [z_get, rep_get hi]
  omega
theorem okc0 : okC c0_ := by
  refine ⟨⟨rfl, rfl⟩, fun i hi => ?_⟩
  show (List.replicate 6 1).getD i 0 < 10 ∧ (z_ 6).getD i 0 < 100
  rw [z_get, rep_get hi]
  omega
theorem oks0 : okS s0_ := by
  refine ⟨rfl, fun i hi => ?_, by decide, by decide⟩
  show (z_ 8).getD i 0 < 61
  rw [z_get]
  omega
theorem okn0 : okN n0_ := ⟨okw0, okc0, oks0⟩
theorem Rel_0 : Rel x0_ m0_ := by
  refine ⟨⟨okn0, okn0, okn0, ⟨rfl, by decide, fun i hi => absurd hi (Nat.not_lt_zero _)⟩, okw0, okw0, rfl⟩, ⟨?_, rfl, rfl, ⟨rfl, fun i hi => absurd hi (Nat.not_lt_zero _)⟩, ⟨rfl, rfl, by decide, fun i hi => ?_, fun i hi => ?_⟩⟩, ⟨rfl, rfl, fun i hi => absurd hi (Nat.not_lt_zero _)⟩, ⟨rfl, rfl⟩, ⟨rfl, fun q => (by cases q)⟩, ⟨rfl, fun q => (by cases q)⟩⟩
  · intro i j hi hj
    show hs ((z_ 8).getD i 0) j = hs ((z_ 8).getD j 0) i
    rw [z_get, z_get, hs_0, hs_0]
  · show (z_ 8).getD i 0 < 61
    rw [z_get]
    omega
  · show (z_ 8).getD i 0 < 2
    rw [z_get]
    omega
