/-! Stretches of the code as equations; printed by wip/whole/gen_dn.py. -/
theorem B0_0 {o0 : Nat} {hp : pH} : dn pg 0 0 [some (.ref o0)] [] hp = qv (hp ++ [Sum.inr (6, [.null, .null, .null, .int 0])]) hp.length 6 (qr_v (cl pg 1 [.ref hp.length] (hp ++ [Sum.inr (6, [.null, .null, .null, .int 0])])) (fun hp1 => qp_v hp1 o0 8 0 (.ref hp.length) (fun hp2 => qv (hp2 ++ [Sum.inr (6, [.null, .null, .null, .int 0])]) hp2.length 6 (qr_v (cl pg 1 [.ref hp2.length] (hp2 ++ [Sum.inr (6, [.null, .null, .null, .int 0])])) (fun hp3 => qp_v hp3 o0 8 1 (.ref hp2.length) (fun hp4 => qv (hp4 ++ [Sum.inr (6, [.null, .null, .null, .int 0])]) hp4.length 6 (qr_v (cl pg 1 [.ref hp4.length] (hp4 ++ [Sum.inr (6, [.null, .null, .null, .int 0])])) (fun hp5 => qp_v hp5 o0 8 2 (.ref hp4.length) (fun hp6 => qv (hp6 ++ [Sum.inr (2, [.null, .null, .null, .null, .int 0, .int 0])]) hp6.length 2 (qr_v (cl pg 5 [.ref hp6.length] (hp6 ++ [Sum.inr (2, [.null, .null, .null, .null, .int 0, .int 0])])) (fun hp7 => qp_v hp7 o0 8 3 (.ref hp6.length) (fun hp8 => qv (hp8 ++ [Sum.inr (1, [.null, .int 0, .int 0, .int 0, .int 0, .int 0])]) hp8.length 1 (qr_v (cl pg 6 [.ref hp8.length] (hp8 ++ [Sum.inr (1, [.null, .int 0, .int 0, .int 0, .int 0, .int 0])])) (fun hp9 => qp_v hp9 o0 8 4 (.ref hp8.length) (fun hp10 => qv (hp10 ++ [Sum.inr (7, [.null, .null, .null, .null, .null, .int 0, .int 0, .int 0])]) hp10.length 7 (qr_v (cl pg 2 [.ref hp10.length] (hp10 ++ [Sum.inr (7, [.null, .null, .null, .null, .null, .int 0, .int 0, .int 0])])) (fun hp11 => qp_v hp11 o0 8 5 (.ref hp10.length) (fun hp12 => qv (hp12 ++ [Sum.inr (3, [.null, .int 0])]) hp12.length 3 (qr_v (cl pg 7 [.ref hp12.length] (hp12 ++ [Sum.inr (3, [.null, .int 0])])) (fun hp13 => qp_v hp13 o0 8 6 (.ref hp12.length) (fun hp14 => qv (hp14 ++ [Sum.inr (5, [.null, .null])]) hp14.length 5 (qr_v (cl pg 8 [.ref hp14.length] (hp14 ++ [Sum.inr (5, [.null, .null])])) (fun hp15 => qp_v hp15 o0 8 7 (.ref hp14.length) (fun hp16 => q_v hp16)))))))))))))))))))))))) := by
  refine (dc_aload (a := 0) (i := 0) rfl rfl).trans ?_
  refine (dn_objinit (i := 1) rfl (Nat.le_of_ble_eq_true rfl) _).trans ?_
  refine (dc_aload (a := 0) (i := 2) rfl rfl).trans ?_
  refine (dc_new (ci := 6) (fs := [.null, .null, .null, .int 0]) (i := 3) rfl).trans ?_
  refine (dc_dupA (i := 4) rfl _).trans ?_
  refine (dn_cV_v (i := 5) (y := 1) (na := 1) (ci := 6) rfl (pa_1 _ _) (Nat.le_of_ble_eq_true rfl) (Nat.le_of_ble_eq_true rfl)).trans (congrArg (fun F => qv _ _ _ (qr_v _ F)) (funext fun hp1 => ?_))
  refine (dn_putA (ci := 8) (j := 0) (i := 6) rfl _ _).trans (congrArg (qp_v _ _ _ _ _) (funext fun hp2 => ?_))
  refine (dc_aload (a := 0) (i := 7) rfl rfl).trans ?_
  refine (dc_new (ci := 6) (fs := [.null, .null, .null, .int 0]) (i := 8) rfl).trans ?_
  refine (dc_dupA (i := 9) rfl _).trans ?_
  refine (dn_cV_v (i := 10) (y := 1) (na := 1) (ci := 6) rfl (pa_1 _ _) (Nat.le_of_ble_eq_true rfl) (Nat.le_of_ble_eq_true rfl)).trans (congrArg (fun F => qv _ _ _ (qr_v _ F)) (funext fun hp3 => ?_))
  refine (dn_putA (ci := 8) (j := 1) (i := 11) rfl _ _).trans (congrArg (qp_v _ _ _ _ _) (funext fun hp4 => ?_))
  refine (dc_aload (a := 0) (i := 12) rfl rfl).trans ?_
  refine (dc_new (ci := 6) (fs := [.null, .null, .null, .int 0]) (i := 13) rfl).trans ?_
  refine (dc_dupA (i := 14) rfl _).trans ?_
  refine (dn_cV_v (i := 15) (y := 1) (na := 1) (ci := 6) rfl (pa_1 _ _) (Nat.le_of_ble_eq_true rfl) (Nat.le_of_ble_eq_true rfl)).trans (congrArg (fun F => qv _ _ _ (qr_v _ F)) (funext fun hp5 => ?_))
  refine (dn_putA (ci := 8) (j := 2) (i := 16) rfl _ _).trans (congrArg (qp_v _ _ _ _ _) (funext fun hp6 => ?_))
  refine (dc_aload (a := 0) (i := 17) rfl rfl).trans ?_
  refine (dc_new (ci := 2) (fs := [.null, .null, .null, .null, .int 0, .int 0]) (i := 18) rfl).trans ?_
  refine (dc_dupA (i := 19) rfl _).trans ?_
  refine (dn_cV_v (i := 20) (y := 5) (na := 1) (ci := 2) rfl (pa_1 _ _) (Nat.le_of_ble_eq_true rfl) (Nat.le_of_ble_eq_true rfl)).trans (congrArg (fun F => qv _ _ _ (qr_v _ F)) (funext fun hp7 => ?_))
  refine (dn_putA (ci := 8) (j := 3) (i := 21) rfl _ _).trans (congrArg (qp_v _ _ _ _ _) (funext fun hp8 => ?_))
  refine (dc_aload (a := 0) (i := 22) rfl rfl).trans ?_
  refine (dc_new (ci := 1) (fs := [.null, .int 0, .int 0, .int 0, .int 0, .int 0]) (i := 23) rfl).trans ?_
  refine (dc_dupA (i := 24) rfl _).trans ?_
  refine (dn_cV_v (i := 25) (y := 6) (na := 1) (ci := 1) rfl (pa_1 _ _) (Nat.le_of_ble_eq_true rfl) (Nat.le_of_ble_eq_true rfl)).trans (congrArg (fun F => qv _ _ _ (qr_v _ F)) (funext fun hp9 => ?_))
  refine (dn_putA (ci := 8) (j := 4) (i := 26) rfl _ _).trans (congrArg (qp_v _ _ _ _ _) (funext fun hp10 => ?_))
  refine (dc_aload (a := 0) (i := 27) rfl rfl).trans ?_
  refine (dc_new (ci := 7) (fs := [.null, .null, .null, .null, .null, .int 0, .int 0, .int 0]) (i := 28) rfl).trans ?_
  refine (dc_dupA (i := 29) rfl _).trans ?_
  refine (dn_cV_v (i := 30) (y := 2) (na := 1) (ci := 7) rfl (pa_1 _ _) (Nat.le_of_ble_eq_true rfl) (Nat.le_of_ble_eq_true rfl)).trans (congrArg (fun F => qv _ _ _ (qr_v _ F)) (funext fun hp11 => ?_))
  refine (dn_putA (ci := 8) (j := 5) (i := 31) rfl _ _).trans (congrArg (qp_v _ _ _ _ _) (funext fun hp12 => ?_))
  refine (dc_aload (a := 0) (i := 32) rfl rfl).trans ?_
  refine (dc_new (ci := 3) (fs := [.null, .int 0]) (i := 33) rfl).trans ?_
  refine (dc_dupA (i := 34) rfl _).trans ?_
  refine (dn_cV_v (i := 35) (y := 7) (na := 1) (ci := 3) rfl (pa_1 _ _) (Nat.le_of_ble_eq_true rfl) (Nat.le_of_ble_eq_true rfl)).trans (congrArg (fun F => qv _ _ _ (qr_v _ F)) (funext fun hp13 => ?_))
  refine (dn_putA (ci := 8) (j := 6) (i := 36) rfl _ _).trans (congrArg (qp_v _ _ _ _ _) (funext fun hp14 => ?_))
  refine (dc_aload (a := 0) (i := 37) rfl rfl).trans ?_
  refine (dc_new (ci := 5) (fs := [.null, .null]) (i := 38) rfl).trans ?_
  refine (dc_dupA (i := 39) rfl _).trans ?_
  refine (dn_cV_v (i := 40) (y := 8) (na := 1) (ci := 5) rfl (pa_1 _ _) (Nat.le_of_ble_eq_true rfl) (Nat.le_of_ble_eq_true rfl)).trans (congrArg (fun F => qv _ _ _ (qr_v _ F)) (funext fun hp15 => ?_))
  refine (dn_putA (ci := 8) (j := 7) (i := 41) rfl _ _).trans (congrArg (qp_v _ _ _ _ _) (funext fun hp16 => ?_))
  exact dc_return (i := 42) rfl
theorem B1_0 {o0 : Nat} {hp : pH} : dn pg 1 0 [some (.ref o0)] [] hp = qv (hp ++ [Sum.inr (7, [.null, .null, .null, .null, .null, .int 0, .int 0, .int 0])]) hp.length 7 (qr_v (cl pg 2 [.ref hp.length] (hp ++ [Sum.inr (7, [.null, .null, .null, .null, .null, .int 0, .int 0, .int 0])])) (fun hp1 => qp_v hp1 o0 6 0 (.ref hp.length) (fun hp2 => qv (hp2 ++ [Sum.inr (0, [.null, .null])]) hp2.length 0 (qr_v (cl pg 3 [.ref hp2.length] (hp2 ++ [Sum.inr (0, [.null, .null])])) (fun hp3 => qp_v hp3 o0 6 1 (.ref hp2.length) (fun hp4 => qv (hp4 ++ [Sum.inr (4, [.null, .int 0, .int 0])]) hp4.length 4 (qr_v (cl pg 4 [.ref hp4.length] (hp4 ++ [Sum.inr (4, [.null, .int 0, .int 0])])) (fun hp5 => qp_v hp5 o0 6 2 (.ref hp4.length) (fun hp6 => q_v hp6))))))))) := by
  refine (dc_aload (a := 0) (i := 0) rfl rfl).trans ?_
  refine (dn_objinit (i := 1) rfl (Nat.le_of_ble_eq_true rfl) _).trans ?_
  refine (dc_aload (a := 0) (i := 2) rfl rfl).trans ?_
  refine (dc_new (ci := 7) (fs := [.null, .null, .null, .null, .null, .int 0, .int 0, .int 0]) (i := 3) rfl).trans ?_
  refine (dc_dupA (i := 4) rfl _).trans ?_
  refine (dn_cV_v (i := 5) (y := 2) (na := 1) (ci := 7) rfl (pa_1 _ _) (Nat.le_of_ble_eq_true rfl) (Nat.le_of_ble_eq_true rfl)).trans (congrArg (fun F => qv _ _ _ (qr_v _ F)) (funext fun hp1 => ?_))
  refine (dn_putA (ci := 6) (j := 0) (i := 6) rfl _ _).trans (congrArg (qp_v _ _ _ _ _) (funext fun hp2 => ?_))
  refine (dc_aload (a := 0) (i := 7) rfl rfl).trans ?_
  refine (dc_new (ci := 0) (fs := [.null, .null]) (i := 8) rfl).trans ?_
  refine (dc_dupA (i := 9) rfl _).trans ?_
  refine (dn_cV_v (i := 10) (y := 3) (na := 1) (ci := 0) rfl (pa_1 _ _) (Nat.le_of_ble_eq_true rfl) (Nat.le_of_ble_eq_true rfl)).trans (congrArg (fun F => qv _ _ _ (qr_v _ F)) (funext fun hp3 => ?_))
  refine (dn_putA (ci := 6) (j := 1) (i := 11) rfl _ _).trans (congrArg (qp_v _ _ _ _ _) (funext fun hp4 => ?_))
  refine (dc_aload (a := 0) (i := 12) rfl rfl).trans ?_
  refine (dc_new (ci := 4) (fs := [.null, .int 0, .int 0]) (i := 13) rfl).trans ?_
  refine (dc_dupA (i := 14) rfl _).trans ?_
  refine (dn_cV_v (i := 15) (y := 4) (na := 1) (ci := 4) rfl (pa_1 _ _) (Nat.le_of_ble_eq_true rfl) (Nat.le_of_ble_eq_true rfl)).trans (congrArg (fun F => qv _ _ _ (qr_v _ F)) (funext fun hp5 => ?_))
  refine (dn_putA (ci := 6) (j := 2) (i := 16) rfl _ _).trans (congrArg (qp_v _ _ _ _ _) (funext fun hp6 => ?_))
  exact dc_return (i := 17) rfl
theorem B2_0 {o0 : Nat} {v1 : pO} {hp : pH} : dn pg 2 0 [some (.ref o0), v1] [] hp = qp_v (hp ++ [pm_new 0 (nI 8 : Int32).toNatClampNeg]) o0 7 0 (.ref hp.length) (fun hp1 => qp_v (hp1 ++ [pm_new 0 (nI 8 : Int32).toNatClampNeg]) o0 7 1 (.ref hp1.length) (fun hp2 => qp_v (hp2 ++ [pm_new 0 (nI 8 : Int32).toNatClampNeg]) o0 7 2 (.ref hp2.length) (fun hp3 => qp_v (hp3 ++ [pm_new 0 (nI 8 : Int32).toNatClampNeg]) o0 7 3 (.ref hp3.length) (fun hp4 => qp_v (hp4 ++ [pm_new 0 (nI 8 : Int32).toNatClampNeg]) o0 7 4 (.ref hp4.length) (fun hp5 => dn pg 2 24 [some (.ref o0), some (.int (nI 0))] [] hp5))))) := by
  refine (dc_aload (a := 0) (i := 0) rfl rfl).trans ?_
  refine (dn_objinit (i := 1) rfl (Nat.le_of_ble_eq_true rfl) _).trans ?_
  refine (dc_aload (a := 0) (i := 2) rfl rfl).trans ?_
  refine (dc_ic (x := 8) (i := 3) rfl).trans ?_
  refine (dn_newa (t := 0) (i := 4) rfl (by decide)).trans ?_
  refine (dn_putA (ci := 7) (j := 0) (i := 5) rfl _ _).trans (congrArg (qp_v _ _ _ _ _) (funext fun hp1 => ?_))
  refine (dc_aload (a := 0) (i := 6) rfl rfl).trans ?_
  refine (dc_ic (x := 8) (i := 7) rfl).trans ?_
  refine (dn_newa (t := 0) (i := 8) rfl (by decide)).trans ?_
  refine (dn_putA (ci := 7) (j := 1) (i := 9) rfl _ _).trans (congrArg (qp_v _ _ _ _ _) (funext fun hp2 => ?_))
  refine (dc_aload (a := 0) (i := 10) rfl rfl).trans ?_
  refine (dc_ic (x := 8) (i := 11) rfl).trans ?_
  refine (dn_newa (t := 0) (i := 12) rfl (by decide)).trans ?_
  refine (dn_putA (ci := 7) (j := 2) (i := 13) rfl _ _).trans (congrArg (qp_v _ _ _ _ _) (funext fun hp3 => ?_))
  refine (dc_aload (a := 0) (i := 14) rfl rfl).trans ?_
  refine (dc_ic (x := 8) (i := 15) rfl).trans ?_
  refine (dn_newa (t := 0) (i := 16) rfl (by decide)).trans ?_
  refine (dn_putA (ci := 7) (j := 3) (i := 17) rfl _ _).trans (congrArg (qp_v _ _ _ _ _) (funext fun hp4 => ?_))
  refine (dc_aload (a := 0) (i := 18) rfl rfl).trans ?_
  refine (dc_ic (x := 8) (i := 19) rfl).trans ?_
  refine (dn_newa (t := 0) (i := 20) rfl (by decide)).trans ?_
  refine (dn_putA (ci := 7) (j := 4) (i := 21) rfl _ _).trans (congrArg (qp_v _ _ _ _ _) (funext fun hp5 => ?_))
  refine (dc_ic (x := 0) (i := 22) rfl).trans ?_
  refine (dn_istore (a := 1) (i := 23) rfl rfl _).trans ?_
  exact rfl
theorem B2_24 {o0 : Nat} {x1 : Int32} {hp : pH} : dn pg 2 24 [some (.ref o0), some (.int x1)] [] hp = if (nI 8) ≤ x1 then qp_v hp o0 7 6 (.int (nI 9)) (fun hp1 => q_v hp1) else qg_a hp o0 7 1 (fun r1 => qx_i hp r1 0 x1 (nI 3) (fun hp2 => dn pg 2 24 [some (.ref o0), some (.int (x1 + nI 1))] [] hp2)) := by
  refine (dc_iload (a := 1) (i := 24) rfl rfl).trans ?_
  refine (dc_ic (x := 8) (i := 25) rfl).trans ?_
  refine (dn_icmp (c := (fun x y => decide (y ≤ x))) (t := 34) (i := 26) rfl _ _).trans (q_ite ?_ ?_)
  · refine (dc_aload (a := 0) (i := 34) rfl rfl).trans ?_
    refine (dc_ic (x := 9) (i := 35) rfl).trans ?_
    refine (dn_putI (ci := 7) (j := 6) (i := 36) rfl _ _).trans (congrArg (qp_v _ _ _ _ _) (funext fun hp1 => ?_))
    exact dc_return (i := 37) rfl
  · refine (dc_aload (a := 0) (i := 27) rfl rfl).trans ?_
    refine (dn_getA (ci := 7) (j := 1) (i := 28) rfl _).trans (congrArg (qg_a _ _ _ _) (funext fun r1 => ?_))
    refine (dc_iload (a := 1) (i := 29) rfl rfl).trans ?_
    refine (dc_ic (x := 3) (i := 30) rfl).trans ?_
    refine (dn_iast (i := 31) rfl _ _ _).trans (congrArg (qx_i _ _ _ _ _) (funext fun hp2 => ?_))
    refine (dn_iinc (a := 1) (d := 1) (i := 32) rfl rfl rfl).trans ?_
    refine (dc_goto (t := 24) (i := 33) rfl).trans ?_
    exact rfl
theorem B3_0 {o0 : Nat} {v1 : pO} {hp : pH} : dn pg 3 0 [some (.ref o0), v1] [] hp = qp_v (hp ++ [pm_new 0 (nI 6 : Int32).toNatClampNeg]) o0 0 0 (.ref hp.length) (fun hp1 => qp_v (hp1 ++ [pm_new 0 (nI 6 : Int32).toNatClampNeg]) o0 0 1 (.ref hp1.length) (fun hp2 => dn pg 3 12 [some (.ref o0), some (.int (nI 0))] [] hp2)) := by
  refine (dc_aload (a := 0) (i := 0) rfl rfl).trans ?_
  refine (dn_objinit (i := 1) rfl (Nat.le_of_ble_eq_true rfl) _).trans ?_
  refine (dc_aload (a := 0) (i := 2) rfl rfl).trans ?_
  refine (dc_ic (x := 6) (i := 3) rfl).trans ?_
  refine (dn_newa (t := 0) (i := 4) rfl (by decide)).trans ?_
  refine (dn_putA (ci := 0) (j := 0) (i := 5) rfl _ _).trans (congrArg (qp_v _ _ _ _ _) (funext fun hp1 => ?_))
  refine (dc_aload (a := 0) (i := 6) rfl rfl).trans ?_
  refine (dc_ic (x := 6) (i := 7) rfl).trans ?_
  refine (dn_newa (t := 0) (i := 8) rfl (by decide)).trans ?_
  refine (dn_putA (ci := 0) (j := 1) (i := 9) rfl _ _).trans (congrArg (qp_v _ _ _ _ _) (funext fun hp2 => ?_))
  refine (dc_ic (x := 0) (i := 10) rfl).trans ?_
  refine (dn_istore (a := 1) (i := 11) rfl rfl _).trans ?_
  exact rfl
theorem B3_12 {o0 : Nat} {x1 : Int32} {hp : pH} : dn pg 3 12 [some (.ref o0), some (.int x1)] [] hp = if (nI 6) ≤ x1 then q_v hp else qg_a hp o0 0 0 (fun r1 => qx_i hp r1 0 x1 (nI 1) (fun hp1 => dn pg 3 12 [some (.ref o0), some (.int (x1 + nI 1))] [] hp1)) := by
  refine (dc_iload (a := 1) (i := 12) rfl rfl).trans ?_
  refine (dc_ic (x := 6) (i := 13) rfl).trans ?_
  refine (dn_icmp (c := (fun x y => decide (y ≤ x))) (t := 22) (i := 14) rfl _ _).trans (q_ite ?_ ?_)
  · exact dc_return (i := 22) rfl
  · refine (dc_aload (a := 0) (i := 15) rfl rfl).trans ?_
    refine (dn_getA (ci := 0) (j := 0) (i := 16) rfl _).trans (congrArg (qg_a _ _ _ _) (funext fun r1 => ?_))
    refine (dc_iload (a := 1) (i := 17) rfl rfl).trans ?_
    refine (dc_ic (x := 1) (i := 18) rfl).trans ?_
    refine (dn_iast (i := 19) rfl _ _ _).trans (congrArg (qx_i _ _ _ _ _) (funext fun hp1 => ?_))
    refine (dn_iinc (a := 1) (d := 1) (i := 20) rfl rfl rfl).trans ?_
    refine (dc_goto (t := 12) (i := 21) rfl).trans ?_
    exact rfl
theorem B4_0 {o0 : Nat} {hp : pH} : dn pg 4 0 [some (.ref o0)] [] hp = qp_v (hp ++ [pm_new 0 (nI 8 : Int32).toNatClampNeg]) o0 4 0 (.ref hp.length) (fun hp1 => q_v hp1) := by
  refine (dc_aload (a := 0) (i := 0) rfl rfl).trans ?_
  refine (dn_objinit (i := 1) rfl (Nat.le_of_ble_eq_true rfl) _).trans ?_
  refine (dc_aload (a := 0) (i := 2) rfl rfl).trans ?_
  refine (dc_ic (x := 8) (i := 3) rfl).trans ?_
  refine (dn_newa (t := 0) (i := 4) rfl (by decide)).trans ?_
  refine (dn_putA (ci := 4) (j := 0) (i := 5) rfl _ _).trans (congrArg (qp_v _ _ _ _ _) (funext fun hp1 => ?_))
  exact dc_return (i := 6) rfl
theorem B5_0 {o0 : Nat} {hp : pH} : dn pg 5 0 [some (.ref o0)] [] hp = qp_v (hp ++ [pm_new 0 (nI 60 : Int32).toNatClampNeg]) o0 2 0 (.ref hp.length) (fun hp1 => qp_v (hp1 ++ [pm_new 0 (nI 60 : Int32).toNatClampNeg]) o0 2 1 (.ref hp1.length) (fun hp2 => qp_v (hp2 ++ [pm_new 0 (nI 60 : Int32).toNatClampNeg]) o0 2 2 (.ref hp2.length) (fun hp3 => qp_v (hp3 ++ [pm_new 0 (nI 60 : Int32).toNatClampNeg]) o0 2 3 (.ref hp3.length) (fun hp4 => q_v hp4)))) := by
  refine (dc_aload (a := 0) (i := 0) rfl rfl).trans ?_
  refine (dn_objinit (i := 1) rfl (Nat.le_of_ble_eq_true rfl) _).trans ?_
  refine (dc_aload (a := 0) (i := 2) rfl rfl).trans ?_
  refine (dc_ic (x := 60) (i := 3) rfl).trans ?_
  refine (dn_newa (t := 0) (i := 4) rfl (by decide)).trans ?_
  refine (dn_putA (ci := 2) (j := 0) (i := 5) rfl _ _).trans (congrArg (qp_v _ _ _ _ _) (funext fun hp1 => ?_))
  refine (dc_aload (a := 0) (i := 6) rfl rfl).trans ?_
  refine (dc_ic (x := 60) (i := 7) rfl).trans ?_
  refine (dn_newa (t := 0) (i := 8) rfl (by decide)).trans ?_
  refine (dn_putA (ci := 2) (j := 1) (i := 9) rfl _ _).trans (congrArg (qp_v _ _ _ _ _) (funext fun hp2 => ?_))
  refine (dc_aload (a := 0) (i := 10) rfl rfl).trans ?_
  refine (dc_ic (x := 60) (i := 11) rfl).trans ?_
  refine (dn_newa (t := 0) (i := 12) rfl (by decide)).trans ?_
  refine (dn_putA (ci := 2) (j := 2) (i := 13) rfl _ _).trans (congrArg (qp_v _ _ _ _ _) (funext fun hp3 => ?_))
  refine (dc_aload (a := 0) (i := 14) rfl rfl).trans ?_
  refine (dc_ic (x := 60) (i := 15) rfl).trans ?_
  refine (dn_newa (t := 0) (i := 16) rfl (by decide)).trans ?_
  refine (dn_putA (ci := 2) (j := 3) (i := 17) rfl _ _).trans (congrArg (qp_v _ _ _ _ _) (funext fun hp4 => ?_))
  exact dc_return (i := 18) rfl
theorem B6_0 {o0 : Nat} {hp : pH} : dn pg 6 0 [some (.ref o0)] [] hp = qv (hp ++ [Sum.inr (7, [.null, .null, .null, .null, .null, .int 0, .int 0, .int 0])]) hp.length 7 (qr_v (cl pg 2 [.ref hp.length] (hp ++ [Sum.inr (7, [.null, .null, .null, .null, .null, .int 0, .int 0, .int 0])])) (fun hp1 => qp_v hp1 o0 1 0 (.ref hp.length) (fun hp2 => q_v hp2))) := by
  refine (dc_aload (a := 0) (i := 0) rfl rfl).trans ?_
  refine (dn_objinit (i := 1) rfl (Nat.le_of_ble_eq_true rfl) _).trans ?_
  refine (dc_aload (a := 0) (i := 2) rfl rfl).trans ?_
  refine (dc_new (ci := 7) (fs := [.null, .null, .null, .null, .null, .int 0, .int 0, .int 0]) (i := 3) rfl).trans ?_
  refine (dc_dupA (i := 4) rfl _).trans ?_
  refine (dn_cV_v (i := 5) (y := 2) (na := 1) (ci := 7) rfl (pa_1 _ _) (Nat.le_of_ble_eq_true rfl) (Nat.le_of_ble_eq_true rfl)).trans (congrArg (fun F => qv _ _ _ (qr_v _ F)) (funext fun hp1 => ?_))
  refine (dn_putA (ci := 1) (j := 0) (i := 6) rfl _ _).trans (congrArg (qp_v _ _ _ _ _) (funext fun hp2 => ?_))
  exact dc_return (i := 7) rfl
theorem B7_0 {o0 : Nat} {hp : pH} : dn pg 7 0 [some (.ref o0)] [] hp = qp_v (hp ++ [pm_new 0 (nI 112 : Int32).toNatClampNeg]) o0 3 0 (.ref hp.length) (fun hp1 => q_v hp1) := by
  refine (dc_aload (a := 0) (i := 0) rfl rfl).trans ?_
  refine (dn_objinit (i := 1) rfl (Nat.le_of_ble_eq_true rfl) _).trans ?_
  refine (dc_aload (a := 0) (i := 2) rfl rfl).trans ?_
  refine (dc_ic (x := 112) (i := 3) rfl).trans ?_
  refine (dn_newa (t := 0) (i := 4) rfl (by decide)).trans ?_
  refine (dn_putA (ci := 3) (j := 0) (i := 5) rfl _ _).trans (congrArg (qp_v _ _ _ _ _) (funext fun hp1 => ?_))
  exact dc_return (i := 6) rfl
theorem B8_0 {o0 : Nat} {hp : pH} : dn pg 8 0 [some (.ref o0)] [] hp = qp_v (hp ++ [pm_new 0 (nI 3 : Int32).toNatClampNeg]) o0 5 0 (.ref hp.length) (fun hp1 => qp_v (hp1 ++ [pm_new 0 (nI 401 : Int32).toNatClampNeg]) o0 5 1 (.ref hp1.length) (fun hp2 => q_v hp2)) := by
  refine (dc_aload (a := 0) (i := 0) rfl rfl).trans ?_
  refine (dn_objinit (i := 1) rfl (Nat.le_of_ble_eq_true rfl) _).trans ?_
  refine (dc_aload (a := 0) (i := 2) rfl rfl).trans ?_
  refine (dc_ic (x := 3) (i := 3) rfl).trans ?_
  refine (dn_newa (t := 0) (i := 4) rfl (by decide)).trans ?_
  refine (dn_putA (ci := 5) (j := 0) (i := 5) rfl _ _).trans (congrArg (qp_v _ _ _ _ _) (funext fun hp1 => ?_))
  refine (dc_aload (a := 0) (i := 6) rfl rfl).trans ?_
  refine (dc_ic (x := 401) (i := 7) rfl).trans ?_
  refine (dn_newa (t := 0) (i := 8) rfl (by decide)).trans ?_
  refine (dn_putA (ci := 5) (j := 1) (i := 9) rfl _ _).trans (congrArg (qp_v _ _ _ _ _) (funext fun hp2 => ?_))
  exact dc_return (i := 10) rfl
theorem B9_0 {o0 : Nat} {x1 : Int32} {x2 : Int32} {x3 : Int32} {x4 : Int32} {x5 : Int32} {v6 : pO} {hp : pH} : dn pg 9 0 [some (.ref o0), some (.int x1), some (.int x2), some (.int x3), some (.int x4), some (.int x5), v6] [] hp = qr_i (cl pg 10 [.int x1] hp) (fun y1 hp1 => if ¬ y1 = nI 0 then qr_i (cl pg 11 [.int x2, .int (nI 0), .int (nI 3)] hp1) (fun y2 hp2 => if y2 = nI 0 then dn pg 9 25 [some (.ref o0), some (.int x1), some (.int x2), some (.int x3), some (.int x4), some (.int x5), v6] [] hp2 else qr_i (cl pg 11 [.int x3, .int (nI 0), .int (nI 1)] hp2) (fun y3 hp3 => if y3 = nI 0 then dn pg 9 25 [some (.ref o0), some (.int x1), some (.int x2), some (.int x3), some (.int x4), some (.int x5), v6] [] hp3 else qr_i (cl pg 11 [.int x4, .int (nI 1), .int (nI 9)] hp3) (fun y4 hp4 => if y4 = nI 0 then dn pg 9 25 [some (.ref o0), some (.int x1), some (.int x2), some (.int x3), some (.int x4), some (.int x5), v6] [] hp4 else qr_i (cl pg 11 [.int x5, .int (nI 0), .int (nI 9)] hp4) (fun y5 hp5 => if ¬ y5 = nI 0 then qg_a hp5 o0 8 0 (fun r6 => qg_a hp5 r6 6 0 (fun r7 => qv hp5 r7 7 (qr_i (cl pg 12 [.ref r7, .int x1] hp5) (fun y8 hp6 => qg_a hp6 o0 8 0 (fun r9 => qg_a hp6 r9 6 0 (fun r10 => qv hp6 r10 7 (qr_v (cl pg 13 [.ref r10, .int x1, .int x2, .int x3, .int x4, .int x5] hp6) (fun hp7 => q_i y8 hp7)))))))) else dn pg 9 25 [some (.ref o0), some (.int x1), some (.int x2), some (.int x3), some (.int x4), some (.int x5), v6] [] hp5)))) else q_i (-1) hp1) := by
  refine (dc_iload (a := 1) (i := 0) rfl rfl).trans ?_
  refine (dn_cS_i (i := 1) (y := 10) (na := 1) rfl (pa_1 _ _) (Nat.le_of_ble_eq_true rfl) (Nat.le_of_ble_eq_true rfl)).trans (congrArg (qr_i _) (funext fun y1 => funext fun hp1 => ?_))
  refine (dn_if (c := (fun x => decide (¬ x = 0))) (t := 5) (i := 2) rfl _).trans (q_ite ?_ ?_)
  · refine (dc_iload (a := 2) (i := 5) rfl rfl).trans ?_
    refine (dc_ic (x := 0) (i := 6) rfl).trans ?_
    refine (dc_ic (x := 3) (i := 7) rfl).trans ?_
    refine (dn_cS_i (i := 8) (y := 11) (na := 3) rfl (pa_3 _ _ _ _) (Nat.le_of_ble_eq_true rfl) (Nat.le_of_ble_eq_true rfl)).trans (congrArg (qr_i _) (funext fun y2 => funext fun hp2 => ?_))
    refine (dn_if (c := (fun x => decide (x = 0))) (t := 25) (i := 9) rfl _).trans (q_ite ?_ ?_)
    · exact rfl
    · refine (dc_iload (a := 3) (i := 10) rfl rfl).trans ?_
      refine (dc_ic (x := 0) (i := 11) rfl).trans ?_
      refine (dc_ic (x := 1) (i := 12) rfl).trans ?_
      refine (dn_cS_i (i := 13) (y := 11) (na := 3) rfl (pa_3 _ _ _ _) (Nat.le_of_ble_eq_true rfl) (Nat.le_of_ble_eq_true rfl)).trans (congrArg (qr_i _) (funext fun y3 => funext fun hp3 => ?_))
      refine (dn_if (c := (fun x => decide (x = 0))) (t := 25) (i := 14) rfl _).trans (q_ite ?_ ?_)
      · exact rfl
      · refine (dc_iload (a := 4) (i := 15) rfl rfl).trans ?_
        refine (dc_ic (x := 1) (i := 16) rfl).trans ?_
        refine (dc_ic (x := 9) (i := 17) rfl).trans ?_
        refine (dn_cS_i (i := 18) (y := 11) (na := 3) rfl (pa_3 _ _ _ _) (Nat.le_of_ble_eq_true rfl) (Nat.le_of_ble_eq_true rfl)).trans (congrArg (qr_i _) (funext fun y4 => funext fun hp4 => ?_))
        refine (dn_if (c := (fun x => decide (x = 0))) (t := 25) (i := 19) rfl _).trans (q_ite ?_ ?_)
        · exact rfl
        · refine (dc_iload (a := 5) (i := 20) rfl rfl).trans ?_
          refine (dc_ic (x := 0) (i := 21) rfl).trans ?_
          refine (dc_ic (x := 9) (i := 22) rfl).trans ?_
          refine (dn_cS_i (i := 23) (y := 11) (na := 3) rfl (pa_3 _ _ _ _) (Nat.le_of_ble_eq_true rfl) (Nat.le_of_ble_eq_true rfl)).trans (congrArg (qr_i _) (funext fun y5 => funext fun hp5 => ?_))
          refine (dn_if (c := (fun x => decide (¬ x = 0))) (t := 27) (i := 24) rfl _).trans (q_ite ?_ ?_)
          · refine (dc_aload (a := 0) (i := 27) rfl rfl).trans ?_
            refine (dn_getA (ci := 8) (j := 0) (i := 28) rfl _).trans (congrArg (qg_a _ _ _ _) (funext fun r6 => ?_))
            refine (dn_getA (ci := 6) (j := 0) (i := 29) rfl _).trans (congrArg (qg_a _ _ _ _) (funext fun r7 => ?_))
            refine (dc_iload (a := 1) (i := 30) rfl rfl).trans ?_
            refine (dn_cV_i (i := 31) (y := 12) (na := 2) (ci := 7) rfl (pa_2 _ _ _) (Nat.le_of_ble_eq_true rfl) (Nat.le_of_ble_eq_true rfl)).trans (congrArg (fun F => qv _ _ _ (qr_i _ F)) (funext fun y8 => funext fun hp6 => ?_))
            refine (dn_istore (a := 6) (i := 32) rfl rfl _).trans ?_
            refine (dc_aload (a := 0) (i := 33) rfl rfl).trans ?_
            refine (dn_getA (ci := 8) (j := 0) (i := 34) rfl _).trans (congrArg (qg_a _ _ _ _) (funext fun r9 => ?_))
            refine (dn_getA (ci := 6) (j := 0) (i := 35) rfl _).trans (congrArg (qg_a _ _ _ _) (funext fun r10 => ?_))
            refine (dc_iload (a := 1) (i := 36) rfl rfl).trans ?_
            refine (dc_iload (a := 2) (i := 37) rfl rfl).trans ?_
            refine (dc_iload (a := 3) (i := 38) rfl rfl).trans ?_
            refine (dc_iload (a := 4) (i := 39) rfl rfl).trans ?_
            refine (dc_iload (a := 5) (i := 40) rfl rfl).trans ?_
            refine (dn_cV_v (i := 41) (y := 13) (na := 6) (ci := 7) rfl (pa_6 _ _ _ _ _ _ _) (Nat.le_of_ble_eq_true rfl) (Nat.le_of_ble_eq_true rfl)).trans (congrArg (fun F => qv _ _ _ (qr_v _ F)) (funext fun hp7 => ?_))
            refine (dc_iload (a := 6) (i := 42) rfl rfl).trans ?_
            exact dc_ireturn (i := 43) rfl _
          · exact rfl
  · refine (dc_ic (x := (-1)) (i := 3) rfl).trans ?_
    exact dc_ireturn (i := 4) rfl _
theorem B9_25 {v0 : pO} {v1 : pO} {v2 : pO} {v3 : pO} {v4 : pO} {v5 : pO} {v6 : pO} {hp : pH} : dn pg 9 25 [v0, v1, v2, v3, v4, v5, v6] [] hp = q_i (-2) hp := by
  refine (dc_ic (x := (-2)) (i := 25) rfl).trans ?_
  exact dc_ireturn (i := 26) rfl _
theorem B10_0 {x0 : Int32} {hp : pH} : dn pg 10 0 [some (.int x0)] [] hp = if x0 < nI 0 then dn pg 10 7 [some (.int x0)] [] hp else if (nI 8) ≤ x0 then dn pg 10 7 [some (.int x0)] [] hp else dn pg 10 8 [some (.int x0)] [.int (nI 1)] hp := by
  refine (dc_iload (a := 0) (i := 0) rfl rfl).trans ?_
  refine (dn_if (c := (fun x => decide (x < 0))) (t := 7) (i := 1) rfl _).trans (q_ite ?_ ?_)
  · exact rfl
  · refine (dc_iload (a := 0) (i := 2) rfl rfl).trans ?_
    refine (dc_ic (x := 8) (i := 3) rfl).trans ?_
    refine (dn_icmp (c := (fun x y => decide (y ≤ x))) (t := 7) (i := 4) rfl _ _).trans (q_ite ?_ ?_)
    · exact rfl
    · refine (dc_ic (x := 1) (i := 5) rfl).trans ?_
      refine (dc_goto (t := 8) (i := 6) rfl).trans ?_
      exact rfl
theorem B10_7 {v0 : pO} {hp : pH} : dn pg 10 7 [v0] [] hp = dn pg 10 8 [v0] [.int (nI 0)] hp := by
  refine (dc_ic (x := 0) (i := 7) rfl).trans ?_
  exact rfl
theorem B10_8 {v0 : pO} {s0 : Int32} {hp : pH} : dn pg 10 8 [v0] [.int s0] hp = qz s0 (q_i s0 hp) := by
  exact dn_zret (i := 8) rfl _
theorem B11_0 {x0 : Int32} {x1 : Int32} {x2 : Int32} {hp : pH} : dn pg 11 0 [some (.int x0), some (.int x1), some (.int x2)] [] hp = if x0 < x1 then dn pg 11 8 [some (.int x0), some (.int x1), some (.int x2)] [] hp else if x2 < x0 then dn pg 11 8 [some (.int x0), some (.int x1), some (.int x2)] [] hp else dn pg 11 9 [some (.int x0), some (.int x1), some (.int x2)] [.int (nI 1)] hp := by
  refine (dc_iload (a := 0) (i := 0) rfl rfl).trans ?_
  refine (dc_iload (a := 1) (i := 1) rfl rfl).trans ?_
  refine (dn_icmp (c := (fun x y => decide (x < y))) (t := 8) (i := 2) rfl _ _).trans (q_ite ?_ ?_)
  · exact rfl
  · refine (dc_iload (a := 0) (i := 3) rfl rfl).trans ?_
    refine (dc_iload (a := 2) (i := 4) rfl rfl).trans ?_
    refine (dn_icmp (c := (fun x y => decide (y < x))) (t := 8) (i := 5) rfl _ _).trans (q_ite ?_ ?_)
    · exact rfl
    · refine (dc_ic (x := 1) (i := 6) rfl).trans ?_
      refine (dc_goto (t := 9) (i := 7) rfl).trans ?_
      exact rfl
theorem B11_8 {v0 : pO} {v1 : pO} {v2 : pO} {hp : pH} : dn pg 11 8 [v0, v1, v2] [] hp = dn pg 11 9 [v0, v1, v2] [.int (nI 0)] hp := by
  refine (dc_ic (x := 0) (i := 8) rfl).trans ?_
  exact rfl
theorem B11_9 {v0 : pO} {v1 : pO} {v2 : pO} {s0 : Int32} {hp : pH} : dn pg 11 9 [v0, v1, v2] [.int s0] hp = qz s0 (q_i s0 hp) := by
  exact dn_zret (i := 9) rfl _
theorem B12_0 {o0 : Nat} {x1 : Int32} {hp : pH} : dn pg 12 0 [some (.ref o0), some (.int x1)] [] hp = qr_i (cl pg 10 [.int x1] hp) (fun y1 hp1 => if y1 = nI 0 then dn pg 12 9 [some (.ref o0), some (.int x1)] [.int (-1)] hp1 else qg_a hp1 o0 7 0 (fun r2 => qa_i hp1 r2 0 x1 (fun y3 => dn pg 12 9 [some (.ref o0), some (.int x1)] [.int y3] hp1))) := by
  refine (dc_iload (a := 1) (i := 0) rfl rfl).trans ?_
  refine (dn_cS_i (i := 1) (y := 10) (na := 1) rfl (pa_1 _ _) (Nat.le_of_ble_eq_true rfl) (Nat.le_of_ble_eq_true rfl)).trans (congrArg (qr_i _) (funext fun y1 => funext fun hp1 => ?_))
  refine (dn_if (c := (fun x => decide (x = 0))) (t := 8) (i := 2) rfl _).trans (q_ite ?_ ?_)
  · refine (dc_ic (x := (-1)) (i := 8) rfl).trans ?_
    exact rfl
  · refine (dc_aload (a := 0) (i := 3) rfl rfl).trans ?_
    refine (dn_getA (ci := 7) (j := 0) (i := 4) rfl _).trans (congrArg (qg_a _ _ _ _) (funext fun r2 => ?_))
    refine (dc_iload (a := 1) (i := 5) rfl rfl).trans ?_
    refine (dn_iald (t := 0) (i := 6) rfl _ _).trans (congrArg (qa_i _ _ _ _) (funext fun y3 => ?_))
    refine (dc_goto (t := 9) (i := 7) rfl).trans ?_
    exact rfl
theorem B12_9 {v0 : pO} {v1 : pO} {s0 : Int32} {hp : pH} : dn pg 12 9 [v0, v1] [.int s0] hp = q_i s0 hp := by
  exact dc_ireturn (i := 9) rfl _
theorem B13_0 {o0 : Nat} {x1 : Int32} {x2 : Int32} {x3 : Int32} {x4 : Int32} {x5 : Int32} {hp : pH} : dn pg 13 0 [some (.ref o0), some (.int x1), some (.int x2), some (.int x3), some (.int x4), some (.int x5)] [] hp = qr_i (cl pg 10 [.int x1] hp) (fun y1 hp1 => if ¬ y1 = nI 0 then qg_a hp1 o0 7 0 (fun r2 => qx_i hp1 r2 0 x1 x2 (fun hp2 => qg_a hp2 o0 7 1 (fun r3 => qx_i hp2 r3 0 x1 x4 (fun hp3 => qg_a hp3 o0 7 2 (fun r4 => qx_i hp3 r4 0 x1 x5 (fun hp4 => if ¬ x3 = (nI 1) then dn pg 13 27 [some (.ref o0), some (.int x1), some (.int x2), some (.int x3), some (.int x4), some (.int x5)] [.int (nI 0), .int x1, .ref o0] hp4 else dn pg 13 27 [some (.ref o0), some (.int x1), some (.int x2), some (.int x3), some (.int x4), some (.int x5)] [.int (nI 1), .int x1, .ref o0] hp4)))))) else q_v hp1) := by
  refine (dc_iload (a := 1) (i := 0) rfl rfl).trans ?_
  refine (dn_cS_i (i := 1) (y := 10) (na := 1) rfl (pa_1 _ _) (Nat.le_of_ble_eq_true rfl) (Nat.le_of_ble_eq_true rfl)).trans (congrArg (qr_i _) (funext fun y1 => funext fun hp1 => ?_))
  refine (dn_if (c := (fun x => decide (¬ x = 0))) (t := 4) (i := 2) rfl _).trans (q_ite ?_ ?_)
  · refine (dc_aload (a := 0) (i := 4) rfl rfl).trans ?_
    refine (dn_getA (ci := 7) (j := 0) (i := 5) rfl _).trans (congrArg (qg_a _ _ _ _) (funext fun r2 => ?_))
    refine (dc_iload (a := 1) (i := 6) rfl rfl).trans ?_
    refine (dc_iload (a := 2) (i := 7) rfl rfl).trans ?_
    refine (dn_iast (i := 8) rfl _ _ _).trans (congrArg (qx_i _ _ _ _ _) (funext fun hp2 => ?_))
    refine (dc_aload (a := 0) (i := 9) rfl rfl).trans ?_
    refine (dn_getA (ci := 7) (j := 1) (i := 10) rfl _).trans (congrArg (qg_a _ _ _ _) (funext fun r3 => ?_))
    refine (dc_iload (a := 1) (i := 11) rfl rfl).trans ?_
    refine (dc_iload (a := 4) (i := 12) rfl rfl).trans ?_
    refine (dn_iast (i := 13) rfl _ _ _).trans (congrArg (qx_i _ _ _ _ _) (funext fun hp3 => ?_))
    refine (dc_aload (a := 0) (i := 14) rfl rfl).trans ?_
    refine (dn_getA (ci := 7) (j := 2) (i := 15) rfl _).trans (congrArg (qg_a _ _ _ _) (funext fun r4 => ?_))
    refine (dc_iload (a := 1) (i := 16) rfl rfl).trans ?_
    refine (dc_iload (a := 5) (i := 17) rfl rfl).trans ?_
    refine (dn_iast (i := 18) rfl _ _ _).trans (congrArg (qx_i _ _ _ _ _) (funext fun hp4 => ?_))
    refine (dc_aload (a := 0) (i := 19) rfl rfl).trans ?_
    refine (dc_iload (a := 1) (i := 20) rfl rfl).trans ?_
    refine (dc_iload (a := 3) (i := 21) rfl rfl).trans ?_
    refine (dc_ic (x := 1) (i := 22) rfl).trans ?_
    refine (dn_icmp (c := (fun x y => decide (¬ x = y))) (t := 26) (i := 23) rfl _ _).trans (q_ite ?_ ?_)
    · refine (dc_ic (x := 0) (i := 26) rfl).trans ?_
      exact rfl
    · refine (dc_ic (x := 1) (i := 24) rfl).trans ?_
      refine (dc_goto (t := 27) (i := 25) rfl).trans ?_
      exact rfl
  · exact dc_return (i := 3) rfl
theorem B13_27 {v0 : pO} {v1 : pO} {v2 : pO} {v3 : pO} {v4 : pO} {v5 : pO} {s0 : Int32} {s1 : Int32} {s2 : Nat} {hp : pH} : dn pg 13 27 [v0, v1, v2, v3, v4, v5] [.int s0, .int s1, .ref s2] hp = qv hp s2 7 (qr_v (cl pg 14 [.ref s2, .int s1, .int s0] hp) (fun hp1 => q_v hp1)) := by
  refine (dn_cV_v (i := 27) (y := 14) (na := 3) (ci := 7) rfl (pa_3 _ _ _ _) (Nat.le_of_ble_eq_true rfl) (Nat.le_of_ble_eq_true rfl)).trans (congrArg (fun F => qv _ _ _ (qr_v _ F)) (funext fun hp1 => ?_))
  exact dc_return (i := 28) rfl
theorem B14_0 {o0 : Nat} {x1 : Int32} {x2 : Int32} {hp : pH} : dn pg 14 0 [some (.ref o0), some (.int x1), some (.int x2)] [] hp = if x2 = nI 0 then qg_i hp o0 7 5 (fun y1 => dn pg 14 18 [some (.ref o0), some (.int x1), some (.int x2)] [.int (y1 &&& (((nI 1) <<< (x1 &&& nI 31)) ^^^ (-1))), .ref o0] hp) else qg_i hp o0 7 5 (fun y2 => dn pg 14 18 [some (.ref o0), some (.int x1), some (.int x2)] [.int (y2 ||| ((nI 1) <<< (x1 &&& nI 31))), .ref o0] hp) := by
  refine (dc_aload (a := 0) (i := 0) rfl rfl).trans ?_
  refine (dc_iload (a := 2) (i := 1) rfl rfl).trans ?_
  refine (dn_if (c := (fun x => decide (x = 0))) (t := 10) (i := 2) rfl _).trans (q_ite ?_ ?_)
  · refine (dc_aload (a := 0) (i := 10) rfl rfl).trans ?_
    refine (dn_getI (ci := 7) (j := 5) (i := 11) rfl _).trans (congrArg (qg_i _ _ _ _) (funext fun y1 => ?_))
    refine (dc_ic (x := 1) (i := 12) rfl).trans ?_
    refine (dc_iload (a := 1) (i := 13) rfl rfl).trans ?_
    refine (dc_bin (f := (fun x y => x <<< (y &&& 31))) (i := 14) rfl _ _).trans ?_
    refine (dc_ic (x := (-1)) (i := 15) rfl).trans ?_
    refine (dc_bin (f := (fun x y => x ^^^ y)) (i := 16) rfl _ _).trans ?_
    refine (dc_bin (f := (fun x y => x &&& y)) (i := 17) rfl _ _).trans ?_
    exact rfl
  · refine (dc_aload (a := 0) (i := 3) rfl rfl).trans ?_
    refine (dn_getI (ci := 7) (j := 5) (i := 4) rfl _).trans (congrArg (qg_i _ _ _ _) (funext fun y2 => ?_))
    refine (dc_ic (x := 1) (i := 5) rfl).trans ?_
    refine (dc_iload (a := 1) (i := 6) rfl rfl).trans ?_
    refine (dc_bin (f := (fun x y => x <<< (y &&& 31))) (i := 7) rfl _ _).trans ?_
    refine (dc_bin (f := (fun x y => x ||| y)) (i := 8) rfl _ _).trans ?_
    refine (dc_goto (t := 18) (i := 9) rfl).trans ?_
    exact rfl
theorem B14_18 {v0 : pO} {v1 : pO} {v2 : pO} {s0 : Int32} {s1 : Nat} {hp : pH} : dn pg 14 18 [v0, v1, v2] [.int s0, .ref s1] hp = qp_v hp s1 7 5 (.int s0) (fun hp1 => q_v hp1) := by
  refine (dn_putI (ci := 7) (j := 5) (i := 18) rfl _ _).trans (congrArg (qp_v _ _ _ _ _) (funext fun hp1 => ?_))
  exact dc_return (i := 19) rfl
theorem B15_0 {o0 : Nat} {x1 : Int32} {x2 : Int32} {x3 : Int32} {hp : pH} : dn pg 15 0 [some (.ref o0), some (.int x1), some (.int x2), some (.int x3)] [] hp = qr_i (cl pg 10 [.int x1] hp) (fun y1 hp1 => if y1 = nI 0 then dn pg 15 9 [some (.ref o0), some (.int x1), some (.int x2), some (.int x3)] [] hp1 else qr_i (cl pg 10 [.int x2] hp1) (fun y2 hp2 => if y2 = nI 0 then dn pg 15 9 [some (.ref o0), some (.int x1), some (.int x2), some (.int x3)] [] hp2 else if ¬ x1 = x2 then qg_a hp2 o0 8 0 (fun r3 => qg_a hp2 r3 6 0 (fun r4 => qv hp2 r4 7 (qr_v (cl pg 16 [.ref r4, .int x1, .int x2, .int x3] hp2) (fun hp3 => qg_a hp3 o0 8 0 (fun r5 => qg_a hp3 r5 6 0 (fun r6 => qv hp3 r6 7 (qr_i (cl pg 17 [.ref r6] hp3) (fun y7 hp4 => q_i y7 hp4)))))))) else dn pg 15 9 [some (.ref o0), some (.int x1), some (.int x2), some (.int x3)] [] hp2)) := by
  refine (dc_iload (a := 1) (i := 0) rfl rfl).trans ?_
  refine (dn_cS_i (i := 1) (y := 10) (na := 1) rfl (pa_1 _ _) (Nat.le_of_ble_eq_true rfl) (Nat.le_of_ble_eq_true rfl)).trans (congrArg (qr_i _) (funext fun y1 => funext fun hp1 => ?_))
  refine (dn_if (c := (fun x => decide (x = 0))) (t := 9) (i := 2) rfl _).trans (q_ite ?_ ?_)
  · exact rfl
  · refine (dc_iload (a := 2) (i := 3) rfl rfl).trans ?_
    refine (dn_cS_i (i := 4) (y := 10) (na := 1) rfl (pa_1 _ _) (Nat.le_of_ble_eq_true rfl) (Nat.le_of_ble_eq_true rfl)).trans (congrArg (qr_i _) (funext fun y2 => funext fun hp2 => ?_))
    refine (dn_if (c := (fun x => decide (x = 0))) (t := 9) (i := 5) rfl _).trans (q_ite ?_ ?_)
    · exact rfl
    · refine (dc_iload (a := 1) (i := 6) rfl rfl).trans ?_
      refine (dc_iload (a := 2) (i := 7) rfl rfl).trans ?_
      refine (dn_icmp (c := (fun x y => decide (¬ x = y))) (t := 11) (i := 8) rfl _ _).trans (q_ite ?_ ?_)
      · refine (dc_aload (a := 0) (i := 11) rfl rfl).trans ?_
        refine (dn_getA (ci := 8) (j := 0) (i := 12) rfl _).trans (congrArg (qg_a _ _ _ _) (funext fun r3 => ?_))
        refine (dn_getA (ci := 6) (j := 0) (i := 13) rfl _).trans (congrArg (qg_a _ _ _ _) (funext fun r4 => ?_))
        refine (dc_iload (a := 1) (i := 14) rfl rfl).trans ?_
        refine (dc_iload (a := 2) (i := 15) rfl rfl).trans ?_
        refine (dc_iload (a := 3) (i := 16) rfl rfl).trans ?_
        refine (dn_cV_v (i := 17) (y := 16) (na := 4) (ci := 7) rfl (pa_4 _ _ _ _ _) (Nat.le_of_ble_eq_true rfl) (Nat.le_of_ble_eq_true rfl)).trans (congrArg (fun F => qv _ _ _ (qr_v _ F)) (funext fun hp3 => ?_))
        refine (dc_aload (a := 0) (i := 18) rfl rfl).trans ?_
        refine (dn_getA (ci := 8) (j := 0) (i := 19) rfl _).trans (congrArg (qg_a _ _ _ _) (funext fun r5 => ?_))
        refine (dn_getA (ci := 6) (j := 0) (i := 20) rfl _).trans (congrArg (qg_a _ _ _ _) (funext fun r6 => ?_))
        refine (dn_cV_i (i := 21) (y := 17) (na := 1) (ci := 7) rfl (pa_1 _ _) (Nat.le_of_ble_eq_true rfl) (Nat.le_of_ble_eq_true rfl)).trans (congrArg (fun F => qv _ _ _ (qr_i _ F)) (funext fun y7 => funext fun hp4 => ?_))
        exact dc_ireturn (i := 22) rfl _
      · exact rfl
theorem B15_9 {v0 : pO} {v1 : pO} {v2 : pO} {v3 : pO} {hp : pH} : dn pg 15 9 [v0, v1, v2, v3] [] hp = q_i (-1) hp := by
  refine (dc_ic (x := (-1)) (i := 9) rfl).trans ?_
  exact dc_ireturn (i := 10) rfl _
theorem B16_0 {o0 : Nat} {x1 : Int32} {x2 : Int32} {x3 : Int32} {hp : pH} : dn pg 16 0 [some (.ref o0), some (.int x1), some (.int x2), some (.int x3)] [] hp = qr_i (cl pg 10 [.int x1] hp) (fun y1 hp1 => if y1 = nI 0 then dn pg 16 6 [some (.ref o0), some (.int x1), some (.int x2), some (.int x3)] [] hp1 else qr_i (cl pg 10 [.int x2] hp1) (fun y2 hp2 => if ¬ y2 = nI 0 then qg_a hp2 o0 7 3 (fun r3 => if x3 = nI 0 then qg_a hp2 o0 7 3 (fun r4 => qa_i hp2 r4 0 x1 (fun y5 => dn pg 16 31 [some (.ref o0), some (.int x1), some (.int x2), some (.int x3)] [.int (y5 &&& (((nI 1) <<< (x2 &&& nI 31)) ^^^ (-1))), .int x1, .ref r3] hp2)) else qg_a hp2 o0 7 3 (fun r6 => qa_i hp2 r6 0 x1 (fun y7 => dn pg 16 31 [some (.ref o0), some (.int x1), some (.int x2), some (.int x3)] [.int (y7 ||| ((nI 1) <<< (x2 &&& nI 31))), .int x1, .ref r3] hp2))) else dn pg 16 6 [some (.ref o0), some (.int x1), some (.int x2), some (.int x3)] [] hp2)) := by
  refine (dc_iload (a := 1) (i := 0) rfl rfl).trans ?_
  refine (dn_cS_i (i := 1) (y := 10) (na := 1) rfl (pa_1 _ _) (Nat.le_of_ble_eq_true rfl) (Nat.le_of_ble_eq_true rfl)).trans (congrArg (qr_i _) (funext fun y1 => funext fun hp1 => ?_))
  refine (dn_if (c := (fun x => decide (x = 0))) (t := 6) (i := 2) rfl _).trans (q_ite ?_ ?_)
  · exact rfl
  · refine (dc_iload (a := 2) (i := 3) rfl rfl).trans ?_
    refine (dn_cS_i (i := 4) (y := 10) (na := 1) rfl (pa_1 _ _) (Nat.le_of_ble_eq_true rfl) (Nat.le_of_ble_eq_true rfl)).trans (congrArg (qr_i _) (funext fun y2 => funext fun hp2 => ?_))
    refine (dn_if (c := (fun x => decide (¬ x = 0))) (t := 7) (i := 5) rfl _).trans (q_ite ?_ ?_)
    · refine (dc_aload (a := 0) (i := 7) rfl rfl).trans ?_
      refine (dn_getA (ci := 7) (j := 3) (i := 8) rfl _).trans (congrArg (qg_a _ _ _ _) (funext fun r3 => ?_))
      refine (dc_iload (a := 1) (i := 9) rfl rfl).trans ?_
      refine (dc_iload (a := 3) (i := 10) rfl rfl).trans ?_
      refine (dn_if (c := (fun x => decide (x = 0))) (t := 21) (i := 11) rfl _).trans (q_ite ?_ ?_)
      · refine (dc_aload (a := 0) (i := 21) rfl rfl).trans ?_
        refine (dn_getA (ci := 7) (j := 3) (i := 22) rfl _).trans (congrArg (qg_a _ _ _ _) (funext fun r4 => ?_))
        refine (dc_iload (a := 1) (i := 23) rfl rfl).trans ?_
        refine (dn_iald (t := 0) (i := 24) rfl _ _).trans (congrArg (qa_i _ _ _ _) (funext fun y5 => ?_))
        refine (dc_ic (x := 1) (i := 25) rfl).trans ?_
        refine (dc_iload (a := 2) (i := 26) rfl rfl).trans ?_
        refine (dc_bin (f := (fun x y => x <<< (y &&& 31))) (i := 27) rfl _ _).trans ?_
        refine (dc_ic (x := (-1)) (i := 28) rfl).trans ?_
        refine (dc_bin (f := (fun x y => x ^^^ y)) (i := 29) rfl _ _).trans ?_
        refine (dc_bin (f := (fun x y => x &&& y)) (i := 30) rfl _ _).trans ?_
        exact rfl
      · refine (dc_aload (a := 0) (i := 12) rfl rfl).trans ?_
        refine (dn_getA (ci := 7) (j := 3) (i := 13) rfl _).trans (congrArg (qg_a _ _ _ _) (funext fun r6 => ?_))
        refine (dc_iload (a := 1) (i := 14) rfl rfl).trans ?_
        refine (dn_iald (t := 0) (i := 15) rfl _ _).trans (congrArg (qa_i _ _ _ _) (funext fun y7 => ?_))
        refine (dc_ic (x := 1) (i := 16) rfl).trans ?_
        refine (dc_iload (a := 2) (i := 17) rfl rfl).trans ?_
        refine (dc_bin (f := (fun x y => x <<< (y &&& 31))) (i := 18) rfl _ _).trans ?_
        refine (dc_bin (f := (fun x y => x ||| y)) (i := 19) rfl _ _).trans ?_
        refine (dc_goto (t := 31) (i := 20) rfl).trans ?_
        exact rfl
    · exact rfl
theorem B16_6 {v0 : pO} {v1 : pO} {v2 : pO} {v3 : pO} {hp : pH} : dn pg 16 6 [v0, v1, v2, v3] [] hp = q_v hp := by
  exact dc_return (i := 6) rfl
theorem B16_31 {o0 : Nat} {x1 : Int32} {x2 : Int32} {x3 : Int32} {s0 : Int32} {s1 : Int32} {s2 : Nat} {hp : pH} : dn pg 16 31 [some (.ref o0), some (.int x1), some (.int x2), some (.int x3)] [.int s0, .int s1, .ref s2] hp = qx_i hp s2 0 s1 s0 (fun hp1 => qg_a hp1 o0 7 3 (fun r1 => if x3 = nI 0 then qg_a hp1 o0 7 3 (fun r2 => qa_i hp1 r2 0 x2 (fun y3 => dn pg 16 56 [some (.ref o0), some (.int x1), some (.int x2), some (.int x3)] [.int (y3 &&& (((nI 1) <<< (x1 &&& nI 31)) ^^^ (-1))), .int x2, .ref r1] hp1)) else qg_a hp1 o0 7 3 (fun r4 => qa_i hp1 r4 0 x2 (fun y5 => dn pg 16 56 [some (.ref o0), some (.int x1), some (.int x2), some (.int x3)] [.int (y5 ||| ((nI 1) <<< (x1 &&& nI 31))), .int x2, .ref r1] hp1)))) := by
  refine (dn_iast (i := 31) rfl _ _ _).trans (congrArg (qx_i _ _ _ _ _) (funext fun hp1 => ?_))
  refine (dc_aload (a := 0) (i := 32) rfl rfl).trans ?_
  refine (dn_getA (ci := 7) (j := 3) (i := 33) rfl _).trans (congrArg (qg_a _ _ _ _) (funext fun r1 => ?_))
  refine (dc_iload (a := 2) (i := 34) rfl rfl).trans ?_
  refine (dc_iload (a := 3) (i := 35) rfl rfl).trans ?_
  refine (dn_if (c := (fun x => decide (x = 0))) (t := 46) (i := 36) rfl _).trans (q_ite ?_ ?_)
  · refine (dc_aload (a := 0) (i := 46) rfl rfl).trans ?_
    refine (dn_getA (ci := 7) (j := 3) (i := 47) rfl _).trans (congrArg (qg_a _ _ _ _) (funext fun r2 => ?_))
    refine (dc_iload (a := 2) (i := 48) rfl rfl).trans ?_
    refine (dn_iald (t := 0) (i := 49) rfl _ _).trans (congrArg (qa_i _ _ _ _) (funext fun y3 => ?_))
    refine (dc_ic (x := 1) (i := 50) rfl).trans ?_
    refine (dc_iload (a := 1) (i := 51) rfl rfl).trans ?_
    refine (dc_bin (f := (fun x y => x <<< (y &&& 31))) (i := 52) rfl _ _).trans ?_
    refine (dc_ic (x := (-1)) (i := 53) rfl).trans ?_
    refine (dc_bin (f := (fun x y => x ^^^ y)) (i := 54) rfl _ _).trans ?_
    refine (dc_bin (f := (fun x y => x &&& y)) (i := 55) rfl _ _).trans ?_
    exact rfl
  · refine (dc_aload (a := 0) (i := 37) rfl rfl).trans ?_
    refine (dn_getA (ci := 7) (j := 3) (i := 38) rfl _).trans (congrArg (qg_a _ _ _ _) (funext fun r4 => ?_))
    refine (dc_iload (a := 2) (i := 39) rfl rfl).trans ?_
    refine (dn_iald (t := 0) (i := 40) rfl _ _).trans (congrArg (qa_i _ _ _ _) (funext fun y5 => ?_))
    refine (dc_ic (x := 1) (i := 41) rfl).trans ?_
    refine (dc_iload (a := 1) (i := 42) rfl rfl).trans ?_
    refine (dc_bin (f := (fun x y => x <<< (y &&& 31))) (i := 43) rfl _ _).trans ?_
    refine (dc_bin (f := (fun x y => x ||| y)) (i := 44) rfl _ _).trans ?_
    refine (dc_goto (t := 56) (i := 45) rfl).trans ?_
    exact rfl
theorem B16_56 {v0 : pO} {v1 : pO} {v2 : pO} {v3 : pO} {s0 : Int32} {s1 : Int32} {s2 : Nat} {hp : pH} : dn pg 16 56 [v0, v1, v2, v3] [.int s0, .int s1, .ref s2] hp = qx_i hp s2 0 s1 s0 (fun hp1 => q_v hp1) := by
  refine (dn_iast (i := 56) rfl _ _ _).trans (congrArg (qx_i _ _ _ _ _) (funext fun hp1 => ?_))
  exact dc_return (i := 57) rfl
theorem B17_0 {v0 : pO} {v1 : pO} {v2 : pO} {hp : pH} (h0 : pm_nl v0 = true) : dn pg 17 0 [v0, v1, v2] [] hp = dn pg 17 4 [v0, some (.int (nI 0)), some (.int (nI 0))] [] hp := by
  refine (dc_ic (x := 0) (i := 0) rfl).trans ?_
  refine (dn_istore (a := 1) (i := 1) rfl (pm_ok_nl (Nat.le_of_ble_eq_true rfl) rfl h0) _).trans ?_
  refine (dc_ic (x := 0) (i := 2) rfl).trans ?_
  refine (dn_istore (a := 2) (i := 3) rfl rfl _).trans ?_
  exact rfl
theorem B17_4 {o0 : Nat} {x1 : Int32} {x2 : Int32} {hp : pH} : dn pg 17 4 [some (.ref o0), some (.int x1), some (.int x2)] [] hp = if (nI 8) ≤ x2 then q_i (x1 / (nI 2)) hp else qg_a hp o0 7 3 (fun r1 => qa_i hp r1 0 x2 (fun y2 => qr_i (cl pg 18 [.int y2] hp) (fun y3 hp1 => dn pg 17 4 [some (.ref o0), some (.int (x1 + y3)), some (.int (x2 + nI 1))] [] hp1))) := by
  refine (dc_iload (a := 2) (i := 4) rfl rfl).trans ?_
  refine (dc_ic (x := 8) (i := 5) rfl).trans ?_
  refine (dn_icmp (c := (fun x y => decide (y ≤ x))) (t := 17) (i := 6) rfl _ _).trans (q_ite ?_ ?_)
  · refine (dc_iload (a := 1) (i := 17) rfl rfl).trans ?_
    refine (dc_ic (x := 2) (i := 18) rfl).trans ?_
    refine ((dn_div (f := (fun x y => x / y)) (i := 19) rfl _ _).trans (if_neg (by decide))).trans ?_
    exact dc_ireturn (i := 20) rfl _
  · refine (dc_iload (a := 1) (i := 7) rfl rfl).trans ?_
    refine (dc_aload (a := 0) (i := 8) rfl rfl).trans ?_
    refine (dn_getA (ci := 7) (j := 3) (i := 9) rfl _).trans (congrArg (qg_a _ _ _ _) (funext fun r1 => ?_))
    refine (dc_iload (a := 2) (i := 10) rfl rfl).trans ?_
    refine (dn_iald (t := 0) (i := 11) rfl _ _).trans (congrArg (qa_i _ _ _ _) (funext fun y2 => ?_))
    refine (dn_cS_i (i := 12) (y := 18) (na := 1) rfl (pa_1 _ _) (Nat.le_of_ble_eq_true rfl) (Nat.le_of_ble_eq_true rfl)).trans (congrArg (qr_i _) (funext fun y3 => funext fun hp1 => ?_))
    refine (dc_bin (f := (fun x y => x + y)) (i := 13) rfl _ _).trans ?_
    refine (dn_istore (a := 1) (i := 14) rfl rfl _).trans ?_
    refine (dn_iinc (a := 2) (d := 1) (i := 15) rfl rfl rfl).trans ?_
    refine (dc_goto (t := 4) (i := 16) rfl).trans ?_
    exact rfl
theorem B18_0 {x0 : Int32} {hp : pH} : dn pg 18 0 [some (.int x0)] [] hp = q_i ((((((((x0 - (((x0.toUInt32 >>> ((nI 1).toUInt32 &&& Int32.toUInt32 31)).toInt32) &&& (nI 1431655765))) &&& (nI 858993459)) + ((((x0 - (((x0.toUInt32 >>> ((nI 1).toUInt32 &&& Int32.toUInt32 31)).toInt32) &&& (nI 1431655765))).toUInt32 >>> ((nI 2).toUInt32 &&& Int32.toUInt32 31)).toInt32) &&& (nI 858993459))) + (((((x0 - (((x0.toUInt32 >>> ((nI 1).toUInt32 &&& Int32.toUInt32 31)).toInt32) &&& (nI 1431655765))) &&& (nI 858993459)) + ((((x0 - (((x0.toUInt32 >>> ((nI 1).toUInt32 &&& Int32.toUInt32 31)).toInt32) &&& (nI 1431655765))).toUInt32 >>> ((nI 2).toUInt32 &&& Int32.toUInt32 31)).toInt32) &&& (nI 858993459))).toUInt32 >>> ((nI 4).toUInt32 &&& Int32.toUInt32 31)).toInt32)) &&& (nI 252645135)) + (((((((x0 - (((x0.toUInt32 >>> ((nI 1).toUInt32 &&& Int32.toUInt32 31)).toInt32) &&& (nI 1431655765))) &&& (nI 858993459)) + ((((x0 - (((x0.toUInt32 >>> ((nI 1).toUInt32 &&& Int32.toUInt32 31)).toInt32) &&& (nI 1431655765))).toUInt32 >>> ((nI 2).toUInt32 &&& Int32.toUInt32 31)).toInt32) &&& (nI 858993459))) + (((((x0 - (((x0.toUInt32 >>> ((nI 1).toUInt32 &&& Int32.toUInt32 31)).toInt32) &&& (nI 1431655765))) &&& (nI 858993459)) + ((((x0 - (((x0.toUInt32 >>> ((nI 1).toUInt32 &&& Int32.toUInt32 31)).toInt32) &&& (nI 1431655765))).toUInt32 >>> ((nI 2).toUInt32 &&& Int32.toUInt32 31)).toInt32) &&& (nI 858993459))).toUInt32 >>> ((nI 4).toUInt32 &&& Int32.toUInt32 31)).toInt32)) &&& (nI 252645135)).toUInt32 >>> ((nI 8).toUInt32 &&& Int32.toUInt32 31)).toInt32)) + ((((((((x0 - (((x0.toUInt32 >>> ((nI 1).toUInt32 &&& Int32.toUInt32 31)).toInt32) &&& (nI 1431655765))) &&& (nI 858993459)) + ((((x0 - (((x0.toUInt32 >>> ((nI 1).toUInt32 &&& Int32.toUInt32 31)).toInt32) &&& (nI 1431655765))).toUInt32 >>> ((nI 2).toUInt32 &&& Int32.toUInt32 31)).toInt32) &&& (nI 858993459))) + (((((x0 - (((x0.toUInt32 >>> ((nI 1).toUInt32 &&& Int32.toUInt32 31)).toInt32) &&& (nI 1431655765))) &&& (nI 858993459)) + ((((x0 - (((x0.toUInt32 >>> ((nI 1).toUInt32 &&& Int32.toUInt32 31)).toInt32) &&& (nI 1431655765))).toUInt32 >>> ((nI 2).toUInt32 &&& Int32.toUInt32 31)).toInt32) &&& (nI 858993459))).toUInt32 >>> ((nI 4).toUInt32 &&& Int32.toUInt32 31)).toInt32)) &&& (nI 252645135)) + (((((((x0 - (((x0.toUInt32 >>> ((nI 1).toUInt32 &&& Int32.toUInt32 31)).toInt32) &&& (nI 1431655765))) &&& (nI 858993459)) + ((((x0 - (((x0.toUInt32 >>> ((nI 1).toUInt32 &&& Int32.toUInt32 31)).toInt32) &&& (nI 1431655765))).toUInt32 >>> ((nI 2).toUInt32 &&& Int32.toUInt32 31)).toInt32) &&& (nI 858993459))) + (((((x0 - (((x0.toUInt32 >>> ((nI 1).toUInt32 &&& Int32.toUInt32 31)).toInt32) &&& (nI 1431655765))) &&& (nI 858993459)) + ((((x0 - (((x0.toUInt32 >>> ((nI 1).toUInt32 &&& Int32.toUInt32 31)).toInt32) &&& (nI 1431655765))).toUInt32 >>> ((nI 2).toUInt32 &&& Int32.toUInt32 31)).toInt32) &&& (nI 858993459))).toUInt32 >>> ((nI 4).toUInt32 &&& Int32.toUInt32 31)).toInt32)) &&& (nI 252645135)).toUInt32 >>> ((nI 8).toUInt32 &&& Int32.toUInt32 31)).toInt32)).toUInt32 >>> ((nI 16).toUInt32 &&& Int32.toUInt32 31)).toInt32)) &&& (nI 63)) hp := by
  refine (dc_iload (a := 0) (i := 0) rfl rfl).trans ?_
  refine (dc_iload (a := 0) (i := 1) rfl rfl).trans ?_
  refine (dc_ic (x := 1) (i := 2) rfl).trans ?_
  refine (dc_bin (f := (fun x y => (x.toUInt32 >>> (y.toUInt32 &&& Int32.toUInt32 31)).toInt32)) (i := 3) rfl _ _).trans ?_
  refine (dc_ic (x := 1431655765) (i := 4) rfl).trans ?_
  refine (dc_bin (f := (fun x y => x &&& y)) (i := 5) rfl _ _).trans ?_
  refine (dc_bin (f := (fun x y => x - y)) (i := 6) rfl _ _).trans ?_
  refine (dn_istore (a := 0) (i := 7) rfl rfl _).trans ?_
  refine (dc_iload (a := 0) (i := 8) rfl rfl).trans ?_
  refine (dc_ic (x := 858993459) (i := 9) rfl).trans ?_
  refine (dc_bin (f := (fun x y => x &&& y)) (i := 10) rfl _ _).trans ?_
  refine (dc_iload (a := 0) (i := 11) rfl rfl).trans ?_
  refine (dc_ic (x := 2) (i := 12) rfl).trans ?_
  refine (dc_bin (f := (fun x y => (x.toUInt32 >>> (y.toUInt32 &&& Int32.toUInt32 31)).toInt32)) (i := 13) rfl _ _).trans ?_
  refine (dc_ic (x := 858993459) (i := 14) rfl).trans ?_
  refine (dc_bin (f := (fun x y => x &&& y)) (i := 15) rfl _ _).trans ?_
  refine (dc_bin (f := (fun x y => x + y)) (i := 16) rfl _ _).trans ?_
  refine (dn_istore (a := 0) (i := 17) rfl rfl _).trans ?_
  refine (dc_iload (a := 0) (i := 18) rfl rfl).trans ?_
  refine (dc_iload (a := 0) (i := 19) rfl rfl).trans ?_
  refine (dc_ic (x := 4) (i := 20) rfl).trans ?_
  refine (dc_bin (f := (fun x y => (x.toUInt32 >>> (y.toUInt32 &&& Int32.toUInt32 31)).toInt32)) (i := 21) rfl _ _).trans ?_
  refine (dc_bin (f := (fun x y => x + y)) (i := 22) rfl _ _).trans ?_
  refine (dc_ic (x := 252645135) (i := 23) rfl).trans ?_
  refine (dc_bin (f := (fun x y => x &&& y)) (i := 24) rfl _ _).trans ?_
  refine (dn_istore (a := 0) (i := 25) rfl rfl _).trans ?_
  refine (dc_iload (a := 0) (i := 26) rfl rfl).trans ?_
  refine (dc_iload (a := 0) (i := 27) rfl rfl).trans ?_
  refine (dc_ic (x := 8) (i := 28) rfl).trans ?_
  refine (dc_bin (f := (fun x y => (x.toUInt32 >>> (y.toUInt32 &&& Int32.toUInt32 31)).toInt32)) (i := 29) rfl _ _).trans ?_
  refine (dc_bin (f := (fun x y => x + y)) (i := 30) rfl _ _).trans ?_
  refine (dn_istore (a := 0) (i := 31) rfl rfl _).trans ?_
  refine (dc_iload (a := 0) (i := 32) rfl rfl).trans ?_
  refine (dc_iload (a := 0) (i := 33) rfl rfl).trans ?_
  refine (dc_ic (x := 16) (i := 34) rfl).trans ?_
  refine (dc_bin (f := (fun x y => (x.toUInt32 >>> (y.toUInt32 &&& Int32.toUInt32 31)).toInt32)) (i := 35) rfl _ _).trans ?_
  refine (dc_bin (f := (fun x y => x + y)) (i := 36) rfl _ _).trans ?_
  refine (dn_istore (a := 0) (i := 37) rfl rfl _).trans ?_
  refine (dc_iload (a := 0) (i := 38) rfl rfl).trans ?_
  refine (dc_ic (x := 63) (i := 39) rfl).trans ?_
  refine (dc_bin (f := (fun x y => x &&& y)) (i := 40) rfl _ _).trans ?_
  exact dc_ireturn (i := 41) rfl _
theorem B19_0 {o0 : Nat} {x1 : Int32} {v2 : pO} {hp : pH} : dn pg 19 0 [some (.ref o0), some (.int x1), v2] [] hp = qr_i (cl pg 11 [.int x1, .int (nI 0), .int (nI 99)] hp) (fun y1 hp1 => if ¬ y1 = nI 0 then qg_a hp1 o0 8 0 (fun r2 => qg_a hp1 r2 6 0 (fun r3 => qg_i hp1 r3 7 6 (fun y4 => qg_a hp1 o0 8 0 (fun r5 => qg_a hp1 r5 6 0 (fun r6 => qp_v hp1 r6 7 6 (.int x1) (fun hp2 => q_i y4 hp2)))))) else q_i (-2) hp1) := by
  refine (dc_iload (a := 1) (i := 0) rfl rfl).trans ?_
  refine (dc_ic (x := 0) (i := 1) rfl).trans ?_
  refine (dc_ic (x := 99) (i := 2) rfl).trans ?_
  refine (dn_cS_i (i := 3) (y := 11) (na := 3) rfl (pa_3 _ _ _ _) (Nat.le_of_ble_eq_true rfl) (Nat.le_of_ble_eq_true rfl)).trans (congrArg (qr_i _) (funext fun y1 => funext fun hp1 => ?_))
  refine (dn_if (c := (fun x => decide (¬ x = 0))) (t := 7) (i := 4) rfl _).trans (q_ite ?_ ?_)
  · refine (dc_aload (a := 0) (i := 7) rfl rfl).trans ?_
    refine (dn_getA (ci := 8) (j := 0) (i := 8) rfl _).trans (congrArg (qg_a _ _ _ _) (funext fun r2 => ?_))
    refine (dn_getA (ci := 6) (j := 0) (i := 9) rfl _).trans (congrArg (qg_a _ _ _ _) (funext fun r3 => ?_))
    refine (dn_getI (ci := 7) (j := 6) (i := 10) rfl _).trans (congrArg (qg_i _ _ _ _) (funext fun y4 => ?_))
    refine (dn_istore (a := 2) (i := 11) rfl rfl _).trans ?_
    refine (dc_aload (a := 0) (i := 12) rfl rfl).trans ?_
    refine (dn_getA (ci := 8) (j := 0) (i := 13) rfl _).trans (congrArg (qg_a _ _ _ _) (funext fun r5 => ?_))
    refine (dn_getA (ci := 6) (j := 0) (i := 14) rfl _).trans (congrArg (qg_a _ _ _ _) (funext fun r6 => ?_))
    refine (dc_iload (a := 1) (i := 15) rfl rfl).trans ?_
    refine (dn_putI (ci := 7) (j := 6) (i := 16) rfl _ _).trans (congrArg (qp_v _ _ _ _ _) (funext fun hp2 => ?_))
    refine (dc_iload (a := 2) (i := 17) rfl rfl).trans ?_
    exact dc_ireturn (i := 18) rfl _
  · refine (dc_ic (x := (-2)) (i := 5) rfl).trans ?_
    exact dc_ireturn (i := 6) rfl _
theorem B20_0 {o0 : Nat} {x1 : Int32} {x2 : Int32} {x3 : Int32} {v4 : pO} {hp : pH} : dn pg 20 0 [some (.ref o0), some (.int x1), some (.int x2), some (.int x3), v4] [] hp = qr_i (cl pg 11 [.int x1, .int (nI 0), .int (nI 5)] hp) (fun y1 hp1 => if ¬ y1 = nI 0 then qr_i (cl pg 11 [.int x2, .int (nI 1), .int (nI 9)] hp1) (fun y2 hp2 => if y2 = nI 0 then dn pg 20 17 [some (.ref o0), some (.int x1), some (.int x2), some (.int x3), v4] [] hp2 else qr_i (cl pg 11 [.int x3, .int (nI 0), .int (nI 99)] hp2) (fun y3 hp3 => if ¬ y3 = nI 0 then qg_a hp3 o0 8 0 (fun r4 => qg_a hp3 r4 6 1 (fun r5 => qv hp3 r5 0 (qr_i (cl pg 21 [.ref r5, .int x1] hp3) (fun y6 hp4 => qg_a hp4 o0 8 0 (fun r7 => qg_a hp4 r7 6 1 (fun r8 => qv hp4 r8 0 (qr_i (cl pg 22 [.ref r8, .int x1] hp4) (fun y9 hp5 => qg_a hp5 o0 8 0 (fun r10 => qg_a hp5 r10 6 1 (fun r11 => qv hp5 r11 0 (qr_v (cl pg 23 [.ref r11, .int x1, .int x2, .int x3] hp5) (fun hp6 => q_i (((nI 100) * y6) + y9) hp6)))))))))))) else dn pg 20 17 [some (.ref o0), some (.int x1), some (.int x2), some (.int x3), v4] [] hp3)) else q_i (-1) hp1) := by
  refine (dc_iload (a := 1) (i := 0) rfl rfl).trans ?_
  refine (dc_ic (x := 0) (i := 1) rfl).trans ?_
  refine (dc_ic (x := 5) (i := 2) rfl).trans ?_
  refine (dn_cS_i (i := 3) (y := 11) (na := 3) rfl (pa_3 _ _ _ _) (Nat.le_of_ble_eq_true rfl) (Nat.le_of_ble_eq_true rfl)).trans (congrArg (qr_i _) (funext fun y1 => funext fun hp1 => ?_))
  refine (dn_if (c := (fun x => decide (¬ x = 0))) (t := 7) (i := 4) rfl _).trans (q_ite ?_ ?_)
  · refine (dc_iload (a := 2) (i := 7) rfl rfl).trans ?_
    refine (dc_ic (x := 1) (i := 8) rfl).trans ?_
    refine (dc_ic (x := 9) (i := 9) rfl).trans ?_
    refine (dn_cS_i (i := 10) (y := 11) (na := 3) rfl (pa_3 _ _ _ _) (Nat.le_of_ble_eq_true rfl) (Nat.le_of_ble_eq_true rfl)).trans (congrArg (qr_i _) (funext fun y2 => funext fun hp2 => ?_))
    refine (dn_if (c := (fun x => decide (x = 0))) (t := 17) (i := 11) rfl _).trans (q_ite ?_ ?_)
    · exact rfl
    · refine (dc_iload (a := 3) (i := 12) rfl rfl).trans ?_
      refine (dc_ic (x := 0) (i := 13) rfl).trans ?_
      refine (dc_ic (x := 99) (i := 14) rfl).trans ?_
      refine (dn_cS_i (i := 15) (y := 11) (na := 3) rfl (pa_3 _ _ _ _) (Nat.le_of_ble_eq_true rfl) (Nat.le_of_ble_eq_true rfl)).trans (congrArg (qr_i _) (funext fun y3 => funext fun hp3 => ?_))
      refine (dn_if (c := (fun x => decide (¬ x = 0))) (t := 19) (i := 16) rfl _).trans (q_ite ?_ ?_)
      · refine (dc_ic (x := 100) (i := 19) rfl).trans ?_
        refine (dc_aload (a := 0) (i := 20) rfl rfl).trans ?_
        refine (dn_getA (ci := 8) (j := 0) (i := 21) rfl _).trans (congrArg (qg_a _ _ _ _) (funext fun r4 => ?_))
        refine (dn_getA (ci := 6) (j := 1) (i := 22) rfl _).trans (congrArg (qg_a _ _ _ _) (funext fun r5 => ?_))
        refine (dc_iload (a := 1) (i := 23) rfl rfl).trans ?_
        refine (dn_cV_i (i := 24) (y := 21) (na := 2) (ci := 0) rfl (pa_2 _ _ _) (Nat.le_of_ble_eq_true rfl) (Nat.le_of_ble_eq_true rfl)).trans (congrArg (fun F => qv _ _ _ (qr_i _ F)) (funext fun y6 => funext fun hp4 => ?_))
        refine (dc_bin (f := (fun x y => x * y)) (i := 25) rfl _ _).trans ?_
        refine (dc_aload (a := 0) (i := 26) rfl rfl).trans ?_
        refine (dn_getA (ci := 8) (j := 0) (i := 27) rfl _).trans (congrArg (qg_a _ _ _ _) (funext fun r7 => ?_))
        refine (dn_getA (ci := 6) (j := 1) (i := 28) rfl _).trans (congrArg (qg_a _ _ _ _) (funext fun r8 => ?_))
        refine (dc_iload (a := 1) (i := 29) rfl rfl).trans ?_
        refine (dn_cV_i (i := 30) (y := 22) (na := 2) (ci := 0) rfl (pa_2 _ _ _) (Nat.le_of_ble_eq_true rfl) (Nat.le_of_ble_eq_true rfl)).trans (congrArg (fun F => qv _ _ _ (qr_i _ F)) (funext fun y9 => funext fun hp5 => ?_))
        refine (dc_bin (f := (fun x y => x + y)) (i := 31) rfl _ _).trans ?_
        refine (dn_istore (a := 4) (i := 32) rfl rfl _).trans ?_
        refine (dc_aload (a := 0) (i := 33) rfl rfl).trans ?_
        refine (dn_getA (ci := 8) (j := 0) (i := 34) rfl _).trans (congrArg (qg_a _ _ _ _) (funext fun r10 => ?_))
        refine (dn_getA (ci := 6) (j := 1) (i := 35) rfl _).trans (congrArg (qg_a _ _ _ _) (funext fun r11 => ?_))
        refine (dc_iload (a := 1) (i := 36) rfl rfl).trans ?_
        refine (dc_iload (a := 2) (i := 37) rfl rfl).trans ?_
        refine (dc_iload (a := 3) (i := 38) rfl rfl).trans ?_
        refine (dn_cV_v (i := 39) (y := 23) (na := 4) (ci := 0) rfl (pa_4 _ _ _ _ _) (Nat.le_of_ble_eq_true rfl) (Nat.le_of_ble_eq_true rfl)).trans (congrArg (fun F => qv _ _ _ (qr_v _ F)) (funext fun hp6 => ?_))
        refine (dc_iload (a := 4) (i := 40) rfl rfl).trans ?_
        exact dc_ireturn (i := 41) rfl _
      · exact rfl
  · refine (dc_ic (x := (-1)) (i := 5) rfl).trans ?_
    exact dc_ireturn (i := 6) rfl _
theorem B20_17 {v0 : pO} {v1 : pO} {v2 : pO} {v3 : pO} {v4 : pO} {hp : pH} : dn pg 20 17 [v0, v1, v2, v3, v4] [] hp = q_i (-2) hp := by
  refine (dc_ic (x := (-2)) (i := 17) rfl).trans ?_
  exact dc_ireturn (i := 18) rfl _
theorem B21_0 {o0 : Nat} {x1 : Int32} {hp : pH} : dn pg 21 0 [some (.ref o0), some (.int x1)] [] hp = qr_i (cl pg 11 [.int x1, .int (nI 0), .int (nI 5)] hp) (fun y1 hp1 => if y1 = nI 0 then dn pg 21 11 [some (.ref o0), some (.int x1)] [.int (-1)] hp1 else qg_a hp1 o0 0 0 (fun r2 => qa_i hp1 r2 0 x1 (fun y3 => dn pg 21 11 [some (.ref o0), some (.int x1)] [.int y3] hp1))) := by
  refine (dc_iload (a := 1) (i := 0) rfl rfl).trans ?_
  refine (dc_ic (x := 0) (i := 1) rfl).trans ?_
  refine (dc_ic (x := 5) (i := 2) rfl).trans ?_
  refine (dn_cS_i (i := 3) (y := 11) (na := 3) rfl (pa_3 _ _ _ _) (Nat.le_of_ble_eq_true rfl) (Nat.le_of_ble_eq_true rfl)).trans (congrArg (qr_i _) (funext fun y1 => funext fun hp1 => ?_))
  refine (dn_if (c := (fun x => decide (x = 0))) (t := 10) (i := 4) rfl _).trans (q_ite ?_ ?_)
  · refine (dc_ic (x := (-1)) (i := 10) rfl).trans ?_
    exact rfl
  · refine (dc_aload (a := 0) (i := 5) rfl rfl).trans ?_
    refine (dn_getA (ci := 0) (j := 0) (i := 6) rfl _).trans (congrArg (qg_a _ _ _ _) (funext fun r2 => ?_))
    refine (dc_iload (a := 1) (i := 7) rfl rfl).trans ?_
    refine (dn_iald (t := 0) (i := 8) rfl _ _).trans (congrArg (qa_i _ _ _ _) (funext fun y3 => ?_))
    refine (dc_goto (t := 11) (i := 9) rfl).trans ?_
    exact rfl
theorem B21_11 {v0 : pO} {v1 : pO} {s0 : Int32} {hp : pH} : dn pg 21 11 [v0, v1] [.int s0] hp = q_i s0 hp := by
  exact dc_ireturn (i := 11) rfl _
theorem B22_0 {o0 : Nat} {x1 : Int32} {hp : pH} : dn pg 22 0 [some (.ref o0), some (.int x1)] [] hp = qr_i (cl pg 11 [.int x1, .int (nI 0), .int (nI 5)] hp) (fun y1 hp1 => if y1 = nI 0 then dn pg 22 11 [some (.ref o0), some (.int x1)] [.int (-1)] hp1 else qg_a hp1 o0 0 1 (fun r2 => qa_i hp1 r2 0 x1 (fun y3 => dn pg 22 11 [some (.ref o0), some (.int x1)] [.int y3] hp1))) := by
  refine (dc_iload (a := 1) (i := 0) rfl rfl).trans ?_
  refine (dc_ic (x := 0) (i := 1) rfl).trans ?_
  refine (dc_ic (x := 5) (i := 2) rfl).trans ?_
  refine (dn_cS_i (i := 3) (y := 11) (na := 3) rfl (pa_3 _ _ _ _) (Nat.le_of_ble_eq_true rfl) (Nat.le_of_ble_eq_true rfl)).trans (congrArg (qr_i _) (funext fun y1 => funext fun hp1 => ?_))
  refine (dn_if (c := (fun x => decide (x = 0))) (t := 10) (i := 4) rfl _).trans (q_ite ?_ ?_)
  · refine (dc_ic (x := (-1)) (i := 10) rfl).trans ?_
    exact rfl
  · refine (dc_aload (a := 0) (i := 5) rfl rfl).trans ?_
    refine (dn_getA (ci := 0) (j := 1) (i := 6) rfl _).trans (congrArg (qg_a _ _ _ _) (funext fun r2 => ?_))
    refine (dc_iload (a := 1) (i := 7) rfl rfl).trans ?_
    refine (dn_iald (t := 0) (i := 8) rfl _ _).trans (congrArg (qa_i _ _ _ _) (funext fun y3 => ?_))
    refine (dc_goto (t := 11) (i := 9) rfl).trans ?_
    exact rfl
theorem B22_11 {v0 : pO} {v1 : pO} {s0 : Int32} {hp : pH} : dn pg 22 11 [v0, v1] [.int s0] hp = q_i s0 hp := by
  exact dc_ireturn (i := 11) rfl _
theorem B23_0 {o0 : Nat} {x1 : Int32} {x2 : Int32} {x3 : Int32} {hp : pH} : dn pg 23 0 [some (.ref o0), some (.int x1), some (.int x2), some (.int x3)] [] hp = qr_i (cl pg 11 [.int x1, .int (nI 0), .int (nI 5)] hp) (fun y1 hp1 => if y1 = nI 0 then dn pg 23 15 [some (.ref o0), some (.int x1), some (.int x2), some (.int x3)] [] hp1 else qg_a hp1 o0 0 0 (fun r2 => qx_i hp1 r2 0 x1 x2 (fun hp2 => qg_a hp2 o0 0 1 (fun r3 => qx_i hp2 r3 0 x1 x3 (fun hp3 => dn pg 23 15 [some (.ref o0), some (.int x1), some (.int x2), some (.int x3)] [] hp3))))) := by
  refine (dc_iload (a := 1) (i := 0) rfl rfl).trans ?_
  refine (dc_ic (x := 0) (i := 1) rfl).trans ?_
  refine (dc_ic (x := 5) (i := 2) rfl).trans ?_
  refine (dn_cS_i (i := 3) (y := 11) (na := 3) rfl (pa_3 _ _ _ _) (Nat.le_of_ble_eq_true rfl) (Nat.le_of_ble_eq_true rfl)).trans (congrArg (qr_i _) (funext fun y1 => funext fun hp1 => ?_))
  refine (dn_if (c := (fun x => decide (x = 0))) (t := 15) (i := 4) rfl _).trans (q_ite ?_ ?_)
  · exact rfl
  · refine (dc_aload (a := 0) (i := 5) rfl rfl).trans ?_
    refine (dn_getA (ci := 0) (j := 0) (i := 6) rfl _).trans (congrArg (qg_a _ _ _ _) (funext fun r2 => ?_))
    refine (dc_iload (a := 1) (i := 7) rfl rfl).trans ?_
    refine (dc_iload (a := 2) (i := 8) rfl rfl).trans ?_
    refine (dn_iast (i := 9) rfl _ _ _).trans (congrArg (qx_i _ _ _ _ _) (funext fun hp2 => ?_))
    refine (dc_aload (a := 0) (i := 10) rfl rfl).trans ?_
    refine (dn_getA (ci := 0) (j := 1) (i := 11) rfl _).trans (congrArg (qg_a _ _ _ _) (funext fun r3 => ?_))
    refine (dc_iload (a := 1) (i := 12) rfl rfl).trans ?_
    refine (dc_iload (a := 3) (i := 13) rfl rfl).trans ?_
    refine (dn_iast (i := 14) rfl _ _ _).trans (congrArg (qx_i _ _ _ _ _) (funext fun hp3 => ?_))
    exact rfl
theorem B23_15 {v0 : pO} {v1 : pO} {v2 : pO} {v3 : pO} {hp : pH} : dn pg 23 15 [v0, v1, v2, v3] [] hp = q_v hp := by
  exact dc_return (i := 15) rfl
theorem B24_0 {o0 : Nat} {x1 : Int32} {hp : pH} : dn pg 24 0 [some (.ref o0), some (.int x1)] [] hp = qr_i (cl pg 11 [.int x1, .int (nI 33), .int (nI 126)] hp) (fun y1 hp1 => if ¬ y1 = nI 0 then qg_a hp1 o0 8 3 (fun r2 => qv hp1 r2 2 (qr_i (cl pg 25 [.ref r2, .int x1] hp1) (fun y3 hp2 => if y3 = nI 0 then dn pg 24 17 [some (.ref o0), some (.int x1)] [.int (-4)] hp2 else qg_a hp2 o0 8 3 (fun r4 => qg_i hp2 r4 2 4 (fun y5 => dn pg 24 17 [some (.ref o0), some (.int x1)] [.int y5] hp2))))) else q_i (-2) hp1) := by
  refine (dc_iload (a := 1) (i := 0) rfl rfl).trans ?_
  refine (dc_ic (x := 33) (i := 1) rfl).trans ?_
  refine (dc_ic (x := 126) (i := 2) rfl).trans ?_
  refine (dn_cS_i (i := 3) (y := 11) (na := 3) rfl (pa_3 _ _ _ _) (Nat.le_of_ble_eq_true rfl) (Nat.le_of_ble_eq_true rfl)).trans (congrArg (qr_i _) (funext fun y1 => funext fun hp1 => ?_))
  refine (dn_if (c := (fun x => decide (¬ x = 0))) (t := 7) (i := 4) rfl _).trans (q_ite ?_ ?_)
  · refine (dc_aload (a := 0) (i := 7) rfl rfl).trans ?_
    refine (dn_getA (ci := 8) (j := 3) (i := 8) rfl _).trans (congrArg (qg_a _ _ _ _) (funext fun r2 => ?_))
    refine (dc_iload (a := 1) (i := 9) rfl rfl).trans ?_
    refine (dn_cV_i (i := 10) (y := 25) (na := 2) (ci := 2) rfl (pa_2 _ _ _) (Nat.le_of_ble_eq_true rfl) (Nat.le_of_ble_eq_true rfl)).trans (congrArg (fun F => qv _ _ _ (qr_i _ F)) (funext fun y3 => funext fun hp2 => ?_))
    refine (dn_if (c := (fun x => decide (x = 0))) (t := 16) (i := 11) rfl _).trans (q_ite ?_ ?_)
    · refine (dc_ic (x := (-4)) (i := 16) rfl).trans ?_
      exact rfl
    · refine (dc_aload (a := 0) (i := 12) rfl rfl).trans ?_
      refine (dn_getA (ci := 8) (j := 3) (i := 13) rfl _).trans (congrArg (qg_a _ _ _ _) (funext fun r4 => ?_))
      refine (dn_getI (ci := 2) (j := 4) (i := 14) rfl _).trans (congrArg (qg_i _ _ _ _) (funext fun y5 => ?_))
      refine (dc_goto (t := 17) (i := 15) rfl).trans ?_
      exact rfl
  · refine (dc_ic (x := (-2)) (i := 5) rfl).trans ?_
    exact dc_ireturn (i := 6) rfl _
theorem B24_17 {v0 : pO} {v1 : pO} {s0 : Int32} {hp : pH} : dn pg 24 17 [v0, v1] [.int s0] hp = q_i s0 hp := by
  exact dc_ireturn (i := 17) rfl _
theorem B25_0 {o0 : Nat} {x1 : Int32} {hp : pH} : dn pg 25 0 [some (.ref o0), some (.int x1)] [] hp = qg_i hp o0 2 4 (fun y1 => qr_i (cl pg 11 [.int y1, .int (nI 0), .int (nI 59)] hp) (fun y2 hp1 => if ¬ y2 = nI 0 then qg_a hp1 o0 2 0 (fun r3 => qg_i hp1 o0 2 4 (fun y4 => qx_i hp1 r3 0 y4 x1 (fun hp2 => qg_i hp2 o0 2 4 (fun y5 => qp_v hp2 o0 2 4 (.int (y5 + (nI 1))) (fun hp3 => qz (nI 1) (q_i (nI 1) hp3)))))) else qz (nI 0) (q_i (nI 0) hp1))) := by
  refine (dc_aload (a := 0) (i := 0) rfl rfl).trans ?_
  refine (dn_getI (ci := 2) (j := 4) (i := 1) rfl _).trans (congrArg (qg_i _ _ _ _) (funext fun y1 => ?_))
  refine (dc_ic (x := 0) (i := 2) rfl).trans ?_
  refine (dc_ic (x := 59) (i := 3) rfl).trans ?_
  refine (dn_cS_i (i := 4) (y := 11) (na := 3) rfl (pa_3 _ _ _ _) (Nat.le_of_ble_eq_true rfl) (Nat.le_of_ble_eq_true rfl)).trans (congrArg (qr_i _) (funext fun y2 => funext fun hp1 => ?_))
  refine (dn_if (c := (fun x => decide (¬ x = 0))) (t := 8) (i := 5) rfl _).trans (q_ite ?_ ?_)
  · refine (dc_aload (a := 0) (i := 8) rfl rfl).trans ?_
    refine (dn_getA (ci := 2) (j := 0) (i := 9) rfl _).trans (congrArg (qg_a _ _ _ _) (funext fun r3 => ?_))
    refine (dc_aload (a := 0) (i := 10) rfl rfl).trans ?_
    refine (dn_getI (ci := 2) (j := 4) (i := 11) rfl _).trans (congrArg (qg_i _ _ _ _) (funext fun y4 => ?_))
    refine (dc_iload (a := 1) (i := 12) rfl rfl).trans ?_
    refine (dn_iast (i := 13) rfl _ _ _).trans (congrArg (qx_i _ _ _ _ _) (funext fun hp2 => ?_))
    refine (dc_aload (a := 0) (i := 14) rfl rfl).trans ?_
    refine (dc_dupA (i := 15) rfl _).trans ?_
    refine (dn_getI (ci := 2) (j := 4) (i := 16) rfl _).trans (congrArg (qg_i _ _ _ _) (funext fun y5 => ?_))
    refine (dc_ic (x := 1) (i := 17) rfl).trans ?_
    refine (dc_bin (f := (fun x y => x + y)) (i := 18) rfl _ _).trans ?_
    refine (dn_putI (ci := 2) (j := 4) (i := 19) rfl _ _).trans (congrArg (qp_v _ _ _ _ _) (funext fun hp3 => ?_))
    refine (dc_ic (x := 1) (i := 20) rfl).trans ?_
    exact dn_zret (i := 21) rfl _
  · refine (dc_ic (x := 0) (i := 6) rfl).trans ?_
    exact dn_zret (i := 7) rfl _
theorem B26_0 {o0 : Nat} {v1 : pO} {hp : pH} : dn pg 26 0 [some (.ref o0), v1] [] hp = qg_a hp o0 8 3 (fun r1 => qg_i hp r1 2 4 (fun y2 => qg_a hp o0 8 3 (fun r3 => qv hp r3 2 (qr_v (cl pg 27 [.ref r3] hp) (fun hp1 => q_i y2 hp1))))) := by
  refine (dc_aload (a := 0) (i := 0) rfl rfl).trans ?_
  refine (dn_getA (ci := 8) (j := 3) (i := 1) rfl _).trans (congrArg (qg_a _ _ _ _) (funext fun r1 => ?_))
  refine (dn_getI (ci := 2) (j := 4) (i := 2) rfl _).trans (congrArg (qg_i _ _ _ _) (funext fun y2 => ?_))
  refine (dn_istore (a := 1) (i := 3) rfl rfl _).trans ?_
  refine (dc_aload (a := 0) (i := 4) rfl rfl).trans ?_
  refine (dn_getA (ci := 8) (j := 3) (i := 5) rfl _).trans (congrArg (qg_a _ _ _ _) (funext fun r3 => ?_))
  refine (dn_cV_v (i := 6) (y := 27) (na := 1) (ci := 2) rfl (pa_1 _ _) (Nat.le_of_ble_eq_true rfl) (Nat.le_of_ble_eq_true rfl)).trans (congrArg (fun F => qv _ _ _ (qr_v _ F)) (funext fun hp1 => ?_))
  refine (dc_iload (a := 1) (i := 7) rfl rfl).trans ?_
  exact dc_ireturn (i := 8) rfl _
theorem B27_0 {o0 : Nat} {hp : pH} : dn pg 27 0 [some (.ref o0)] [] hp = qp_v hp o0 2 4 (.int (nI 0)) (fun hp1 => qp_v hp1 o0 2 5 (.int (nI 0)) (fun hp2 => q_v hp2)) := by
  refine (dc_aload (a := 0) (i := 0) rfl rfl).trans ?_
  refine (dc_ic (x := 0) (i := 1) rfl).trans ?_
  refine (dn_putI (ci := 2) (j := 4) (i := 2) rfl _ _).trans (congrArg (qp_v _ _ _ _ _) (funext fun hp1 => ?_))
  refine (dc_aload (a := 0) (i := 3) rfl rfl).trans ?_
  refine (dc_ic (x := 0) (i := 4) rfl).trans ?_
  refine (dn_putI (ci := 2) (j := 5) (i := 5) rfl _ _).trans (congrArg (qp_v _ _ _ _ _) (funext fun hp2 => ?_))
  exact dc_return (i := 6) rfl
theorem B28_0 {o0 : Nat} {hp : pH} : dn pg 28 0 [some (.ref o0)] [] hp = qg_a hp o0 8 3 (fun r1 => qv hp r1 2 (qr_i (cl pg 29 [.ref r1] hp) (fun y2 hp1 => q_i y2 hp1))) := by
  refine (dc_aload (a := 0) (i := 0) rfl rfl).trans ?_
  refine (dn_getA (ci := 8) (j := 3) (i := 1) rfl _).trans (congrArg (qg_a _ _ _ _) (funext fun r1 => ?_))
  refine (dn_cV_i (i := 2) (y := 29) (na := 1) (ci := 2) rfl (pa_1 _ _) (Nat.le_of_ble_eq_true rfl) (Nat.le_of_ble_eq_true rfl)).trans (congrArg (fun F => qv _ _ _ (qr_i _ F)) (funext fun y2 => funext fun hp1 => ?_))
  exact dc_ireturn (i := 3) rfl _
theorem B29_0 {o0 : Nat} {v1 : pO} {v2 : pO} {hp : pH} : dn pg 29 0 [some (.ref o0), v1, v2] [] hp = qp_v hp o0 2 5 (.int (nI 0)) (fun hp1 => dn pg 29 7 [some (.ref o0), some (.int (nI 0)), some (.int (nI 0))] [] hp1) := by
  refine (dc_aload (a := 0) (i := 0) rfl rfl).trans ?_
  refine (dc_ic (x := 0) (i := 1) rfl).trans ?_
  refine (dn_putI (ci := 2) (j := 5) (i := 2) rfl _ _).trans (congrArg (qp_v _ _ _ _ _) (funext fun hp1 => ?_))
  refine (dc_ic (x := 0) (i := 3) rfl).trans ?_
  refine (dn_istore (a := 1) (i := 4) rfl rfl _).trans ?_
  refine (dc_ic (x := 0) (i := 5) rfl).trans ?_
  refine (dn_istore (a := 2) (i := 6) rfl rfl _).trans ?_
  exact rfl
theorem B29_7 {o0 : Nat} {x1 : Int32} {x2 : Int32} {hp : pH} : dn pg 29 7 [some (.ref o0), some (.int x1), some (.int x2)] [] hp = qg_i hp o0 2 4 (fun y1 => if y1 ≤ x2 then dn pg 29 29 [some (.ref o0), some (.int x1), some (.int x2)] [] hp else if (nI 60) ≤ x2 then dn pg 29 29 [some (.ref o0), some (.int x1), some (.int x2)] [] hp else qg_a hp o0 2 0 (fun r2 => qa_i hp r2 0 x2 (fun y3 => qv hp o0 2 (qr_i (cl pg 30 [.ref o0, .int x1, .int y3] hp) (fun y4 hp1 => if ¬ y4 = (nI 4) then dn pg 29 7 [some (.ref o0), some (.int y4), some (.int (x2 + nI 1))] [] hp1 else q_i x2 hp1))))) := by
  refine (dc_iload (a := 2) (i := 7) rfl rfl).trans ?_
  refine (dc_aload (a := 0) (i := 8) rfl rfl).trans ?_
  refine (dn_getI (ci := 2) (j := 4) (i := 9) rfl _).trans (congrArg (qg_i _ _ _ _) (funext fun y1 => ?_))
  refine (dn_icmp (c := (fun x y => decide (y ≤ x))) (t := 29) (i := 10) rfl _ _).trans (q_ite ?_ ?_)
  · exact rfl
  · refine (dc_iload (a := 2) (i := 11) rfl rfl).trans ?_
    refine (dc_ic (x := 60) (i := 12) rfl).trans ?_
    refine (dn_icmp (c := (fun x y => decide (y ≤ x))) (t := 29) (i := 13) rfl _ _).trans (q_ite ?_ ?_)
    · exact rfl
    · refine (dc_aload (a := 0) (i := 14) rfl rfl).trans ?_
      refine (dc_iload (a := 1) (i := 15) rfl rfl).trans ?_
      refine (dc_aload (a := 0) (i := 16) rfl rfl).trans ?_
      refine (dn_getA (ci := 2) (j := 0) (i := 17) rfl _).trans (congrArg (qg_a _ _ _ _) (funext fun r2 => ?_))
      refine (dc_iload (a := 2) (i := 18) rfl rfl).trans ?_
      refine (dn_iald (t := 0) (i := 19) rfl _ _).trans (congrArg (qa_i _ _ _ _) (funext fun y3 => ?_))
      refine (dn_cV_i (i := 20) (y := 30) (na := 3) (ci := 2) rfl (pa_3 _ _ _ _) (Nat.le_of_ble_eq_true rfl) (Nat.le_of_ble_eq_true rfl)).trans (congrArg (fun F => qv _ _ _ (qr_i _ F)) (funext fun y4 => funext fun hp1 => ?_))
      refine (dn_istore (a := 1) (i := 21) rfl rfl _).trans ?_
      refine (dc_iload (a := 1) (i := 22) rfl rfl).trans ?_
      refine (dc_ic (x := 4) (i := 23) rfl).trans ?_
      refine (dn_icmp (c := (fun x y => decide (¬ x = y))) (t := 27) (i := 24) rfl _ _).trans (q_ite ?_ ?_)
      · refine (dn_iinc (a := 2) (d := 1) (i := 27) rfl rfl rfl).trans ?_
        refine (dc_goto (t := 7) (i := 28) rfl).trans ?_
        exact rfl
      · refine (dc_iload (a := 2) (i := 25) rfl rfl).trans ?_
        exact dc_ireturn (i := 26) rfl _
theorem B29_29 {o0 : Nat} {x1 : Int32} {v2 : pO} {hp : pH} : dn pg 29 29 [some (.ref o0), some (.int x1), v2] [] hp = if ¬ x1 = nI 0 then qg_i hp o0 2 4 (fun y1 => dn pg 29 35 [some (.ref o0), some (.int x1), v2] [.int y1] hp) else dn pg 29 35 [some (.ref o0), some (.int x1), v2] [.int (-6)] hp := by
  refine (dc_iload (a := 1) (i := 29) rfl rfl).trans ?_
  refine (dn_if (c := (fun x => decide (¬ x = 0))) (t := 33) (i := 30) rfl _).trans (q_ite ?_ ?_)
  · refine (dc_aload (a := 0) (i := 33) rfl rfl).trans ?_
    refine (dn_getI (ci := 2) (j := 4) (i := 34) rfl _).trans (congrArg (qg_i _ _ _ _) (funext fun y1 => ?_))
    exact rfl
  · refine (dc_ic (x := (-6)) (i := 31) rfl).trans ?_
    refine (dc_goto (t := 35) (i := 32) rfl).trans ?_
    exact rfl
theorem B29_35 {v0 : pO} {v1 : pO} {v2 : pO} {s0 : Int32} {hp : pH} : dn pg 29 35 [v0, v1, v2] [.int s0] hp = q_i s0 hp := by
  exact dc_ireturn (i := 35) rfl _
theorem B30_0 {o0 : Nat} {x1 : Int32} {x2 : Int32} {hp : pH} : dn pg 30 0 [some (.ref o0), some (.int x1), some (.int x2)] [] hp = qg_i hp o0 2 5 (fun y1 => qr_i (cl pg 11 [.int y1, .int (nI 0), .int (nI 59)] hp) (fun y2 hp1 => if ¬ y2 = nI 0 then if x1 = nI 0 then qv hp1 o0 2 (qr_i (cl pg 31 [.ref o0, .int x2] hp1) (fun y3 hp2 => q_i y3 hp2)) else if x1 = nI 1 then qv hp1 o0 2 (qr_i (cl pg 33 [.ref o0, .int x2] hp1) (fun y4 hp3 => q_i y4 hp3)) else if x1 = nI 2 then qg_a hp1 o0 2 3 (fun r5 => qg_i hp1 o0 2 5 (fun y6 => qx_i hp1 r5 0 y6 (x2 - (nI 65)) (fun hp4 => qr_i (cl pg 11 [.int x2, .int (nI 65), .int (nI 72)] hp4) (fun y7 hp5 => if y7 = nI 0 then dn pg 30 35 [some (.ref o0), some (.int x1), some (.int x2)] [.int (nI 4)] hp5 else qv hp5 o0 2 (qr_i (cl pg 32 [.ref o0] hp5) (fun y8 hp6 => dn pg 30 35 [some (.ref o0), some (.int x1), some (.int x2)] [.int y8] hp6)))))) else qg_a hp1 o0 2 3 (fun r9 => qg_i hp1 o0 2 5 (fun y10 => qx_i hp1 r9 0 y10 (x2 - (nI 48)) (fun hp7 => qr_i (cl pg 11 [.int x2, .int (nI 49), .int (nI 57)] hp7) (fun y11 hp8 => if y11 = nI 0 then dn pg 30 53 [some (.ref o0), some (.int x1), some (.int x2)] [.int (nI 4)] hp8 else qv hp8 o0 2 (qr_i (cl pg 32 [.ref o0] hp8) (fun y12 hp9 => dn pg 30 53 [some (.ref o0), some (.int x1), some (.int x2)] [.int y12] hp9)))))) else q_i (nI 4) hp1)) := by
  refine (dc_aload (a := 0) (i := 0) rfl rfl).trans ?_
  refine (dn_getI (ci := 2) (j := 5) (i := 1) rfl _).trans (congrArg (qg_i _ _ _ _) (funext fun y1 => ?_))
  refine (dc_ic (x := 0) (i := 2) rfl).trans ?_
  refine (dc_ic (x := 59) (i := 3) rfl).trans ?_
  refine (dn_cS_i (i := 4) (y := 11) (na := 3) rfl (pa_3 _ _ _ _) (Nat.le_of_ble_eq_true rfl) (Nat.le_of_ble_eq_true rfl)).trans (congrArg (qr_i _) (funext fun y2 => funext fun hp1 => ?_))
  refine (dn_if (c := (fun x => decide (¬ x = 0))) (t := 8) (i := 5) rfl _).trans (q_ite ?_ ?_)
  · refine (dc_iload (a := 1) (i := 8) rfl rfl).trans ?_
    refine (dn_sw2 (d := 36) (l := [(0, 10), (1, 14), (2, 18)]) (i := 9) rfl _).trans ?_
    refine q_swc ?_ ?_
    · refine (dc_aload (a := 0) (i := 10) rfl rfl).trans ?_
      refine (dc_iload (a := 2) (i := 11) rfl rfl).trans ?_
      refine (dn_cV_i (i := 12) (y := 31) (na := 2) (ci := 2) rfl (pa_2 _ _ _) (Nat.le_of_ble_eq_true rfl) (Nat.le_of_ble_eq_true rfl)).trans (congrArg (fun F => qv _ _ _ (qr_i _ F)) (funext fun y3 => funext fun hp2 => ?_))
      exact dc_ireturn (i := 13) rfl _
    refine q_swc ?_ ?_
    · refine (dc_aload (a := 0) (i := 14) rfl rfl).trans ?_
      refine (dc_iload (a := 2) (i := 15) rfl rfl).trans ?_
      refine (dn_cV_i (i := 16) (y := 33) (na := 2) (ci := 2) rfl (pa_2 _ _ _) (Nat.le_of_ble_eq_true rfl) (Nat.le_of_ble_eq_true rfl)).trans (congrArg (fun F => qv _ _ _ (qr_i _ F)) (funext fun y4 => funext fun hp3 => ?_))
      exact dc_ireturn (i := 17) rfl _
    refine q_swc ?_ ?_
    · refine (dc_aload (a := 0) (i := 18) rfl rfl).trans ?_
      refine (dn_getA (ci := 2) (j := 3) (i := 19) rfl _).trans (congrArg (qg_a _ _ _ _) (funext fun r5 => ?_))
      refine (dc_aload (a := 0) (i := 20) rfl rfl).trans ?_
      refine (dn_getI (ci := 2) (j := 5) (i := 21) rfl _).trans (congrArg (qg_i _ _ _ _) (funext fun y6 => ?_))
      refine (dc_iload (a := 2) (i := 22) rfl rfl).trans ?_
      refine (dc_ic (x := 65) (i := 23) rfl).trans ?_
      refine (dc_bin (f := (fun x y => x - y)) (i := 24) rfl _ _).trans ?_
      refine (dn_iast (i := 25) rfl _ _ _).trans (congrArg (qx_i _ _ _ _ _) (funext fun hp4 => ?_))
      refine (dc_iload (a := 2) (i := 26) rfl rfl).trans ?_
      refine (dc_ic (x := 65) (i := 27) rfl).trans ?_
      refine (dc_ic (x := 72) (i := 28) rfl).trans ?_
      refine (dn_cS_i (i := 29) (y := 11) (na := 3) rfl (pa_3 _ _ _ _) (Nat.le_of_ble_eq_true rfl) (Nat.le_of_ble_eq_true rfl)).trans (congrArg (qr_i _) (funext fun y7 => funext fun hp5 => ?_))
      refine (dn_if (c := (fun x => decide (x = 0))) (t := 34) (i := 30) rfl _).trans (q_ite ?_ ?_)
      · refine (dc_ic (x := 4) (i := 34) rfl).trans ?_
        exact rfl
      · refine (dc_aload (a := 0) (i := 31) rfl rfl).trans ?_
        refine (dn_cV_i (i := 32) (y := 32) (na := 1) (ci := 2) rfl (pa_1 _ _) (Nat.le_of_ble_eq_true rfl) (Nat.le_of_ble_eq_true rfl)).trans (congrArg (fun F => qv _ _ _ (qr_i _ F)) (funext fun y8 => funext fun hp6 => ?_))
        refine (dc_goto (t := 35) (i := 33) rfl).trans ?_
        exact rfl
    refine q_swn ?_
    refine (dc_aload (a := 0) (i := 36) rfl rfl).trans ?_
    refine (dn_getA (ci := 2) (j := 3) (i := 37) rfl _).trans (congrArg (qg_a _ _ _ _) (funext fun r9 => ?_))
    refine (dc_aload (a := 0) (i := 38) rfl rfl).trans ?_
    refine (dn_getI (ci := 2) (j := 5) (i := 39) rfl _).trans (congrArg (qg_i _ _ _ _) (funext fun y10 => ?_))
    refine (dc_iload (a := 2) (i := 40) rfl rfl).trans ?_
    refine (dc_ic (x := 48) (i := 41) rfl).trans ?_
    refine (dc_bin (f := (fun x y => x - y)) (i := 42) rfl _ _).trans ?_
    refine (dn_iast (i := 43) rfl _ _ _).trans (congrArg (qx_i _ _ _ _ _) (funext fun hp7 => ?_))
    refine (dc_iload (a := 2) (i := 44) rfl rfl).trans ?_
    refine (dc_ic (x := 49) (i := 45) rfl).trans ?_
    refine (dc_ic (x := 57) (i := 46) rfl).trans ?_
    refine (dn_cS_i (i := 47) (y := 11) (na := 3) rfl (pa_3 _ _ _ _) (Nat.le_of_ble_eq_true rfl) (Nat.le_of_ble_eq_true rfl)).trans (congrArg (qr_i _) (funext fun y11 => funext fun hp8 => ?_))
    refine (dn_if (c := (fun x => decide (x = 0))) (t := 52) (i := 48) rfl _).trans (q_ite ?_ ?_)
    · refine (dc_ic (x := 4) (i := 52) rfl).trans ?_
      exact rfl
    · refine (dc_aload (a := 0) (i := 49) rfl rfl).trans ?_
      refine (dn_cV_i (i := 50) (y := 32) (na := 1) (ci := 2) rfl (pa_1 _ _) (Nat.le_of_ble_eq_true rfl) (Nat.le_of_ble_eq_true rfl)).trans (congrArg (fun F => qv _ _ _ (qr_i _ F)) (funext fun y12 => funext fun hp9 => ?_))
      refine (dc_goto (t := 53) (i := 51) rfl).trans ?_
      exact rfl
  · refine (dc_ic (x := 4) (i := 6) rfl).trans ?_
    exact dc_ireturn (i := 7) rfl _
theorem B30_35 {v0 : pO} {v1 : pO} {v2 : pO} {s0 : Int32} {hp : pH} : dn pg 30 35 [v0, v1, v2] [.int s0] hp = q_i s0 hp := by
  exact dc_ireturn (i := 35) rfl _
theorem B30_53 {v0 : pO} {v1 : pO} {v2 : pO} {s0 : Int32} {hp : pH} : dn pg 30 53 [v0, v1, v2] [.int s0] hp = q_i s0 hp := by
  exact dc_ireturn (i := 53) rfl _
theorem B31_0 {o0 : Nat} {x1 : Int32} {hp : pH} : dn pg 31 0 [some (.ref o0), some (.int x1)] [] hp = qg_a hp o0 2 1 (fun r1 => qg_i hp o0 2 5 (fun y2 => if ¬ x1 = (nI 103) then dn pg 31 10 [some (.ref o0), some (.int x1)] [.int (nI 7), .int y2, .ref r1] hp else dn pg 31 10 [some (.ref o0), some (.int x1)] [.int (nI 6), .int y2, .ref r1] hp)) := by
  refine (dc_aload (a := 0) (i := 0) rfl rfl).trans ?_
  refine (dn_getA (ci := 2) (j := 1) (i := 1) rfl _).trans (congrArg (qg_a _ _ _ _) (funext fun r1 => ?_))
  refine (dc_aload (a := 0) (i := 2) rfl rfl).trans ?_
  refine (dn_getI (ci := 2) (j := 5) (i := 3) rfl _).trans (congrArg (qg_i _ _ _ _) (funext fun y2 => ?_))
  refine (dc_iload (a := 1) (i := 4) rfl rfl).trans ?_
  refine (dc_ic (x := 103) (i := 5) rfl).trans ?_
  refine (dn_icmp (c := (fun x y => decide (¬ x = y))) (t := 9) (i := 6) rfl _ _).trans (q_ite ?_ ?_)
  · refine (dc_ic (x := 7) (i := 9) rfl).trans ?_
    exact rfl
  · refine (dc_ic (x := 6) (i := 7) rfl).trans ?_
    refine (dc_goto (t := 10) (i := 8) rfl).trans ?_
    exact rfl
theorem B31_10 {o0 : Nat} {x1 : Int32} {s0 : Int32} {s1 : Int32} {s2 : Nat} {hp : pH} : dn pg 31 10 [some (.ref o0), some (.int x1)] [.int s0, .int s1, .ref s2] hp = qx_i hp s2 0 s1 s0 (fun hp1 => qg_a hp1 o0 2 2 (fun r1 => qg_i hp1 o0 2 5 (fun y2 => qr_i (cl pg 11 [.int x1, .int (nI 65), .int (nI 72)] hp1) (fun y3 hp2 => if y3 = nI 0 then dn pg 31 25 [some (.ref o0), some (.int x1)] [.int (nI 0), .int y2, .ref r1] hp2 else dn pg 31 25 [some (.ref o0), some (.int x1)] [.int (x1 - (nI 65)), .int y2, .ref r1] hp2)))) := by
  refine (dn_iast (i := 10) rfl _ _ _).trans (congrArg (qx_i _ _ _ _ _) (funext fun hp1 => ?_))
  refine (dc_aload (a := 0) (i := 11) rfl rfl).trans ?_
  refine (dn_getA (ci := 2) (j := 2) (i := 12) rfl _).trans (congrArg (qg_a _ _ _ _) (funext fun r1 => ?_))
  refine (dc_aload (a := 0) (i := 13) rfl rfl).trans ?_
  refine (dn_getI (ci := 2) (j := 5) (i := 14) rfl _).trans (congrArg (qg_i _ _ _ _) (funext fun y2 => ?_))
  refine (dc_iload (a := 1) (i := 15) rfl rfl).trans ?_
  refine (dc_ic (x := 65) (i := 16) rfl).trans ?_
  refine (dc_ic (x := 72) (i := 17) rfl).trans ?_
  refine (dn_cS_i (i := 18) (y := 11) (na := 3) rfl (pa_3 _ _ _ _) (Nat.le_of_ble_eq_true rfl) (Nat.le_of_ble_eq_true rfl)).trans (congrArg (qr_i _) (funext fun y3 => funext fun hp2 => ?_))
  refine (dn_if (c := (fun x => decide (x = 0))) (t := 24) (i := 19) rfl _).trans (q_ite ?_ ?_)
  · refine (dc_ic (x := 0) (i := 24) rfl).trans ?_
    exact rfl
  · refine (dc_iload (a := 1) (i := 20) rfl rfl).trans ?_
    refine (dc_ic (x := 65) (i := 21) rfl).trans ?_
    refine (dc_bin (f := (fun x y => x - y)) (i := 22) rfl _ _).trans ?_
    refine (dc_goto (t := 25) (i := 23) rfl).trans ?_
    exact rfl
theorem B31_25 {o0 : Nat} {x1 : Int32} {s0 : Int32} {s1 : Int32} {s2 : Nat} {hp : pH} : dn pg 31 25 [some (.ref o0), some (.int x1)] [.int s0, .int s1, .ref s2] hp = qx_i hp s2 0 s1 s0 (fun hp1 => qg_a hp1 o0 2 3 (fun r1 => qg_i hp1 o0 2 5 (fun y2 => qx_i hp1 r1 0 y2 (nI 0) (fun hp2 => if ¬ x1 = (nI 46) then if ¬ x1 = (nI 103) then qr_i (cl pg 11 [.int x1, .int (nI 65), .int (nI 72)] hp2) (fun y3 hp3 => if y3 = nI 0 then dn pg 31 51 [some (.ref o0), some (.int x1)] [.int (nI 4)] hp3 else dn pg 31 51 [some (.ref o0), some (.int x1)] [.int (nI 1)] hp3) else q_i (nI 3) hp2 else qv hp2 o0 2 (qr_i (cl pg 32 [.ref o0] hp2) (fun y4 hp4 => q_i y4 hp4)))))) := by
  refine (dn_iast (i := 25) rfl _ _ _).trans (congrArg (qx_i _ _ _ _ _) (funext fun hp1 => ?_))
  refine (dc_aload (a := 0) (i := 26) rfl rfl).trans ?_
  refine (dn_getA (ci := 2) (j := 3) (i := 27) rfl _).trans (congrArg (qg_a _ _ _ _) (funext fun r1 => ?_))
  refine (dc_aload (a := 0) (i := 28) rfl rfl).trans ?_
  refine (dn_getI (ci := 2) (j := 5) (i := 29) rfl _).trans (congrArg (qg_i _ _ _ _) (funext fun y2 => ?_))
  refine (dc_ic (x := 0) (i := 30) rfl).trans ?_
  refine (dn_iast (i := 31) rfl _ _ _).trans (congrArg (qx_i _ _ _ _ _) (funext fun hp2 => ?_))
  refine (dc_iload (a := 1) (i := 32) rfl rfl).trans ?_
  refine (dc_ic (x := 46) (i := 33) rfl).trans ?_
  refine (dn_icmp (c := (fun x y => decide (¬ x = y))) (t := 38) (i := 34) rfl _ _).trans (q_ite ?_ ?_)
  · refine (dc_iload (a := 1) (i := 38) rfl rfl).trans ?_
    refine (dc_ic (x := 103) (i := 39) rfl).trans ?_
    refine (dn_icmp (c := (fun x y => decide (¬ x = y))) (t := 43) (i := 40) rfl _ _).trans (q_ite ?_ ?_)
    · refine (dc_iload (a := 1) (i := 43) rfl rfl).trans ?_
      refine (dc_ic (x := 65) (i := 44) rfl).trans ?_
      refine (dc_ic (x := 72) (i := 45) rfl).trans ?_
      refine (dn_cS_i (i := 46) (y := 11) (na := 3) rfl (pa_3 _ _ _ _) (Nat.le_of_ble_eq_true rfl) (Nat.le_of_ble_eq_true rfl)).trans (congrArg (qr_i _) (funext fun y3 => funext fun hp3 => ?_))
      refine (dn_if (c := (fun x => decide (x = 0))) (t := 50) (i := 47) rfl _).trans (q_ite ?_ ?_)
      · refine (dc_ic (x := 4) (i := 50) rfl).trans ?_
        exact rfl
      · refine (dc_ic (x := 1) (i := 48) rfl).trans ?_
        refine (dc_goto (t := 51) (i := 49) rfl).trans ?_
        exact rfl
    · refine (dc_ic (x := 3) (i := 41) rfl).trans ?_
      exact dc_ireturn (i := 42) rfl _
  · refine (dc_aload (a := 0) (i := 35) rfl rfl).trans ?_
    refine (dn_cV_i (i := 36) (y := 32) (na := 1) (ci := 2) rfl (pa_1 _ _) (Nat.le_of_ble_eq_true rfl) (Nat.le_of_ble_eq_true rfl)).trans (congrArg (fun F => qv _ _ _ (qr_i _ F)) (funext fun y4 => funext fun hp4 => ?_))
    exact dc_ireturn (i := 37) rfl _
theorem B31_51 {v0 : pO} {v1 : pO} {s0 : Int32} {hp : pH} : dn pg 31 51 [v0, v1] [.int s0] hp = q_i s0 hp := by
  exact dc_ireturn (i := 51) rfl _
theorem B32_0 {o0 : Nat} {hp : pH} : dn pg 32 0 [some (.ref o0)] [] hp = qg_i hp o0 2 5 (fun y1 => qp_v hp o0 2 5 (.int (y1 + (nI 1))) (fun hp1 => q_i (nI 0) hp1)) := by
  refine (dc_aload (a := 0) (i := 0) rfl rfl).trans ?_
  refine (dc_dupA (i := 1) rfl _).trans ?_
  refine (dn_getI (ci := 2) (j := 5) (i := 2) rfl _).trans (congrArg (qg_i _ _ _ _) (funext fun y1 => ?_))
  refine (dc_ic (x := 1) (i := 3) rfl).trans ?_
  refine (dc_bin (f := (fun x y => x + y)) (i := 4) rfl _ _).trans ?_
  refine (dn_putI (ci := 2) (j := 5) (i := 5) rfl _ _).trans (congrArg (qp_v _ _ _ _ _) (funext fun hp1 => ?_))
  refine (dc_ic (x := 0) (i := 6) rfl).trans ?_
  exact dc_ireturn (i := 7) rfl _
theorem B33_0 {o0 : Nat} {x1 : Int32} {v2 : pO} {hp : pH} : dn pg 33 0 [some (.ref o0), some (.int x1), v2] [] hp = qr_i (cl pg 34 [.int x1] hp) (fun y1 hp1 => if ¬ y1 = (-6) then qg_a hp1 o0 2 1 (fun r2 => qg_i hp1 o0 2 5 (fun y3 => qx_i hp1 r2 0 y3 y1 (fun hp2 => if y1 = (nI 3) then dn pg 33 20 [some (.ref o0), some (.int x1), some (.int y1)] [] hp2 else if ¬ y1 = (nI 4) then qv hp2 o0 2 (qr_i (cl pg 32 [.ref o0] hp2) (fun y4 hp3 => dn pg 33 24 [some (.ref o0), some (.int x1), some (.int y1)] [.int y4] hp3)) else dn pg 33 20 [some (.ref o0), some (.int x1), some (.int y1)] [] hp2))) else q_i (nI 4) hp1) := by
  refine (dc_iload (a := 1) (i := 0) rfl rfl).trans ?_
  refine (dn_cS_i (i := 1) (y := 34) (na := 1) rfl (pa_1 _ _) (Nat.le_of_ble_eq_true rfl) (Nat.le_of_ble_eq_true rfl)).trans (congrArg (qr_i _) (funext fun y1 => funext fun hp1 => ?_))
  refine (dn_istore (a := 2) (i := 2) rfl rfl _).trans ?_
  refine (dc_iload (a := 2) (i := 3) rfl rfl).trans ?_
  refine (dc_ic (x := (-6)) (i := 4) rfl).trans ?_
  refine (dn_icmp (c := (fun x y => decide (¬ x = y))) (t := 8) (i := 5) rfl _ _).trans (q_ite ?_ ?_)
  · refine (dc_aload (a := 0) (i := 8) rfl rfl).trans ?_
    refine (dn_getA (ci := 2) (j := 1) (i := 9) rfl _).trans (congrArg (qg_a _ _ _ _) (funext fun r2 => ?_))
    refine (dc_aload (a := 0) (i := 10) rfl rfl).trans ?_
    refine (dn_getI (ci := 2) (j := 5) (i := 11) rfl _).trans (congrArg (qg_i _ _ _ _) (funext fun y3 => ?_))
    refine (dc_iload (a := 2) (i := 12) rfl rfl).trans ?_
    refine (dn_iast (i := 13) rfl _ _ _).trans (congrArg (qx_i _ _ _ _ _) (funext fun hp2 => ?_))
    refine (dc_iload (a := 2) (i := 14) rfl rfl).trans ?_
    refine (dc_ic (x := 3) (i := 15) rfl).trans ?_
    refine (dn_icmp (c := (fun x y => decide (x = y))) (t := 20) (i := 16) rfl _ _).trans (q_ite ?_ ?_)
    · exact rfl
    · refine (dc_iload (a := 2) (i := 17) rfl rfl).trans ?_
      refine (dc_ic (x := 4) (i := 18) rfl).trans ?_
      refine (dn_icmp (c := (fun x y => decide (¬ x = y))) (t := 22) (i := 19) rfl _ _).trans (q_ite ?_ ?_)
      · refine (dc_aload (a := 0) (i := 22) rfl rfl).trans ?_
        refine (dn_cV_i (i := 23) (y := 32) (na := 1) (ci := 2) rfl (pa_1 _ _) (Nat.le_of_ble_eq_true rfl) (Nat.le_of_ble_eq_true rfl)).trans (congrArg (fun F => qv _ _ _ (qr_i _ F)) (funext fun y4 => funext fun hp3 => ?_))
        exact rfl
      · exact rfl
  · refine (dc_ic (x := 4) (i := 6) rfl).trans ?_
    exact dc_ireturn (i := 7) rfl _
theorem B33_20 {v0 : pO} {v1 : pO} {v2 : pO} {hp : pH} : dn pg 33 20 [v0, v1, v2] [] hp = dn pg 33 24 [v0, v1, v2] [.int (nI 2)] hp := by
  refine (dc_ic (x := 2) (i := 20) rfl).trans ?_
  refine (dc_goto (t := 24) (i := 21) rfl).trans ?_
  exact rfl
theorem B33_24 {v0 : pO} {v1 : pO} {v2 : pO} {s0 : Int32} {hp : pH} : dn pg 33 24 [v0, v1, v2] [.int s0] hp = q_i s0 hp := by
  exact dc_ireturn (i := 24) rfl _
theorem B34_0 {x0 : Int32} {hp : pH} : dn pg 34 0 [some (.int x0)] [] hp = if x0 = nI 37 then q_i (nI 8) hp else if x0 = nI 47 then q_i (nI 5) hp else if x0 = nI 94 then q_i (nI 2) hp else if x0 = nI 95 then q_i (nI 1) hp else if x0 = nI 120 then q_i (nI 3) hp else if x0 = nI 126 then q_i (nI 4) hp else q_i (-6) hp := by
  refine (dc_iload (a := 0) (i := 0) rfl rfl).trans ?_
  refine (dn_sw2 (d := 14) (l := [(37, 12), (47, 10), (94, 4), (95, 2), (120, 6), (126, 8)]) (i := 1) rfl _).trans ?_
  refine q_swc ?_ ?_
  · refine (dc_ic (x := 8) (i := 12) rfl).trans ?_
    exact dc_ireturn (i := 13) rfl _
  refine q_swc ?_ ?_
  · refine (dc_ic (x := 5) (i := 10) rfl).trans ?_
    exact dc_ireturn (i := 11) rfl _
  refine q_swc ?_ ?_
  · refine (dc_ic (x := 2) (i := 4) rfl).trans ?_
    exact dc_ireturn (i := 5) rfl _
  refine q_swc ?_ ?_
  · refine (dc_ic (x := 1) (i := 2) rfl).trans ?_
    exact dc_ireturn (i := 3) rfl _
  refine q_swc ?_ ?_
  · refine (dc_ic (x := 3) (i := 6) rfl).trans ?_
    exact dc_ireturn (i := 7) rfl _
  refine q_swc ?_ ?_
  · refine (dc_ic (x := 4) (i := 8) rfl).trans ?_
    exact dc_ireturn (i := 9) rfl _
  refine q_swn ?_
  refine (dc_ic (x := (-6)) (i := 14) rfl).trans ?_
  exact dc_ireturn (i := 15) rfl _
theorem B35_0 {o0 : Nat} {x1 : Int32} {v2 : pO} {hp : pH} : dn pg 35 0 [some (.ref o0), some (.int x1), v2] [] hp = qr_i (cl pg 11 [.int x1, .int (nI 0), .int (nI 2)] hp) (fun y1 hp1 => if ¬ y1 = nI 0 then if ¬ x1 = (nI 2) then dn pg 35 14 [some (.ref o0), some (.int x1), v2] [.int (nI 0), .ref o0] hp1 else dn pg 35 14 [some (.ref o0), some (.int x1), v2] [.int (nI 1), .ref o0] hp1 else q_i (-2) hp1) := by
  refine (dc_iload (a := 1) (i := 0) rfl rfl).trans ?_
  refine (dc_ic (x := 0) (i := 1) rfl).trans ?_
  refine (dc_ic (x := 2) (i := 2) rfl).trans ?_
  refine (dn_cS_i (i := 3) (y := 11) (na := 3) rfl (pa_3 _ _ _ _) (Nat.le_of_ble_eq_true rfl) (Nat.le_of_ble_eq_true rfl)).trans (congrArg (qr_i _) (funext fun y1 => funext fun hp1 => ?_))
  refine (dn_if (c := (fun x => decide (¬ x = 0))) (t := 7) (i := 4) rfl _).trans (q_ite ?_ ?_)
  · refine (dc_aload (a := 0) (i := 7) rfl rfl).trans ?_
    refine (dc_iload (a := 1) (i := 8) rfl rfl).trans ?_
    refine (dc_ic (x := 2) (i := 9) rfl).trans ?_
    refine (dn_icmp (c := (fun x y => decide (¬ x = y))) (t := 13) (i := 10) rfl _ _).trans (q_ite ?_ ?_)
    · refine (dc_ic (x := 0) (i := 13) rfl).trans ?_
      exact rfl
    · refine (dc_ic (x := 1) (i := 11) rfl).trans ?_
      refine (dc_goto (t := 14) (i := 12) rfl).trans ?_
      exact rfl
  · refine (dc_ic (x := (-2)) (i := 5) rfl).trans ?_
    exact dc_ireturn (i := 6) rfl _
theorem B35_14 {o0 : Nat} {x1 : Int32} {v2 : pO} {s0 : Int32} {s1 : Nat} {hp : pH} : dn pg 35 14 [some (.ref o0), some (.int x1), v2] [.int s0, .ref s1] hp = qv hp s1 8 (qr_i (cl pg 36 [.ref s1, .int s0] hp) (fun y1 hp1 => if y1 = nI 0 then if ¬ x1 = nI 0 then if ¬ x1 = (nI 1) then qg_a hp1 o0 8 4 (fun r2 => qg_i hp1 r2 1 3 (fun y3 => dn pg 35 36 [some (.ref o0), some (.int x1), some (.int y1)] [.int y3] hp1)) else qg_a hp1 o0 8 4 (fun r4 => qg_i hp1 r4 1 2 (fun y5 => dn pg 35 36 [some (.ref o0), some (.int x1), some (.int y1)] [.int y5] hp1)) else qg_a hp1 o0 8 4 (fun r6 => qg_i hp1 r6 1 1 (fun y7 => q_i y7 hp1)) else q_i y1 hp1)) := by
  refine (dn_cV_i (i := 14) (y := 36) (na := 2) (ci := 8) rfl (pa_2 _ _ _) (Nat.le_of_ble_eq_true rfl) (Nat.le_of_ble_eq_true rfl)).trans (congrArg (fun F => qv _ _ _ (qr_i _ F)) (funext fun y1 => funext fun hp1 => ?_))
  refine (dn_istore (a := 2) (i := 15) rfl rfl _).trans ?_
  refine (dc_iload (a := 2) (i := 16) rfl rfl).trans ?_
  refine (dn_if (c := (fun x => decide (x = 0))) (t := 20) (i := 17) rfl _).trans (q_ite ?_ ?_)
  · refine (dc_iload (a := 1) (i := 20) rfl rfl).trans ?_
    refine (dn_if (c := (fun x => decide (¬ x = 0))) (t := 26) (i := 21) rfl _).trans (q_ite ?_ ?_)
    · refine (dc_iload (a := 1) (i := 26) rfl rfl).trans ?_
      refine (dc_ic (x := 1) (i := 27) rfl).trans ?_
      refine (dn_icmp (c := (fun x y => decide (¬ x = y))) (t := 33) (i := 28) rfl _ _).trans (q_ite ?_ ?_)
      · refine (dc_aload (a := 0) (i := 33) rfl rfl).trans ?_
        refine (dn_getA (ci := 8) (j := 4) (i := 34) rfl _).trans (congrArg (qg_a _ _ _ _) (funext fun r2 => ?_))
        refine (dn_getI (ci := 1) (j := 3) (i := 35) rfl _).trans (congrArg (qg_i _ _ _ _) (funext fun y3 => ?_))
        exact rfl
      · refine (dc_aload (a := 0) (i := 29) rfl rfl).trans ?_
        refine (dn_getA (ci := 8) (j := 4) (i := 30) rfl _).trans (congrArg (qg_a _ _ _ _) (funext fun r4 => ?_))
        refine (dn_getI (ci := 1) (j := 2) (i := 31) rfl _).trans (congrArg (qg_i _ _ _ _) (funext fun y5 => ?_))
        refine (dc_goto (t := 36) (i := 32) rfl).trans ?_
        exact rfl
    · refine (dc_aload (a := 0) (i := 22) rfl rfl).trans ?_
      refine (dn_getA (ci := 8) (j := 4) (i := 23) rfl _).trans (congrArg (qg_a _ _ _ _) (funext fun r6 => ?_))
      refine (dn_getI (ci := 1) (j := 1) (i := 24) rfl _).trans (congrArg (qg_i _ _ _ _) (funext fun y7 => ?_))
      exact dc_ireturn (i := 25) rfl _
  · refine (dc_iload (a := 2) (i := 18) rfl rfl).trans ?_
    exact dc_ireturn (i := 19) rfl _
theorem B35_36 {v0 : pO} {v1 : pO} {v2 : pO} {s0 : Int32} {hp : pH} : dn pg 35 36 [v0, v1, v2] [.int s0] hp = q_i s0 hp := by
  exact dc_ireturn (i := 36) rfl _
theorem B36_0 {o0 : Nat} {x1 : Int32} {hp : pH} : dn pg 36 0 [some (.ref o0), some (.int x1)] [] hp = qg_a hp o0 8 3 (fun r1 => qv hp r1 2 (qr_i (cl pg 29 [.ref r1] hp) (fun y2 hp1 => if y2 = (-6) then qg_a hp1 o0 8 4 (fun r3 => qg_a hp1 o0 8 0 (fun r4 => qg_a hp1 r4 6 0 (fun r5 => qg_a hp1 o0 8 3 (fun r6 => qv hp1 r3 1 (qr_v (cl pg 37 [.ref r3, .ref r5, .ref r6] hp1) (fun hp2 => if x1 = nI 0 then dn pg 36 24 [some (.ref o0), some (.int x1)] [] hp2 else qg_a hp2 o0 8 4 (fun r7 => qg_i hp2 r7 1 1 (fun y8 => if y8 = (-6) then dn pg 36 24 [some (.ref o0), some (.int x1)] [] hp2 else dn pg 36 25 [some (.ref o0), some (.int x1)] [.int (-3)] hp2)))))))) else q_i (-5) hp1))) := by
  refine (dc_aload (a := 0) (i := 0) rfl rfl).trans ?_
  refine (dn_getA (ci := 8) (j := 3) (i := 1) rfl _).trans (congrArg (qg_a _ _ _ _) (funext fun r1 => ?_))
  refine (dn_cV_i (i := 2) (y := 29) (na := 1) (ci := 2) rfl (pa_1 _ _) (Nat.le_of_ble_eq_true rfl) (Nat.le_of_ble_eq_true rfl)).trans (congrArg (fun F => qv _ _ _ (qr_i _ F)) (funext fun y2 => funext fun hp1 => ?_))
  refine (dc_ic (x := (-6)) (i := 3) rfl).trans ?_
  refine (dn_icmp (c := (fun x y => decide (x = y))) (t := 7) (i := 4) rfl _ _).trans (q_ite ?_ ?_)
  · refine (dc_aload (a := 0) (i := 7) rfl rfl).trans ?_
    refine (dn_getA (ci := 8) (j := 4) (i := 8) rfl _).trans (congrArg (qg_a _ _ _ _) (funext fun r3 => ?_))
    refine (dc_aload (a := 0) (i := 9) rfl rfl).trans ?_
    refine (dn_getA (ci := 8) (j := 0) (i := 10) rfl _).trans (congrArg (qg_a _ _ _ _) (funext fun r4 => ?_))
    refine (dn_getA (ci := 6) (j := 0) (i := 11) rfl _).trans (congrArg (qg_a _ _ _ _) (funext fun r5 => ?_))
    refine (dc_aload (a := 0) (i := 12) rfl rfl).trans ?_
    refine (dn_getA (ci := 8) (j := 3) (i := 13) rfl _).trans (congrArg (qg_a _ _ _ _) (funext fun r6 => ?_))
    refine (dn_cV_v (i := 14) (y := 37) (na := 3) (ci := 1) rfl (pa_3 _ _ _ _) (Nat.le_of_ble_eq_true rfl) (Nat.le_of_ble_eq_true rfl)).trans (congrArg (fun F => qv _ _ _ (qr_v _ F)) (funext fun hp2 => ?_))
    refine (dc_iload (a := 1) (i := 15) rfl rfl).trans ?_
    refine (dn_if (c := (fun x => decide (x = 0))) (t := 24) (i := 16) rfl _).trans (q_ite ?_ ?_)
    · exact rfl
    · refine (dc_aload (a := 0) (i := 17) rfl rfl).trans ?_
      refine (dn_getA (ci := 8) (j := 4) (i := 18) rfl _).trans (congrArg (qg_a _ _ _ _) (funext fun r7 => ?_))
      refine (dn_getI (ci := 1) (j := 1) (i := 19) rfl _).trans (congrArg (qg_i _ _ _ _) (funext fun y8 => ?_))
      refine (dc_ic (x := (-6)) (i := 20) rfl).trans ?_
      refine (dn_icmp (c := (fun x y => decide (x = y))) (t := 24) (i := 21) rfl _ _).trans (q_ite ?_ ?_)
      · exact rfl
      · refine (dc_ic (x := (-3)) (i := 22) rfl).trans ?_
        refine (dc_goto (t := 25) (i := 23) rfl).trans ?_
        exact rfl
  · refine (dc_ic (x := (-5)) (i := 5) rfl).trans ?_
    exact dc_ireturn (i := 6) rfl _
theorem B36_24 {v0 : pO} {v1 : pO} {hp : pH} : dn pg 36 24 [v0, v1] [] hp = dn pg 36 25 [v0, v1] [.int (nI 0)] hp := by
  refine (dc_ic (x := 0) (i := 24) rfl).trans ?_
  exact rfl
theorem B36_25 {v0 : pO} {v1 : pO} {s0 : Int32} {hp : pH} : dn pg 36 25 [v0, v1] [.int s0] hp = q_i s0 hp := by
  exact dc_ireturn (i := 25) rfl _
theorem B37_0 {o0 : Nat} {o1 : Nat} {v2 : pO} {v3 : pO} {v4 : pO} {hp : pH} (h2 : pm_nl v2 = true) : dn pg 37 0 [some (.ref o0), some (.ref o1), v2, v3, v4] [] hp = qv hp o0 1 (qr_v (cl pg 38 [.ref o0, .ref o1] hp) (fun hp1 => dn pg 37 5 [some (.ref o0), some (.ref o1), v2, some (.int (nI 0)), v4] [] hp1)) := by
  refine (dc_aload (a := 0) (i := 0) rfl rfl).trans ?_
  refine (dc_aload (a := 1) (i := 1) rfl rfl).trans ?_
  refine (dn_cV_v (i := 2) (y := 38) (na := 2) (ci := 1) rfl (pa_2 _ _ _) (Nat.le_of_ble_eq_true rfl) (Nat.le_of_ble_eq_true rfl)).trans (congrArg (fun F => qv _ _ _ (qr_v _ F)) (funext fun hp1 => ?_))
  refine (dc_ic (x := 0) (i := 3) rfl).trans ?_
  refine (dn_istore (a := 3) (i := 4) rfl (pm_ok_nl (Nat.le_of_ble_eq_true rfl) rfl h2) _).trans ?_
  exact rfl
theorem B37_5 {o0 : Nat} {v1 : pO} {o2 : Nat} {x3 : Int32} {v4 : pO} {hp : pH} : dn pg 37 5 [some (.ref o0), v1, some (.ref o2), some (.int x3), v4] [] hp = qg_i hp o2 2 5 (fun y1 => if y1 ≤ x3 then dn pg 37 52 [some (.ref o0), v1, some (.ref o2), some (.int x3), v4] [] hp else qg_i hp o0 1 1 (fun y2 => if ¬ y2 = (-6) then dn pg 37 52 [some (.ref o0), v1, some (.ref o2), some (.int x3), v4] [] hp else qg_a hp o0 1 0 (fun r3 => qv hp o2 2 (qr_i (cl pg 40 [.ref o2, .int x3] hp) (fun y4 hp1 => qv hp1 o2 2 (qr_i (cl pg 41 [.ref o2, .int x3] hp1) (fun y5 hp2 => qv hp2 o2 2 (qr_i (cl pg 42 [.ref o2, .int x3] hp2) (fun y6 hp3 => qv hp3 r3 7 (qr_i (cl pg 43 [.ref r3, .int y4, .int y5, .int y6] hp3) (fun y7 hp4 => if ¬ y7 = nI 0 then qp_v hp4 o0 1 1 (.int x3) (fun hp5 => qp_v hp5 o0 1 2 (.int y7) (fun hp6 => dn pg 37 50 [some (.ref o0), v1, some (.ref o2), some (.int x3), some (.int y7)] [] hp6)) else qg_a hp4 o0 1 0 (fun r8 => qv hp4 o2 2 (qr_i (cl pg 40 [.ref o2, .int x3] hp4) (fun y9 hp7 => qv hp7 o2 2 (qr_i (cl pg 41 [.ref o2, .int x3] hp7) (fun y10 hp8 => qv hp8 o2 2 (qr_i (cl pg 42 [.ref o2, .int x3] hp8) (fun y11 hp9 => qv hp9 r8 7 (qr_i (cl pg 49 [.ref r8, .int y9, .int y10, .int y11] hp9) (fun y12 hp10 => qv hp10 o0 1 (qr_v (cl pg 55 [.ref o0, .int x3, .int y12] hp10) (fun hp11 => dn pg 37 50 [some (.ref o0), v1, some (.ref o2), some (.int x3), some (.int y7)] [] hp11)))))))))))))))))))))) := by
  refine (dc_iload (a := 3) (i := 5) rfl rfl).trans ?_
  refine (dc_aload (a := 2) (i := 6) rfl rfl).trans ?_
  refine (dn_getI (ci := 2) (j := 5) (i := 7) rfl _).trans (congrArg (qg_i _ _ _ _) (funext fun y1 => ?_))
  refine (dn_icmp (c := (fun x y => decide (y ≤ x))) (t := 52) (i := 8) rfl _ _).trans (q_ite ?_ ?_)
  · exact rfl
  · refine (dc_aload (a := 0) (i := 9) rfl rfl).trans ?_
    refine (dn_getI (ci := 1) (j := 1) (i := 10) rfl _).trans (congrArg (qg_i _ _ _ _) (funext fun y2 => ?_))
    refine (dc_ic (x := (-6)) (i := 11) rfl).trans ?_
    refine (dn_icmp (c := (fun x y => decide (¬ x = y))) (t := 52) (i := 12) rfl _ _).trans (q_ite ?_ ?_)
    · exact rfl
    · refine (dc_aload (a := 0) (i := 13) rfl rfl).trans ?_
      refine (dn_getA (ci := 1) (j := 0) (i := 14) rfl _).trans (congrArg (qg_a _ _ _ _) (funext fun r3 => ?_))
      refine (dc_aload (a := 2) (i := 15) rfl rfl).trans ?_
      refine (dc_iload (a := 3) (i := 16) rfl rfl).trans ?_
      refine (dn_cV_i (i := 17) (y := 40) (na := 2) (ci := 2) rfl (pa_2 _ _ _) (Nat.le_of_ble_eq_true rfl) (Nat.le_of_ble_eq_true rfl)).trans (congrArg (fun F => qv _ _ _ (qr_i _ F)) (funext fun y4 => funext fun hp1 => ?_))
      refine (dc_aload (a := 2) (i := 18) rfl rfl).trans ?_
      refine (dc_iload (a := 3) (i := 19) rfl rfl).trans ?_
      refine (dn_cV_i (i := 20) (y := 41) (na := 2) (ci := 2) rfl (pa_2 _ _ _) (Nat.le_of_ble_eq_true rfl) (Nat.le_of_ble_eq_true rfl)).trans (congrArg (fun F => qv _ _ _ (qr_i _ F)) (funext fun y5 => funext fun hp2 => ?_))
      refine (dc_aload (a := 2) (i := 21) rfl rfl).trans ?_
      refine (dc_iload (a := 3) (i := 22) rfl rfl).trans ?_
      refine (dn_cV_i (i := 23) (y := 42) (na := 2) (ci := 2) rfl (pa_2 _ _ _) (Nat.le_of_ble_eq_true rfl) (Nat.le_of_ble_eq_true rfl)).trans (congrArg (fun F => qv _ _ _ (qr_i _ F)) (funext fun y6 => funext fun hp3 => ?_))
      refine (dn_cV_i (i := 24) (y := 43) (na := 4) (ci := 7) rfl (pa_4 _ _ _ _ _) (Nat.le_of_ble_eq_true rfl) (Nat.le_of_ble_eq_true rfl)).trans (congrArg (fun F => qv _ _ _ (qr_i _ F)) (funext fun y7 => funext fun hp4 => ?_))
      refine (dn_istore (a := 4) (i := 25) rfl rfl _).trans ?_
      refine (dc_iload (a := 4) (i := 26) rfl rfl).trans ?_
      refine (dn_if (c := (fun x => decide (¬ x = 0))) (t := 44) (i := 27) rfl _).trans (q_ite ?_ ?_)
      · refine (dc_aload (a := 0) (i := 44) rfl rfl).trans ?_
        refine (dc_iload (a := 3) (i := 45) rfl rfl).trans ?_
        refine (dn_putI (ci := 1) (j := 1) (i := 46) rfl _ _).trans (congrArg (qp_v _ _ _ _ _) (funext fun hp5 => ?_))
        refine (dc_aload (a := 0) (i := 47) rfl rfl).trans ?_
        refine (dc_iload (a := 4) (i := 48) rfl rfl).trans ?_
        refine (dn_putI (ci := 1) (j := 2) (i := 49) rfl _ _).trans (congrArg (qp_v _ _ _ _ _) (funext fun hp6 => ?_))
        exact rfl
      · refine (dc_aload (a := 0) (i := 28) rfl rfl).trans ?_
        refine (dc_iload (a := 3) (i := 29) rfl rfl).trans ?_
        refine (dc_aload (a := 0) (i := 30) rfl rfl).trans ?_
        refine (dn_getA (ci := 1) (j := 0) (i := 31) rfl _).trans (congrArg (qg_a _ _ _ _) (funext fun r8 => ?_))
        refine (dc_aload (a := 2) (i := 32) rfl rfl).trans ?_
        refine (dc_iload (a := 3) (i := 33) rfl rfl).trans ?_
        refine (dn_cV_i (i := 34) (y := 40) (na := 2) (ci := 2) rfl (pa_2 _ _ _) (Nat.le_of_ble_eq_true rfl) (Nat.le_of_ble_eq_true rfl)).trans (congrArg (fun F => qv _ _ _ (qr_i _ F)) (funext fun y9 => funext fun hp7 => ?_))
        refine (dc_aload (a := 2) (i := 35) rfl rfl).trans ?_
        refine (dc_iload (a := 3) (i := 36) rfl rfl).trans ?_
        refine (dn_cV_i (i := 37) (y := 41) (na := 2) (ci := 2) rfl (pa_2 _ _ _) (Nat.le_of_ble_eq_true rfl) (Nat.le_of_ble_eq_true rfl)).trans (congrArg (fun F => qv _ _ _ (qr_i _ F)) (funext fun y10 => funext fun hp8 => ?_))
        refine (dc_aload (a := 2) (i := 38) rfl rfl).trans ?_
        refine (dc_iload (a := 3) (i := 39) rfl rfl).trans ?_
        refine (dn_cV_i (i := 40) (y := 42) (na := 2) (ci := 2) rfl (pa_2 _ _ _) (Nat.le_of_ble_eq_true rfl) (Nat.le_of_ble_eq_true rfl)).trans (congrArg (fun F => qv _ _ _ (qr_i _ F)) (funext fun y11 => funext fun hp9 => ?_))
        refine (dn_cV_i (i := 41) (y := 49) (na := 4) (ci := 7) rfl (pa_4 _ _ _ _ _) (Nat.le_of_ble_eq_true rfl) (Nat.le_of_ble_eq_true rfl)).trans (congrArg (fun F => qv _ _ _ (qr_i _ F)) (funext fun y12 => funext fun hp10 => ?_))
        refine (dn_cV_v (i := 42) (y := 55) (na := 3) (ci := 1) rfl (pa_3 _ _ _ _) (Nat.le_of_ble_eq_true rfl) (Nat.le_of_ble_eq_true rfl)).trans (congrArg (fun F => qv _ _ _ (qr_v _ F)) (funext fun hp11 => ?_))
        refine (dc_goto (t := 50) (i := 43) rfl).trans ?_
        exact rfl
theorem B37_50 {v0 : pO} {v1 : pO} {v2 : pO} {x3 : Int32} {v4 : pO} {hp : pH} (h2 : pm_nl v2 = true) : dn pg 37 50 [v0, v1, v2, some (.int x3), v4] [] hp = dn pg 37 5 [v0, v1, v2, some (.int (x3 + nI 1)), v4] [] hp := by
  refine (dn_iinc (a := 3) (d := 1) (i := 50) rfl (pm_ok_nl (Nat.le_of_ble_eq_true rfl) rfl h2) rfl).trans ?_
  refine (dc_goto (t := 5) (i := 51) rfl).trans ?_
  exact rfl
theorem B37_52 {v0 : pO} {v1 : pO} {v2 : pO} {v3 : pO} {v4 : pO} {hp : pH} : dn pg 37 52 [v0, v1, v2, v3, v4] [] hp = q_v hp := by
  exact dc_return (i := 52) rfl
