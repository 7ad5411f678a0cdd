/-! Stretches of the code as equations; printed by wip/whole/gen_dn.py. -/
theorem B38_0 {o0 : Nat} {o1 : Nat} {hp : pH} : dn pg 38 0 [some (.ref o0), some (.ref o1)] [] hp = qg_a hp o0 1 0 (fun r1 => qv hp r1 7 (qr_v (cl pg 39 [.ref r1, .ref o1] hp) (fun hp1 => qp_v hp1 o0 1 1 (.int (-6)) (fun hp2 => qp_v hp2 o0 1 2 (.int (-6)) (fun hp3 => qp_v hp3 o0 1 3 (.int (nI 0)) (fun hp4 => qp_v hp4 o0 1 4 (.int (-6)) (fun hp5 => qp_v hp5 o0 1 5 (.int (-6)) (fun hp6 => q_v hp6)))))))) := by
  refine (dc_aload (a := 0) (i := 0) rfl rfl).trans ?_
  refine (dn_getA (ci := 1) (j := 0) (i := 1) rfl _).trans (congrArg (qg_a _ _ _ _) (funext fun r1 => ?_))
  refine (dc_aload (a := 1) (i := 2) rfl rfl).trans ?_
  refine (dn_cV_v (i := 3) (y := 39) (na := 2) (ci := 7) rfl (pa_2 _ _ _) (Nat.le_of_ble_eq_true rfl) (Nat.le_of_ble_eq_true rfl)).trans (congrArg (fun F => qv _ _ _ (qr_v _ F)) (funext fun hp1 => ?_))
  refine (dc_aload (a := 0) (i := 4) rfl rfl).trans ?_
  refine (dc_ic (x := (-6)) (i := 5) rfl).trans ?_
  refine (dn_putI (ci := 1) (j := 1) (i := 6) rfl _ _).trans (congrArg (qp_v _ _ _ _ _) (funext fun hp2 => ?_))
  refine (dc_aload (a := 0) (i := 7) rfl rfl).trans ?_
  refine (dc_ic (x := (-6)) (i := 8) rfl).trans ?_
  refine (dn_putI (ci := 1) (j := 2) (i := 9) rfl _ _).trans (congrArg (qp_v _ _ _ _ _) (funext fun hp3 => ?_))
  refine (dc_aload (a := 0) (i := 10) rfl rfl).trans ?_
  refine (dc_ic (x := 0) (i := 11) rfl).trans ?_
  refine (dn_putI (ci := 1) (j := 3) (i := 12) rfl _ _).trans (congrArg (qp_v _ _ _ _ _) (funext fun hp4 => ?_))
  refine (dc_aload (a := 0) (i := 13) rfl rfl).trans ?_
  refine (dc_ic (x := (-6)) (i := 14) rfl).trans ?_
  refine (dn_putI (ci := 1) (j := 4) (i := 15) rfl _ _).trans (congrArg (qp_v _ _ _ _ _) (funext fun hp5 => ?_))
  refine (dc_aload (a := 0) (i := 16) rfl rfl).trans ?_
  refine (dc_ic (x := (-6)) (i := 17) rfl).trans ?_
  refine (dn_putI (ci := 1) (j := 5) (i := 18) rfl _ _).trans (congrArg (qp_v _ _ _ _ _) (funext fun hp6 => ?_))
  exact dc_return (i := 19) rfl
theorem B39_0 {v0 : pO} {v1 : pO} {v2 : pO} {hp : pH} (h1 : pm_nl v1 = true) : dn pg 39 0 [v0, v1, v2] [] hp = dn pg 39 2 [v0, v1, some (.int (nI 0))] [] hp := by
  refine (dc_ic (x := 0) (i := 0) rfl).trans ?_
  refine (dn_istore (a := 2) (i := 1) rfl (pm_ok_nl (Nat.le_of_ble_eq_true rfl) rfl h1) _).trans ?_
  exact rfl
theorem B39_2 {o0 : Nat} {o1 : Nat} {x2 : Int32} {hp : pH} : dn pg 39 2 [some (.ref o0), some (.ref o1), some (.int x2)] [] hp = if (nI 8) ≤ x2 then qg_i hp o1 7 5 (fun y1 => qp_v hp o0 7 5 (.int y1) (fun hp1 => qg_i hp1 o1 7 6 (fun y2 => qp_v hp1 o0 7 6 (.int y2) (fun hp2 => qg_i hp2 o1 7 7 (fun y3 => qp_v hp2 o0 7 7 (.int y3) (fun hp3 => q_v hp3)))))) else qg_a hp o0 7 0 (fun r4 => qg_a hp o1 7 0 (fun r5 => qa_i hp r5 0 x2 (fun y6 => qx_i hp r4 0 x2 y6 (fun hp4 => qg_a hp4 o0 7 1 (fun r7 => qg_a hp4 o1 7 1 (fun r8 => qa_i hp4 r8 0 x2 (fun y9 => qx_i hp4 r7 0 x2 y9 (fun hp5 => qg_a hp5 o0 7 2 (fun r10 => qg_a hp5 o1 7 2 (fun r11 => qa_i hp5 r11 0 x2 (fun y12 => qx_i hp5 r10 0 x2 y12 (fun hp6 => qg_a hp6 o0 7 3 (fun r13 => qg_a hp6 o1 7 3 (fun r14 => qa_i hp6 r14 0 x2 (fun y15 => qx_i hp6 r13 0 x2 y15 (fun hp7 => dn pg 39 2 [some (.ref o0), some (.ref o1), some (.int (x2 + nI 1))] [] hp7)))))))))))))))) := by
  refine (dc_iload (a := 2) (i := 2) rfl rfl).trans ?_
  refine (dc_ic (x := 8) (i := 3) rfl).trans ?_
  refine (dn_icmp (c := (fun x y => decide (y ≤ x))) (t := 39) (i := 4) rfl _ _).trans (q_ite ?_ ?_)
  · refine (dc_aload (a := 0) (i := 39) rfl rfl).trans ?_
    refine (dc_aload (a := 1) (i := 40) rfl rfl).trans ?_
    refine (dn_getI (ci := 7) (j := 5) (i := 41) rfl _).trans (congrArg (qg_i _ _ _ _) (funext fun y1 => ?_))
    refine (dn_putI (ci := 7) (j := 5) (i := 42) rfl _ _).trans (congrArg (qp_v _ _ _ _ _) (funext fun hp1 => ?_))
    refine (dc_aload (a := 0) (i := 43) rfl rfl).trans ?_
    refine (dc_aload (a := 1) (i := 44) rfl rfl).trans ?_
    refine (dn_getI (ci := 7) (j := 6) (i := 45) rfl _).trans (congrArg (qg_i _ _ _ _) (funext fun y2 => ?_))
    refine (dn_putI (ci := 7) (j := 6) (i := 46) rfl _ _).trans (congrArg (qp_v _ _ _ _ _) (funext fun hp2 => ?_))
    refine (dc_aload (a := 0) (i := 47) rfl rfl).trans ?_
    refine (dc_aload (a := 1) (i := 48) rfl rfl).trans ?_
    refine (dn_getI (ci := 7) (j := 7) (i := 49) rfl _).trans (congrArg (qg_i _ _ _ _) (funext fun y3 => ?_))
    refine (dn_putI (ci := 7) (j := 7) (i := 50) rfl _ _).trans (congrArg (qp_v _ _ _ _ _) (funext fun hp3 => ?_))
    exact dc_return (i := 51) rfl
  · refine (dc_aload (a := 0) (i := 5) rfl rfl).trans ?_
    refine (dn_getA (ci := 7) (j := 0) (i := 6) rfl _).trans (congrArg (qg_a _ _ _ _) (funext fun r4 => ?_))
    refine (dc_iload (a := 2) (i := 7) rfl rfl).trans ?_
    refine (dc_aload (a := 1) (i := 8) rfl rfl).trans ?_
    refine (dn_getA (ci := 7) (j := 0) (i := 9) rfl _).trans (congrArg (qg_a _ _ _ _) (funext fun r5 => ?_))
    refine (dc_iload (a := 2) (i := 10) rfl rfl).trans ?_
    refine (dn_iald (t := 0) (i := 11) rfl _ _).trans (congrArg (qa_i _ _ _ _) (funext fun y6 => ?_))
    refine (dn_iast (i := 12) rfl _ _ _).trans (congrArg (qx_i _ _ _ _ _) (funext fun hp4 => ?_))
    refine (dc_aload (a := 0) (i := 13) rfl rfl).trans ?_
    refine (dn_getA (ci := 7) (j := 1) (i := 14) rfl _).trans (congrArg (qg_a _ _ _ _) (funext fun r7 => ?_))
    refine (dc_iload (a := 2) (i := 15) rfl rfl).trans ?_
    refine (dc_aload (a := 1) (i := 16) rfl rfl).trans ?_
    refine (dn_getA (ci := 7) (j := 1) (i := 17) rfl _).trans (congrArg (qg_a _ _ _ _) (funext fun r8 => ?_))
    refine (dc_iload (a := 2) (i := 18) rfl rfl).trans ?_
    refine (dn_iald (t := 0) (i := 19) rfl _ _).trans (congrArg (qa_i _ _ _ _) (funext fun y9 => ?_))
    refine (dn_iast (i := 20) rfl _ _ _).trans (congrArg (qx_i _ _ _ _ _) (funext fun hp5 => ?_))
    refine (dc_aload (a := 0) (i := 21) rfl rfl).trans ?_
    refine (dn_getA (ci := 7) (j := 2) (i := 22) rfl _).trans (congrArg (qg_a _ _ _ _) (funext fun r10 => ?_))
    refine (dc_iload (a := 2) (i := 23) rfl rfl).trans ?_
    refine (dc_aload (a := 1) (i := 24) rfl rfl).trans ?_
    refine (dn_getA (ci := 7) (j := 2) (i := 25) rfl _).trans (congrArg (qg_a _ _ _ _) (funext fun r11 => ?_))
    refine (dc_iload (a := 2) (i := 26) rfl rfl).trans ?_
    refine (dn_iald (t := 0) (i := 27) rfl _ _).trans (congrArg (qa_i _ _ _ _) (funext fun y12 => ?_))
    refine (dn_iast (i := 28) rfl _ _ _).trans (congrArg (qx_i _ _ _ _ _) (funext fun hp6 => ?_))
    refine (dc_aload (a := 0) (i := 29) rfl rfl).trans ?_
    refine (dn_getA (ci := 7) (j := 3) (i := 30) rfl _).trans (congrArg (qg_a _ _ _ _) (funext fun r13 => ?_))
    refine (dc_iload (a := 2) (i := 31) rfl rfl).trans ?_
    refine (dc_aload (a := 1) (i := 32) rfl rfl).trans ?_
    refine (dn_getA (ci := 7) (j := 3) (i := 33) rfl _).trans (congrArg (qg_a _ _ _ _) (funext fun r14 => ?_))
    refine (dc_iload (a := 2) (i := 34) rfl rfl).trans ?_
    refine (dn_iald (t := 0) (i := 35) rfl _ _).trans (congrArg (qa_i _ _ _ _) (funext fun y15 => ?_))
    refine (dn_iast (i := 36) rfl _ _ _).trans (congrArg (qx_i _ _ _ _ _) (funext fun hp7 => ?_))
    refine (dn_iinc (a := 2) (d := 1) (i := 37) rfl rfl rfl).trans ?_
    refine (dc_goto (t := 2) (i := 38) rfl).trans ?_
    exact rfl
theorem B40_0 {o0 : Nat} {x1 : Int32} {hp : pH} : dn pg 40 0 [some (.ref o0), some (.int x1)] [] hp = qr_i (cl pg 11 [.int x1, .int (nI 0), .int (nI 59)] hp) (fun y1 hp1 => if y1 = nI 0 then dn pg 40 11 [some (.ref o0), some (.int x1)] [.int (-6)] hp1 else qg_a hp1 o0 2 1 (fun r2 => qa_i hp1 r2 0 x1 (fun y3 => dn pg 40 11 [some (.ref o0), some (.int x1)] [.int y3] hp1))) := by
  refine (dc_iload (a := 1) (i := 0) rfl rfl).trans ?_
  refine (dc_ic (x := 0) (i := 1) rfl).trans ?_
  refine (dc_ic (x := 59) (i := 2) rfl).trans ?_
  refine (dn_cS_i (i := 3) (y := 11) (na := 3) rfl (pa_3 _ _ _ _) (Nat.le_of_ble_eq_true rfl) (Nat.le_of_ble_eq_true rfl)).trans (congrArg (qr_i _) (funext fun y1 => funext fun hp1 => ?_))
  refine (dn_if (c := (fun x => decide (x = 0))) (t := 10) (i := 4) rfl _).trans (q_ite ?_ ?_)
  · refine (dc_ic (x := (-6)) (i := 10) rfl).trans ?_
    exact rfl
  · refine (dc_aload (a := 0) (i := 5) rfl rfl).trans ?_
    refine (dn_getA (ci := 2) (j := 1) (i := 6) rfl _).trans (congrArg (qg_a _ _ _ _) (funext fun r2 => ?_))
    refine (dc_iload (a := 1) (i := 7) rfl rfl).trans ?_
    refine (dn_iald (t := 0) (i := 8) rfl _ _).trans (congrArg (qa_i _ _ _ _) (funext fun y3 => ?_))
    refine (dc_goto (t := 11) (i := 9) rfl).trans ?_
    exact rfl
theorem B40_11 {v0 : pO} {v1 : pO} {s0 : Int32} {hp : pH} : dn pg 40 11 [v0, v1] [.int s0] hp = q_i s0 hp := by
  exact dc_ireturn (i := 11) rfl _
theorem B41_0 {o0 : Nat} {x1 : Int32} {hp : pH} : dn pg 41 0 [some (.ref o0), some (.int x1)] [] hp = qr_i (cl pg 11 [.int x1, .int (nI 0), .int (nI 59)] hp) (fun y1 hp1 => if y1 = nI 0 then dn pg 41 11 [some (.ref o0), some (.int x1)] [.int (-6)] hp1 else qg_a hp1 o0 2 2 (fun r2 => qa_i hp1 r2 0 x1 (fun y3 => dn pg 41 11 [some (.ref o0), some (.int x1)] [.int y3] hp1))) := by
  refine (dc_iload (a := 1) (i := 0) rfl rfl).trans ?_
  refine (dc_ic (x := 0) (i := 1) rfl).trans ?_
  refine (dc_ic (x := 59) (i := 2) rfl).trans ?_
  refine (dn_cS_i (i := 3) (y := 11) (na := 3) rfl (pa_3 _ _ _ _) (Nat.le_of_ble_eq_true rfl) (Nat.le_of_ble_eq_true rfl)).trans (congrArg (qr_i _) (funext fun y1 => funext fun hp1 => ?_))
  refine (dn_if (c := (fun x => decide (x = 0))) (t := 10) (i := 4) rfl _).trans (q_ite ?_ ?_)
  · refine (dc_ic (x := (-6)) (i := 10) rfl).trans ?_
    exact rfl
  · refine (dc_aload (a := 0) (i := 5) rfl rfl).trans ?_
    refine (dn_getA (ci := 2) (j := 2) (i := 6) rfl _).trans (congrArg (qg_a _ _ _ _) (funext fun r2 => ?_))
    refine (dc_iload (a := 1) (i := 7) rfl rfl).trans ?_
    refine (dn_iald (t := 0) (i := 8) rfl _ _).trans (congrArg (qa_i _ _ _ _) (funext fun y3 => ?_))
    refine (dc_goto (t := 11) (i := 9) rfl).trans ?_
    exact rfl
theorem B41_11 {v0 : pO} {v1 : pO} {s0 : Int32} {hp : pH} : dn pg 41 11 [v0, v1] [.int s0] hp = q_i s0 hp := by
  exact dc_ireturn (i := 11) rfl _
theorem B42_0 {o0 : Nat} {x1 : Int32} {hp : pH} : dn pg 42 0 [some (.ref o0), some (.int x1)] [] hp = qr_i (cl pg 11 [.int x1, .int (nI 0), .int (nI 59)] hp) (fun y1 hp1 => if y1 = nI 0 then dn pg 42 11 [some (.ref o0), some (.int x1)] [.int (-6)] hp1 else qg_a hp1 o0 2 3 (fun r2 => qa_i hp1 r2 0 x1 (fun y3 => dn pg 42 11 [some (.ref o0), some (.int x1)] [.int y3] hp1))) := by
  refine (dc_iload (a := 1) (i := 0) rfl rfl).trans ?_
  refine (dc_ic (x := 0) (i := 1) rfl).trans ?_
  refine (dc_ic (x := 59) (i := 2) rfl).trans ?_
  refine (dn_cS_i (i := 3) (y := 11) (na := 3) rfl (pa_3 _ _ _ _) (Nat.le_of_ble_eq_true rfl) (Nat.le_of_ble_eq_true rfl)).trans (congrArg (qr_i _) (funext fun y1 => funext fun hp1 => ?_))
  refine (dn_if (c := (fun x => decide (x = 0))) (t := 10) (i := 4) rfl _).trans (q_ite ?_ ?_)
  · refine (dc_ic (x := (-6)) (i := 10) rfl).trans ?_
    exact rfl
  · refine (dc_aload (a := 0) (i := 5) rfl rfl).trans ?_
    refine (dn_getA (ci := 2) (j := 3) (i := 6) rfl _).trans (congrArg (qg_a _ _ _ _) (funext fun r2 => ?_))
    refine (dc_iload (a := 1) (i := 7) rfl rfl).trans ?_
    refine (dn_iald (t := 0) (i := 8) rfl _ _).trans (congrArg (qa_i _ _ _ _) (funext fun y3 => ?_))
    refine (dc_goto (t := 11) (i := 9) rfl).trans ?_
    exact rfl
theorem B42_11 {v0 : pO} {v1 : pO} {s0 : Int32} {hp : pH} : dn pg 42 11 [v0, v1] [.int s0] hp = q_i s0 hp := by
  exact dc_ireturn (i := 11) rfl _
theorem B43_0 {o0 : Nat} {x1 : Int32} {x2 : Int32} {x3 : Int32} {hp : pH} : dn pg 43 0 [some (.ref o0), some (.int x1), some (.int x2), some (.int x3)] [] hp = if x1 = nI 1 then qv hp o0 7 (qr_i (cl pg 44 [.ref o0, .int x2] hp) (fun y1 hp1 => if y1 = nI 0 then dn pg 43 9 [some (.ref o0), some (.int x1), some (.int x2), some (.int x3)] [.int (nI 0)] hp1 else dn pg 43 9 [some (.ref o0), some (.int x1), some (.int x2), some (.int x3)] [.int (nI 1)] hp1)) else if x1 = nI 2 then qv hp o0 7 (qr_i (cl pg 44 [.ref o0, .int x2] hp) (fun y2 hp2 => if y2 = nI 0 then dn pg 43 17 [some (.ref o0), some (.int x1), some (.int x2), some (.int x3)] [.int (nI 1)] hp2 else dn pg 43 17 [some (.ref o0), some (.int x1), some (.int x2), some (.int x3)] [.int (nI 0)] hp2)) else if x1 = nI 3 then qv hp o0 7 (qr_i (cl pg 44 [.ref o0, .int x3] hp) (fun y3 hp3 => if ¬ y3 = nI 0 then if ¬ x2 = x3 then dn pg 43 30 [some (.ref o0), some (.int x1), some (.int x2), some (.int x3)] [.int (nI 0)] hp3 else dn pg 43 30 [some (.ref o0), some (.int x1), some (.int x2), some (.int x3)] [.int (nI 2)] hp3 else q_i (nI 1) hp3)) else if x1 = nI 4 then qv hp o0 7 (qr_i (cl pg 46 [.ref o0, .int x2, .int x3] hp) (fun y4 hp4 => q_i y4 hp4)) else if x1 = nI 5 then qv hp o0 7 (qr_i (cl pg 48 [.ref o0, .int x2] hp) (fun y5 hp5 => if y5 < (nI 9) then dn pg 43 44 [some (.ref o0), some (.int x1), some (.int x2), some (.int x3)] [.int (nI 0)] hp5 else dn pg 43 44 [some (.ref o0), some (.int x1), some (.int x2), some (.int x3)] [.int (nI 5)] hp5)) else if x1 = nI 7 then qg_i hp o0 7 7 (fun y6 => if y6 < (nI 99) then dn pg 43 63 [some (.ref o0), some (.int x1), some (.int x2), some (.int x3)] [.int (nI 0)] hp else dn pg 43 63 [some (.ref o0), some (.int x1), some (.int x2), some (.int x3)] [.int (nI 6)] hp) else if x1 = nI 8 then qv hp o0 7 (qr_i (cl pg 48 [.ref o0, .int x2] hp) (fun y7 hp6 => if y7 ≤ nI 0 then dn pg 43 52 [some (.ref o0), some (.int x1), some (.int x2), some (.int x3)] [] hp6 else qg_i hp6 o0 7 6 (fun y8 => if nI 0 < y8 then dn pg 43 55 [some (.ref o0), some (.int x1), some (.int x2), some (.int x3)] [.int (nI 0)] hp6 else dn pg 43 52 [some (.ref o0), some (.int x1), some (.int x2), some (.int x3)] [] hp6))) else q_i (nI 0) hp := by
  refine (dc_iload (a := 1) (i := 0) rfl rfl).trans ?_
  refine (dn_sw2 (d := 64) (l := [(1, 2), (2, 10), (3, 18), (4, 31), (5, 36), (7, 56), (8, 45)]) (i := 1) rfl _).trans ?_
  refine q_swc ?_ ?_
  · refine (dc_aload (a := 0) (i := 2) rfl rfl).trans ?_
    refine (dc_iload (a := 2) (i := 3) rfl rfl).trans ?_
    refine (dn_cV_i (i := 4) (y := 44) (na := 2) (ci := 7) rfl (pa_2 _ _ _) (Nat.le_of_ble_eq_true rfl) (Nat.le_of_ble_eq_true rfl)).trans (congrArg (fun F => qv _ _ _ (qr_i _ F)) (funext fun y1 => funext fun hp1 => ?_))
    refine (dn_if (c := (fun x => decide (x = 0))) (t := 8) (i := 5) rfl _).trans (q_ite ?_ ?_)
    · refine (dc_ic (x := 0) (i := 8) rfl).trans ?_
      exact rfl
    · refine (dc_ic (x := 1) (i := 6) rfl).trans ?_
      refine (dc_goto (t := 9) (i := 7) rfl).trans ?_
      exact rfl
  refine q_swc ?_ ?_
  · refine (dc_aload (a := 0) (i := 10) rfl rfl).trans ?_
    refine (dc_iload (a := 2) (i := 11) rfl rfl).trans ?_
    refine (dn_cV_i (i := 12) (y := 44) (na := 2) (ci := 7) rfl (pa_2 _ _ _) (Nat.le_of_ble_eq_true rfl) (Nat.le_of_ble_eq_true rfl)).trans (congrArg (fun F => qv _ _ _ (qr_i _ F)) (funext fun y2 => funext fun hp2 => ?_))
    refine (dn_if (c := (fun x => decide (x = 0))) (t := 16) (i := 13) rfl _).trans (q_ite ?_ ?_)
    · refine (dc_ic (x := 1) (i := 16) rfl).trans ?_
      exact rfl
    · refine (dc_ic (x := 0) (i := 14) rfl).trans ?_
      refine (dc_goto (t := 17) (i := 15) rfl).trans ?_
      exact rfl
  refine q_swc ?_ ?_
  · refine (dc_aload (a := 0) (i := 18) rfl rfl).trans ?_
    refine (dc_iload (a := 3) (i := 19) rfl rfl).trans ?_
    refine (dn_cV_i (i := 20) (y := 44) (na := 2) (ci := 7) rfl (pa_2 _ _ _) (Nat.le_of_ble_eq_true rfl) (Nat.le_of_ble_eq_true rfl)).trans (congrArg (fun F => qv _ _ _ (qr_i _ F)) (funext fun y3 => funext fun hp3 => ?_))
    refine (dn_if (c := (fun x => decide (¬ x = 0))) (t := 24) (i := 21) rfl _).trans (q_ite ?_ ?_)
    · refine (dc_iload (a := 2) (i := 24) rfl rfl).trans ?_
      refine (dc_iload (a := 3) (i := 25) rfl rfl).trans ?_
      refine (dn_icmp (c := (fun x y => decide (¬ x = y))) (t := 29) (i := 26) rfl _ _).trans (q_ite ?_ ?_)
      · refine (dc_ic (x := 0) (i := 29) rfl).trans ?_
        exact rfl
      · refine (dc_ic (x := 2) (i := 27) rfl).trans ?_
        refine (dc_goto (t := 30) (i := 28) rfl).trans ?_
        exact rfl
    · refine (dc_ic (x := 1) (i := 22) rfl).trans ?_
      exact dc_ireturn (i := 23) rfl _
  refine q_swc ?_ ?_
  · refine (dc_aload (a := 0) (i := 31) rfl rfl).trans ?_
    refine (dc_iload (a := 2) (i := 32) rfl rfl).trans ?_
    refine (dc_iload (a := 3) (i := 33) rfl rfl).trans ?_
    refine (dn_cV_i (i := 34) (y := 46) (na := 3) (ci := 7) rfl (pa_3 _ _ _ _) (Nat.le_of_ble_eq_true rfl) (Nat.le_of_ble_eq_true rfl)).trans (congrArg (fun F => qv _ _ _ (qr_i _ F)) (funext fun y4 => funext fun hp4 => ?_))
    exact dc_ireturn (i := 35) rfl _
  refine q_swc ?_ ?_
  · refine (dc_aload (a := 0) (i := 36) rfl rfl).trans ?_
    refine (dc_iload (a := 2) (i := 37) rfl rfl).trans ?_
    refine (dn_cV_i (i := 38) (y := 48) (na := 2) (ci := 7) rfl (pa_2 _ _ _) (Nat.le_of_ble_eq_true rfl) (Nat.le_of_ble_eq_true rfl)).trans (congrArg (fun F => qv _ _ _ (qr_i _ F)) (funext fun y5 => funext fun hp5 => ?_))
    refine (dc_ic (x := 9) (i := 39) rfl).trans ?_
    refine (dn_icmp (c := (fun x y => decide (x < y))) (t := 43) (i := 40) rfl _ _).trans (q_ite ?_ ?_)
    · refine (dc_ic (x := 0) (i := 43) rfl).trans ?_
      exact rfl
    · refine (dc_ic (x := 5) (i := 41) rfl).trans ?_
      refine (dc_goto (t := 44) (i := 42) rfl).trans ?_
      exact rfl
  refine q_swc ?_ ?_
  · refine (dc_aload (a := 0) (i := 56) rfl rfl).trans ?_
    refine (dn_getI (ci := 7) (j := 7) (i := 57) rfl _).trans (congrArg (qg_i _ _ _ _) (funext fun y6 => ?_))
    refine (dc_ic (x := 99) (i := 58) rfl).trans ?_
    refine (dn_icmp (c := (fun x y => decide (x < y))) (t := 62) (i := 59) rfl _ _).trans (q_ite ?_ ?_)
    · refine (dc_ic (x := 0) (i := 62) rfl).trans ?_
      exact rfl
    · refine (dc_ic (x := 6) (i := 60) rfl).trans ?_
      refine (dc_goto (t := 63) (i := 61) rfl).trans ?_
      exact rfl
  refine q_swc ?_ ?_
  · refine (dc_aload (a := 0) (i := 45) rfl rfl).trans ?_
    refine (dc_iload (a := 2) (i := 46) rfl rfl).trans ?_
    refine (dn_cV_i (i := 47) (y := 48) (na := 2) (ci := 7) rfl (pa_2 _ _ _) (Nat.le_of_ble_eq_true rfl) (Nat.le_of_ble_eq_true rfl)).trans (congrArg (fun F => qv _ _ _ (qr_i _ F)) (funext fun y7 => funext fun hp6 => ?_))
    refine (dn_if (c := (fun x => decide (x ≤ 0))) (t := 52) (i := 48) rfl _).trans (q_ite ?_ ?_)
    · exact rfl
    · refine (dc_aload (a := 0) (i := 49) rfl rfl).trans ?_
      refine (dn_getI (ci := 7) (j := 6) (i := 50) rfl _).trans (congrArg (qg_i _ _ _ _) (funext fun y8 => ?_))
      refine (dn_if (c := (fun x => decide (0 < x))) (t := 54) (i := 51) rfl _).trans (q_ite ?_ ?_)
      · refine (dc_ic (x := 0) (i := 54) rfl).trans ?_
        exact rfl
      · exact rfl
  refine q_swn ?_
  refine (dc_ic (x := 0) (i := 64) rfl).trans ?_
  exact dc_ireturn (i := 65) rfl _
theorem B43_9 {v0 : pO} {v1 : pO} {v2 : pO} {v3 : pO} {s0 : Int32} {hp : pH} : dn pg 43 9 [v0, v1, v2, v3] [.int s0] hp = q_i s0 hp := by
  exact dc_ireturn (i := 9) rfl _
theorem B43_17 {v0 : pO} {v1 : pO} {v2 : pO} {v3 : pO} {s0 : Int32} {hp : pH} : dn pg 43 17 [v0, v1, v2, v3] [.int s0] hp = q_i s0 hp := by
  exact dc_ireturn (i := 17) rfl _
theorem B43_30 {v0 : pO} {v1 : pO} {v2 : pO} {v3 : pO} {s0 : Int32} {hp : pH} : dn pg 43 30 [v0, v1, v2, v3] [.int s0] hp = q_i s0 hp := by
  exact dc_ireturn (i := 30) rfl _
theorem B43_44 {v0 : pO} {v1 : pO} {v2 : pO} {v3 : pO} {s0 : Int32} {hp : pH} : dn pg 43 44 [v0, v1, v2, v3] [.int s0] hp = q_i s0 hp := by
  exact dc_ireturn (i := 44) rfl _
theorem B43_52 {v0 : pO} {v1 : pO} {v2 : pO} {v3 : pO} {hp : pH} : dn pg 43 52 [v0, v1, v2, v3] [] hp = dn pg 43 55 [v0, v1, v2, v3] [.int (nI 5)] hp := by
  refine (dc_ic (x := 5) (i := 52) rfl).trans ?_
  refine (dc_goto (t := 55) (i := 53) rfl).trans ?_
  exact rfl
theorem B43_55 {v0 : pO} {v1 : pO} {v2 : pO} {v3 : pO} {s0 : Int32} {hp : pH} : dn pg 43 55 [v0, v1, v2, v3] [.int s0] hp = q_i s0 hp := by
  exact dc_ireturn (i := 55) rfl _
theorem B43_63 {v0 : pO} {v1 : pO} {v2 : pO} {v3 : pO} {s0 : Int32} {hp : pH} : dn pg 43 63 [v0, v1, v2, v3] [.int s0] hp = q_i s0 hp := by
  exact dc_ireturn (i := 63) rfl _
theorem B44_0 {o0 : Nat} {x1 : Int32} {hp : pH} : dn pg 44 0 [some (.ref o0), some (.int x1)] [] hp = qg_i hp o0 7 5 (fun y1 => qr_i (cl pg 45 [.int y1, .int x1] hp) (fun y2 hp1 => qz y2 (q_i y2 hp1))) := by
  refine (dc_aload (a := 0) (i := 0) rfl rfl).trans ?_
  refine (dn_getI (ci := 7) (j := 5) (i := 1) rfl _).trans (congrArg (qg_i _ _ _ _) (funext fun y1 => ?_))
  refine (dc_iload (a := 1) (i := 2) rfl rfl).trans ?_
  refine (dn_cS_i (i := 3) (y := 45) (na := 2) rfl (pa_2 _ _ _) (Nat.le_of_ble_eq_true rfl) (Nat.le_of_ble_eq_true rfl)).trans (congrArg (qr_i _) (funext fun y2 => funext fun hp1 => ?_))
  exact dn_zret (i := 4) rfl _
theorem B45_0 {x0 : Int32} {x1 : Int32} {hp : pH} : dn pg 45 0 [some (.int x0), some (.int x1)] [] hp = if ((x0 >>> (x1 &&& nI 31)) &&& (nI 1)) = nI 0 then dn pg 45 9 [some (.int x0), some (.int x1)] [.int (nI 0)] hp else dn pg 45 9 [some (.int x0), some (.int x1)] [.int (nI 1)] hp := by
  refine (dc_iload (a := 0) (i := 0) rfl rfl).trans ?_
  refine (dc_iload (a := 1) (i := 1) rfl rfl).trans ?_
  refine (dc_bin (f := (fun x y => x >>> (y &&& 31))) (i := 2) rfl _ _).trans ?_
  refine (dc_ic (x := 1) (i := 3) rfl).trans ?_
  refine (dc_bin (f := (fun x y => x &&& y)) (i := 4) rfl _ _).trans ?_
  refine (dn_if (c := (fun x => decide (x = 0))) (t := 8) (i := 5) rfl _).trans (q_ite ?_ ?_)
  · refine (dc_ic (x := 0) (i := 8) rfl).trans ?_
    exact rfl
  · refine (dc_ic (x := 1) (i := 6) rfl).trans ?_
    refine (dc_goto (t := 9) (i := 7) rfl).trans ?_
    exact rfl
theorem B45_9 {v0 : pO} {v1 : pO} {s0 : Int32} {hp : pH} : dn pg 45 9 [v0, v1] [.int s0] hp = qz s0 (q_i s0 hp) := by
  exact dn_zret (i := 9) rfl _
theorem B46_0 {o0 : Nat} {x1 : Int32} {x2 : Int32} {hp : pH} : dn pg 46 0 [some (.ref o0), some (.int x1), some (.int x2)] [] hp = if ¬ x1 = x2 then qv hp o0 7 (qr_i (cl pg 12 [.ref o0, .int x1] hp) (fun y1 hp1 => qv hp1 o0 7 (qr_i (cl pg 12 [.ref o0, .int x2] hp1) (fun y2 hp2 => if y1 = y2 then dn pg 46 22 [some (.ref o0), some (.int x1), some (.int x2)] [] hp2 else qv hp2 o0 7 (qr_i (cl pg 44 [.ref o0, .int x1] hp2) (fun y3 hp3 => if ¬ y3 = nI 0 then dn pg 46 20 [some (.ref o0), some (.int x1), some (.int x2)] [] hp3 else qv hp3 o0 7 (qr_i (cl pg 44 [.ref o0, .int x2] hp3) (fun y4 hp4 => if y4 = nI 0 then dn pg 46 22 [some (.ref o0), some (.int x1), some (.int x2)] [] hp4 else dn pg 46 20 [some (.ref o0), some (.int x1), some (.int x2)] [] hp4)))))))) else q_i (nI 2) hp := by
  refine (dc_iload (a := 1) (i := 0) rfl rfl).trans ?_
  refine (dc_iload (a := 2) (i := 1) rfl rfl).trans ?_
  refine (dn_icmp (c := (fun x y => decide (¬ x = y))) (t := 5) (i := 2) rfl _ _).trans (q_ite ?_ ?_)
  · refine (dc_aload (a := 0) (i := 5) rfl rfl).trans ?_
    refine (dc_iload (a := 1) (i := 6) rfl rfl).trans ?_
    refine (dn_cV_i (i := 7) (y := 12) (na := 2) (ci := 7) rfl (pa_2 _ _ _) (Nat.le_of_ble_eq_true rfl) (Nat.le_of_ble_eq_true rfl)).trans (congrArg (fun F => qv _ _ _ (qr_i _ F)) (funext fun y1 => funext fun hp1 => ?_))
    refine (dc_aload (a := 0) (i := 8) rfl rfl).trans ?_
    refine (dc_iload (a := 2) (i := 9) rfl rfl).trans ?_
    refine (dn_cV_i (i := 10) (y := 12) (na := 2) (ci := 7) rfl (pa_2 _ _ _) (Nat.le_of_ble_eq_true rfl) (Nat.le_of_ble_eq_true rfl)).trans (congrArg (fun F => qv _ _ _ (qr_i _ F)) (funext fun y2 => funext fun hp2 => ?_))
    refine (dn_icmp (c := (fun x y => decide (x = y))) (t := 22) (i := 11) rfl _ _).trans (q_ite ?_ ?_)
    · exact rfl
    · refine (dc_aload (a := 0) (i := 12) rfl rfl).trans ?_
      refine (dc_iload (a := 1) (i := 13) rfl rfl).trans ?_
      refine (dn_cV_i (i := 14) (y := 44) (na := 2) (ci := 7) rfl (pa_2 _ _ _) (Nat.le_of_ble_eq_true rfl) (Nat.le_of_ble_eq_true rfl)).trans (congrArg (fun F => qv _ _ _ (qr_i _ F)) (funext fun y3 => funext fun hp3 => ?_))
      refine (dn_if (c := (fun x => decide (¬ x = 0))) (t := 20) (i := 15) rfl _).trans (q_ite ?_ ?_)
      · exact rfl
      · refine (dc_aload (a := 0) (i := 16) rfl rfl).trans ?_
        refine (dc_iload (a := 2) (i := 17) rfl rfl).trans ?_
        refine (dn_cV_i (i := 18) (y := 44) (na := 2) (ci := 7) rfl (pa_2 _ _ _) (Nat.le_of_ble_eq_true rfl) (Nat.le_of_ble_eq_true rfl)).trans (congrArg (fun F => qv _ _ _ (qr_i _ F)) (funext fun y4 => funext fun hp4 => ?_))
        refine (dn_if (c := (fun x => decide (x = 0))) (t := 22) (i := 19) rfl _).trans (q_ite ?_ ?_)
        · exact rfl
        · exact rfl
  · refine (dc_ic (x := 2) (i := 3) rfl).trans ?_
    exact dc_ireturn (i := 4) rfl _
theorem B46_20 {v0 : pO} {v1 : pO} {v2 : pO} {hp : pH} : dn pg 46 20 [v0, v1, v2] [] hp = q_i (nI 3) hp := by
  refine (dc_ic (x := 3) (i := 20) rfl).trans ?_
  exact dc_ireturn (i := 21) rfl _
theorem B46_22 {o0 : Nat} {x1 : Int32} {x2 : Int32} {hp : pH} : dn pg 46 22 [some (.ref o0), some (.int x1), some (.int x2)] [] hp = qv hp o0 7 (qr_i (cl pg 47 [.ref o0, .int x1] hp) (fun y1 hp1 => qr_i (cl pg 45 [.int y1, .int x2] hp1) (fun y2 hp2 => if y2 = nI 0 then dn pg 46 31 [some (.ref o0), some (.int x1), some (.int x2)] [.int (nI 0)] hp2 else dn pg 46 31 [some (.ref o0), some (.int x1), some (.int x2)] [.int (nI 4)] hp2))) := by
  refine (dc_aload (a := 0) (i := 22) rfl rfl).trans ?_
  refine (dc_iload (a := 1) (i := 23) rfl rfl).trans ?_
  refine (dn_cV_i (i := 24) (y := 47) (na := 2) (ci := 7) rfl (pa_2 _ _ _) (Nat.le_of_ble_eq_true rfl) (Nat.le_of_ble_eq_true rfl)).trans (congrArg (fun F => qv _ _ _ (qr_i _ F)) (funext fun y1 => funext fun hp1 => ?_))
  refine (dc_iload (a := 2) (i := 25) rfl rfl).trans ?_
  refine (dn_cS_i (i := 26) (y := 45) (na := 2) rfl (pa_2 _ _ _) (Nat.le_of_ble_eq_true rfl) (Nat.le_of_ble_eq_true rfl)).trans (congrArg (qr_i _) (funext fun y2 => funext fun hp2 => ?_))
  refine (dn_if (c := (fun x => decide (x = 0))) (t := 30) (i := 27) rfl _).trans (q_ite ?_ ?_)
  · refine (dc_ic (x := 0) (i := 30) rfl).trans ?_
    exact rfl
  · refine (dc_ic (x := 4) (i := 28) rfl).trans ?_
    refine (dc_goto (t := 31) (i := 29) rfl).trans ?_
    exact rfl
theorem B46_31 {v0 : pO} {v1 : pO} {v2 : pO} {s0 : Int32} {hp : pH} : dn pg 46 31 [v0, v1, v2] [.int s0] hp = q_i s0 hp := by
  exact dc_ireturn (i := 31) rfl _
theorem B47_0 {o0 : Nat} {x1 : Int32} {hp : pH} : dn pg 47 0 [some (.ref o0), some (.int x1)] [] hp = qr_i (cl pg 10 [.int x1] hp) (fun y1 hp1 => if y1 = nI 0 then dn pg 47 9 [some (.ref o0), some (.int x1)] [.int (-1)] hp1 else qg_a hp1 o0 7 3 (fun r2 => qa_i hp1 r2 0 x1 (fun y3 => dn pg 47 9 [some (.ref o0), some (.int x1)] [.int y3] hp1))) := by
  refine (dc_iload (a := 1) (i := 0) rfl rfl).trans ?_
  refine (dn_cS_i (i := 1) (y := 10) (na := 1) rfl (pa_1 _ _) (Nat.le_of_ble_eq_true rfl) (Nat.le_of_ble_eq_true rfl)).trans (congrArg (qr_i _) (funext fun y1 => funext fun hp1 => ?_))
  refine (dn_if (c := (fun x => decide (x = 0))) (t := 8) (i := 2) rfl _).trans (q_ite ?_ ?_)
  · refine (dc_ic (x := (-1)) (i := 8) rfl).trans ?_
    exact rfl
  · refine (dc_aload (a := 0) (i := 3) rfl rfl).trans ?_
    refine (dn_getA (ci := 7) (j := 3) (i := 4) rfl _).trans (congrArg (qg_a _ _ _ _) (funext fun r2 => ?_))
    refine (dc_iload (a := 1) (i := 5) rfl rfl).trans ?_
    refine (dn_iald (t := 0) (i := 6) rfl _ _).trans (congrArg (qa_i _ _ _ _) (funext fun y3 => ?_))
    refine (dc_goto (t := 9) (i := 7) rfl).trans ?_
    exact rfl
theorem B47_9 {v0 : pO} {v1 : pO} {s0 : Int32} {hp : pH} : dn pg 47 9 [v0, v1] [.int s0] hp = q_i s0 hp := by
  exact dc_ireturn (i := 9) rfl _
theorem B48_0 {o0 : Nat} {x1 : Int32} {hp : pH} : dn pg 48 0 [some (.ref o0), some (.int x1)] [] hp = qr_i (cl pg 10 [.int x1] hp) (fun y1 hp1 => if y1 = nI 0 then dn pg 48 9 [some (.ref o0), some (.int x1)] [.int (-1)] hp1 else qg_a hp1 o0 7 2 (fun r2 => qa_i hp1 r2 0 x1 (fun y3 => dn pg 48 9 [some (.ref o0), some (.int x1)] [.int y3] hp1))) := by
  refine (dc_iload (a := 1) (i := 0) rfl rfl).trans ?_
  refine (dn_cS_i (i := 1) (y := 10) (na := 1) rfl (pa_1 _ _) (Nat.le_of_ble_eq_true rfl) (Nat.le_of_ble_eq_true rfl)).trans (congrArg (qr_i _) (funext fun y1 => funext fun hp1 => ?_))
  refine (dn_if (c := (fun x => decide (x = 0))) (t := 8) (i := 2) rfl _).trans (q_ite ?_ ?_)
  · refine (dc_ic (x := (-1)) (i := 8) rfl).trans ?_
    exact rfl
  · refine (dc_aload (a := 0) (i := 3) rfl rfl).trans ?_
    refine (dn_getA (ci := 7) (j := 2) (i := 4) rfl _).trans (congrArg (qg_a _ _ _ _) (funext fun r2 => ?_))
    refine (dc_iload (a := 1) (i := 5) rfl rfl).trans ?_
    refine (dn_iald (t := 0) (i := 6) rfl _ _).trans (congrArg (qa_i _ _ _ _) (funext fun y3 => ?_))
    refine (dc_goto (t := 9) (i := 7) rfl).trans ?_
    exact rfl
theorem B48_9 {v0 : pO} {v1 : pO} {s0 : Int32} {hp : pH} : dn pg 48 9 [v0, v1] [.int s0] hp = q_i s0 hp := by
  exact dc_ireturn (i := 9) rfl _
theorem B49_0 {o0 : Nat} {x1 : Int32} {x2 : Int32} {x3 : Int32} {hp : pH} : dn pg 49 0 [some (.ref o0), some (.int x1), some (.int x2), some (.int x3)] [] hp = if x1 = nI 1 then qv hp o0 7 (qr_v (cl pg 14 [.ref o0, .int x2, .int (nI 1)] hp) (fun hp1 => q_i (nI 0) hp1)) else if x1 = nI 2 then qv hp o0 7 (qr_v (cl pg 14 [.ref o0, .int x2, .int (nI 0)] hp) (fun hp2 => q_i (nI 0) hp2)) else if x1 = nI 3 then qv hp o0 7 (qr_v (cl pg 14 [.ref o0, .int x3, .int (nI 0)] hp) (fun hp3 => qv hp3 o0 7 (qr_i (cl pg 12 [.ref o0, .int x2] hp3) (fun y1 hp4 => qv hp4 o0 7 (qr_i (cl pg 50 [.ref o0, .int x3, .int y1] hp4) (fun y2 hp5 => q_i y2 hp5)))))) else if x1 = nI 4 then qv hp o0 7 (qr_v (cl pg 16 [.ref o0, .int x2, .int x3, .int (nI 1)] hp) (fun hp6 => q_i (nI 0) hp6)) else if x1 = nI 5 then qv hp o0 7 (qr_v (cl pg 51 [.ref o0, .int x2, .int (nI 1)] hp) (fun hp7 => q_i (nI 0) hp7)) else if x1 = nI 6 then qv hp o0 7 (qr_v (cl pg 52 [.ref o0, .int x3] hp) (fun hp8 => q_i (nI 0) hp8)) else if x1 = nI 7 then qv hp o0 7 (qr_i (cl pg 54 [.ref o0] hp) (fun y3 hp9 => q_i y3 hp9)) else if x1 = nI 8 then qv hp o0 7 (qr_v (cl pg 51 [.ref o0, .int x2, .int (-1)] hp) (fun hp10 => qg_i hp10 o0 7 6 (fun y4 => qp_v hp10 o0 7 6 (.int (y4 - (nI 1))) (fun hp11 => q_i (nI 0) hp11)))) else q_i (nI 0) hp := by
  refine (dc_iload (a := 1) (i := 0) rfl rfl).trans ?_
  refine (dn_sw2 (d := 58) (l := [(1, 2), (2, 8), (3, 14), (4, 25), (5, 32), (6, 50), (7, 55), (8, 38)]) (i := 1) rfl _).trans ?_
  refine q_swc ?_ ?_
  · refine (dc_aload (a := 0) (i := 2) rfl rfl).trans ?_
    refine (dc_iload (a := 2) (i := 3) rfl rfl).trans ?_
    refine (dc_ic (x := 1) (i := 4) rfl).trans ?_
    refine (dn_cV_v (i := 5) (y := 14) (na := 3) (ci := 7) rfl (pa_3 _ _ _ _) (Nat.le_of_ble_eq_true rfl) (Nat.le_of_ble_eq_true rfl)).trans (congrArg (fun F => qv _ _ _ (qr_v _ F)) (funext fun hp1 => ?_))
    refine (dc_ic (x := 0) (i := 6) rfl).trans ?_
    exact dc_ireturn (i := 7) rfl _
  refine q_swc ?_ ?_
  · refine (dc_aload (a := 0) (i := 8) rfl rfl).trans ?_
    refine (dc_iload (a := 2) (i := 9) rfl rfl).trans ?_
    refine (dc_ic (x := 0) (i := 10) rfl).trans ?_
    refine (dn_cV_v (i := 11) (y := 14) (na := 3) (ci := 7) rfl (pa_3 _ _ _ _) (Nat.le_of_ble_eq_true rfl) (Nat.le_of_ble_eq_true rfl)).trans (congrArg (fun F => qv _ _ _ (qr_v _ F)) (funext fun hp2 => ?_))
    refine (dc_ic (x := 0) (i := 12) rfl).trans ?_
    exact dc_ireturn (i := 13) rfl _
  refine q_swc ?_ ?_
  · refine (dc_aload (a := 0) (i := 14) rfl rfl).trans ?_
    refine (dc_iload (a := 3) (i := 15) rfl rfl).trans ?_
    refine (dc_ic (x := 0) (i := 16) rfl).trans ?_
    refine (dn_cV_v (i := 17) (y := 14) (na := 3) (ci := 7) rfl (pa_3 _ _ _ _) (Nat.le_of_ble_eq_true rfl) (Nat.le_of_ble_eq_true rfl)).trans (congrArg (fun F => qv _ _ _ (qr_v _ F)) (funext fun hp3 => ?_))
    refine (dc_aload (a := 0) (i := 18) rfl rfl).trans ?_
    refine (dc_iload (a := 3) (i := 19) rfl rfl).trans ?_
    refine (dc_aload (a := 0) (i := 20) rfl rfl).trans ?_
    refine (dc_iload (a := 2) (i := 21) rfl rfl).trans ?_
    refine (dn_cV_i (i := 22) (y := 12) (na := 2) (ci := 7) rfl (pa_2 _ _ _) (Nat.le_of_ble_eq_true rfl) (Nat.le_of_ble_eq_true rfl)).trans (congrArg (fun F => qv _ _ _ (qr_i _ F)) (funext fun y1 => funext fun hp4 => ?_))
    refine (dn_cV_i (i := 23) (y := 50) (na := 3) (ci := 7) rfl (pa_3 _ _ _ _) (Nat.le_of_ble_eq_true rfl) (Nat.le_of_ble_eq_true rfl)).trans (congrArg (fun F => qv _ _ _ (qr_i _ F)) (funext fun y2 => funext fun hp5 => ?_))
    exact dc_ireturn (i := 24) rfl _
  refine q_swc ?_ ?_
  · refine (dc_aload (a := 0) (i := 25) rfl rfl).trans ?_
    refine (dc_iload (a := 2) (i := 26) rfl rfl).trans ?_
    refine (dc_iload (a := 3) (i := 27) rfl rfl).trans ?_
    refine (dc_ic (x := 1) (i := 28) rfl).trans ?_
    refine (dn_cV_v (i := 29) (y := 16) (na := 4) (ci := 7) rfl (pa_4 _ _ _ _ _) (Nat.le_of_ble_eq_true rfl) (Nat.le_of_ble_eq_true rfl)).trans (congrArg (fun F => qv _ _ _ (qr_v _ F)) (funext fun hp6 => ?_))
    refine (dc_ic (x := 0) (i := 30) rfl).trans ?_
    exact dc_ireturn (i := 31) rfl _
  refine q_swc ?_ ?_
  · refine (dc_aload (a := 0) (i := 32) rfl rfl).trans ?_
    refine (dc_iload (a := 2) (i := 33) rfl rfl).trans ?_
    refine (dc_ic (x := 1) (i := 34) rfl).trans ?_
    refine (dn_cV_v (i := 35) (y := 51) (na := 3) (ci := 7) rfl (pa_3 _ _ _ _) (Nat.le_of_ble_eq_true rfl) (Nat.le_of_ble_eq_true rfl)).trans (congrArg (fun F => qv _ _ _ (qr_v _ F)) (funext fun hp7 => ?_))
    refine (dc_ic (x := 0) (i := 36) rfl).trans ?_
    exact dc_ireturn (i := 37) rfl _
  refine q_swc ?_ ?_
  · refine (dc_aload (a := 0) (i := 50) rfl rfl).trans ?_
    refine (dc_iload (a := 3) (i := 51) rfl rfl).trans ?_
    refine (dn_cV_v (i := 52) (y := 52) (na := 2) (ci := 7) rfl (pa_2 _ _ _) (Nat.le_of_ble_eq_true rfl) (Nat.le_of_ble_eq_true rfl)).trans (congrArg (fun F => qv _ _ _ (qr_v _ F)) (funext fun hp8 => ?_))
    refine (dc_ic (x := 0) (i := 53) rfl).trans ?_
    exact dc_ireturn (i := 54) rfl _
  refine q_swc ?_ ?_
  · refine (dc_aload (a := 0) (i := 55) rfl rfl).trans ?_
    refine (dn_cV_i (i := 56) (y := 54) (na := 1) (ci := 7) rfl (pa_1 _ _) (Nat.le_of_ble_eq_true rfl) (Nat.le_of_ble_eq_true rfl)).trans (congrArg (fun F => qv _ _ _ (qr_i _ F)) (funext fun y3 => funext fun hp9 => ?_))
    exact dc_ireturn (i := 57) rfl _
  refine q_swc ?_ ?_
  · refine (dc_aload (a := 0) (i := 38) rfl rfl).trans ?_
    refine (dc_iload (a := 2) (i := 39) rfl rfl).trans ?_
    refine (dc_ic (x := (-1)) (i := 40) rfl).trans ?_
    refine (dn_cV_v (i := 41) (y := 51) (na := 3) (ci := 7) rfl (pa_3 _ _ _ _) (Nat.le_of_ble_eq_true rfl) (Nat.le_of_ble_eq_true rfl)).trans (congrArg (fun F => qv _ _ _ (qr_v _ F)) (funext fun hp10 => ?_))
    refine (dc_aload (a := 0) (i := 42) rfl rfl).trans ?_
    refine (dc_dupA (i := 43) rfl _).trans ?_
    refine (dn_getI (ci := 7) (j := 6) (i := 44) rfl _).trans (congrArg (qg_i _ _ _ _) (funext fun y4 => ?_))
    refine (dc_ic (x := 1) (i := 45) rfl).trans ?_
    refine (dc_bin (f := (fun x y => x - y)) (i := 46) rfl _ _).trans ?_
    refine (dn_putI (ci := 7) (j := 6) (i := 47) rfl _ _).trans (congrArg (qp_v _ _ _ _ _) (funext fun hp11 => ?_))
    refine (dc_ic (x := 0) (i := 48) rfl).trans ?_
    exact dc_ireturn (i := 49) rfl _
  refine q_swn ?_
  refine (dc_ic (x := 0) (i := 58) rfl).trans ?_
  exact dc_ireturn (i := 59) rfl _
theorem B50_0 {o0 : Nat} {x1 : Int32} {x2 : Int32} {hp : pH} : dn pg 50 0 [some (.ref o0), some (.int x1), some (.int x2)] [] hp = qr_i (cl pg 10 [.int x1] hp) (fun y1 hp1 => if y1 = nI 0 then dn pg 50 9 [some (.ref o0), some (.int x1), some (.int x2)] [] hp1 else qg_a hp1 o0 7 0 (fun r2 => qa_i hp1 r2 0 x1 (fun y3 => if ¬ y3 = x2 then qg_a hp1 o0 7 0 (fun r4 => qx_i hp1 r4 0 x1 x2 (fun hp2 => q_i ((nI 1) <<< (x1 &&& nI 31)) hp2)) else dn pg 50 9 [some (.ref o0), some (.int x1), some (.int x2)] [] hp1))) := by
  refine (dc_iload (a := 1) (i := 0) rfl rfl).trans ?_
  refine (dn_cS_i (i := 1) (y := 10) (na := 1) rfl (pa_1 _ _) (Nat.le_of_ble_eq_true rfl) (Nat.le_of_ble_eq_true rfl)).trans (congrArg (qr_i _) (funext fun y1 => funext fun hp1 => ?_))
  refine (dn_if (c := (fun x => decide (x = 0))) (t := 9) (i := 2) rfl _).trans (q_ite ?_ ?_)
  · exact rfl
  · refine (dc_aload (a := 0) (i := 3) rfl rfl).trans ?_
    refine (dn_getA (ci := 7) (j := 0) (i := 4) rfl _).trans (congrArg (qg_a _ _ _ _) (funext fun r2 => ?_))
    refine (dc_iload (a := 1) (i := 5) rfl rfl).trans ?_
    refine (dn_iald (t := 0) (i := 6) rfl _ _).trans (congrArg (qa_i _ _ _ _) (funext fun y3 => ?_))
    refine (dc_iload (a := 2) (i := 7) rfl rfl).trans ?_
    refine (dn_icmp (c := (fun x y => decide (¬ x = y))) (t := 11) (i := 8) rfl _ _).trans (q_ite ?_ ?_)
    · refine (dc_aload (a := 0) (i := 11) rfl rfl).trans ?_
      refine (dn_getA (ci := 7) (j := 0) (i := 12) rfl _).trans (congrArg (qg_a _ _ _ _) (funext fun r4 => ?_))
      refine (dc_iload (a := 1) (i := 13) rfl rfl).trans ?_
      refine (dc_iload (a := 2) (i := 14) rfl rfl).trans ?_
      refine (dn_iast (i := 15) rfl _ _ _).trans (congrArg (qx_i _ _ _ _ _) (funext fun hp2 => ?_))
      refine (dc_ic (x := 1) (i := 16) rfl).trans ?_
      refine (dc_iload (a := 1) (i := 17) rfl rfl).trans ?_
      refine (dc_bin (f := (fun x y => x <<< (y &&& 31))) (i := 18) rfl _ _).trans ?_
      exact dc_ireturn (i := 19) rfl _
    · exact rfl
theorem B50_9 {v0 : pO} {v1 : pO} {v2 : pO} {hp : pH} : dn pg 50 9 [v0, v1, v2] [] hp = q_i (nI 0) hp := by
  refine (dc_ic (x := 0) (i := 9) rfl).trans ?_
  exact dc_ireturn (i := 10) rfl _
theorem B51_0 {o0 : Nat} {x1 : Int32} {x2 : Int32} {hp : pH} : dn pg 51 0 [some (.ref o0), some (.int x1), some (.int x2)] [] hp = qr_i (cl pg 10 [.int x1] hp) (fun y1 hp1 => if y1 = nI 0 then dn pg 51 11 [some (.ref o0), some (.int x1), some (.int x2)] [] hp1 else qg_a hp1 o0 7 2 (fun r2 => qa_i hp1 r2 0 x1 (fun y3 => qx_i hp1 r2 0 x1 (y3 + x2) (fun hp2 => dn pg 51 11 [some (.ref o0), some (.int x1), some (.int x2)] [] hp2)))) := by
  refine (dc_iload (a := 1) (i := 0) rfl rfl).trans ?_
  refine (dn_cS_i (i := 1) (y := 10) (na := 1) rfl (pa_1 _ _) (Nat.le_of_ble_eq_true rfl) (Nat.le_of_ble_eq_true rfl)).trans (congrArg (qr_i _) (funext fun y1 => funext fun hp1 => ?_))
  refine (dn_if (c := (fun x => decide (x = 0))) (t := 11) (i := 2) rfl _).trans (q_ite ?_ ?_)
  · exact rfl
  · refine (dc_aload (a := 0) (i := 3) rfl rfl).trans ?_
    refine (dn_getA (ci := 7) (j := 2) (i := 4) rfl _).trans (congrArg (qg_a _ _ _ _) (funext fun r2 => ?_))
    refine (dc_iload (a := 1) (i := 5) rfl rfl).trans ?_
    refine (dc_dup2 (i := 6) rfl _ _).trans ?_
    refine (dn_iald (t := 0) (i := 7) rfl _ _).trans (congrArg (qa_i _ _ _ _) (funext fun y3 => ?_))
    refine (dc_iload (a := 2) (i := 8) rfl rfl).trans ?_
    refine (dc_bin (f := (fun x y => x + y)) (i := 9) rfl _ _).trans ?_
    refine (dn_iast (i := 10) rfl _ _ _).trans (congrArg (qx_i _ _ _ _ _) (funext fun hp2 => ?_))
    exact rfl
theorem B51_11 {v0 : pO} {v1 : pO} {v2 : pO} {hp : pH} : dn pg 51 11 [v0, v1, v2] [] hp = q_v hp := by
  exact dc_return (i := 11) rfl
theorem B52_0 {v0 : pO} {v1 : pO} {v2 : pO} {hp : pH} (h1 : pm_nl v1 = true) : dn pg 52 0 [v0, v1, v2] [] hp = dn pg 52 2 [v0, v1, some (.int (nI 0))] [] hp := by
  refine (dc_ic (x := 0) (i := 0) rfl).trans ?_
  refine (dn_istore (a := 2) (i := 1) rfl (pm_ok_nl (Nat.le_of_ble_eq_true rfl) rfl h1) _).trans ?_
  exact rfl
theorem B52_2 {o0 : Nat} {x1 : Int32} {x2 : Int32} {hp : pH} : dn pg 52 2 [some (.ref o0), some (.int x1), some (.int x2)] [] hp = if (nI 8) ≤ x2 then q_v hp else qv hp o0 7 (qr_i (cl pg 53 [.ref o0, .int x2] hp) (fun y1 hp1 => if x1 ≤ y1 then dn pg 52 14 [some (.ref o0), some (.int x1), some (.int x2)] [] hp1 else qv hp1 o0 7 (qr_v (cl pg 14 [.ref o0, .int x2, .int (nI 0)] hp1) (fun hp2 => dn pg 52 14 [some (.ref o0), some (.int x1), some (.int x2)] [] hp2)))) := by
  refine (dc_iload (a := 2) (i := 2) rfl rfl).trans ?_
  refine (dc_ic (x := 8) (i := 3) rfl).trans ?_
  refine (dn_icmp (c := (fun x y => decide (y ≤ x))) (t := 16) (i := 4) rfl _ _).trans (q_ite ?_ ?_)
  · exact dc_return (i := 16) rfl
  · refine (dc_aload (a := 0) (i := 5) rfl rfl).trans ?_
    refine (dc_iload (a := 2) (i := 6) rfl rfl).trans ?_
    refine (dn_cV_i (i := 7) (y := 53) (na := 2) (ci := 7) rfl (pa_2 _ _ _) (Nat.le_of_ble_eq_true rfl) (Nat.le_of_ble_eq_true rfl)).trans (congrArg (fun F => qv _ _ _ (qr_i _ F)) (funext fun y1 => funext fun hp1 => ?_))
    refine (dc_iload (a := 1) (i := 8) rfl rfl).trans ?_
    refine (dn_icmp (c := (fun x y => decide (y ≤ x))) (t := 14) (i := 9) rfl _ _).trans (q_ite ?_ ?_)
    · exact rfl
    · refine (dc_aload (a := 0) (i := 10) rfl rfl).trans ?_
      refine (dc_iload (a := 2) (i := 11) rfl rfl).trans ?_
      refine (dc_ic (x := 0) (i := 12) rfl).trans ?_
      refine (dn_cV_v (i := 13) (y := 14) (na := 3) (ci := 7) rfl (pa_3 _ _ _ _) (Nat.le_of_ble_eq_true rfl) (Nat.le_of_ble_eq_true rfl)).trans (congrArg (fun F => qv _ _ _ (qr_v _ F)) (funext fun hp2 => ?_))
      exact rfl
theorem B52_14 {v0 : pO} {v1 : pO} {x2 : Int32} {hp : pH} (h1 : pm_nl v1 = true) : dn pg 52 14 [v0, v1, some (.int x2)] [] hp = dn pg 52 2 [v0, v1, some (.int (x2 + nI 1))] [] hp := by
  refine (dn_iinc (a := 2) (d := 1) (i := 14) rfl (pm_ok_nl (Nat.le_of_ble_eq_true rfl) rfl h1) rfl).trans ?_
  refine (dc_goto (t := 2) (i := 15) rfl).trans ?_
  exact rfl
theorem B53_0 {o0 : Nat} {x1 : Int32} {hp : pH} : dn pg 53 0 [some (.ref o0), some (.int x1)] [] hp = qr_i (cl pg 10 [.int x1] hp) (fun y1 hp1 => if y1 = nI 0 then dn pg 53 20 [some (.ref o0), some (.int x1)] [] hp1 else qg_i hp1 o0 7 5 (fun y2 => qr_i (cl pg 45 [.int y2, .int x1] hp1) (fun y3 hp2 => if y3 = nI 0 then dn pg 53 20 [some (.ref o0), some (.int x1)] [] hp2 else qg_a hp2 o0 7 1 (fun r4 => qa_i hp2 r4 0 x1 (fun y5 => qg_a hp2 o0 7 2 (fun r6 => qa_i hp2 r6 0 x1 (fun y7 => dn pg 53 21 [some (.ref o0), some (.int x1)] [.int (if y5 - y7 < nI 0 then nI 0 else y5 - y7)] hp2))))))) := by
  refine (dc_iload (a := 1) (i := 0) rfl rfl).trans ?_
  refine (dn_cS_i (i := 1) (y := 10) (na := 1) rfl (pa_1 _ _) (Nat.le_of_ble_eq_true rfl) (Nat.le_of_ble_eq_true rfl)).trans (congrArg (qr_i _) (funext fun y1 => funext fun hp1 => ?_))
  refine (dn_if (c := (fun x => decide (x = 0))) (t := 20) (i := 2) rfl _).trans (q_ite ?_ ?_)
  · exact rfl
  · refine (dc_aload (a := 0) (i := 3) rfl rfl).trans ?_
    refine (dn_getI (ci := 7) (j := 5) (i := 4) rfl _).trans (congrArg (qg_i _ _ _ _) (funext fun y2 => ?_))
    refine (dc_iload (a := 1) (i := 5) rfl rfl).trans ?_
    refine (dn_cS_i (i := 6) (y := 45) (na := 2) rfl (pa_2 _ _ _) (Nat.le_of_ble_eq_true rfl) (Nat.le_of_ble_eq_true rfl)).trans (congrArg (qr_i _) (funext fun y3 => funext fun hp2 => ?_))
    refine (dn_if (c := (fun x => decide (x = 0))) (t := 20) (i := 7) rfl _).trans (q_ite ?_ ?_)
    · exact rfl
    · refine (dc_aload (a := 0) (i := 8) rfl rfl).trans ?_
      refine (dn_getA (ci := 7) (j := 1) (i := 9) rfl _).trans (congrArg (qg_a _ _ _ _) (funext fun r4 => ?_))
      refine (dc_iload (a := 1) (i := 10) rfl rfl).trans ?_
      refine (dn_iald (t := 0) (i := 11) rfl _ _).trans (congrArg (qa_i _ _ _ _) (funext fun y5 => ?_))
      refine (dc_aload (a := 0) (i := 12) rfl rfl).trans ?_
      refine (dn_getA (ci := 7) (j := 2) (i := 13) rfl _).trans (congrArg (qg_a _ _ _ _) (funext fun r6 => ?_))
      refine (dc_iload (a := 1) (i := 14) rfl rfl).trans ?_
      refine (dn_iald (t := 0) (i := 15) rfl _ _).trans (congrArg (qa_i _ _ _ _) (funext fun y7 => ?_))
      refine (dc_bin (f := (fun x y => x - y)) (i := 16) rfl _ _).trans ?_
      refine (dc_ic (x := 0) (i := 17) rfl).trans ?_
      refine (dn_max (i := 18) rfl (Nat.le_of_ble_eq_true rfl) _ _).trans ?_
      refine (dc_goto (t := 21) (i := 19) rfl).trans ?_
      exact rfl
theorem B53_20 {v0 : pO} {v1 : pO} {hp : pH} : dn pg 53 20 [v0, v1] [] hp = dn pg 53 21 [v0, v1] [.int (nI 0)] hp := by
  refine (dc_ic (x := 0) (i := 20) rfl).trans ?_
  exact rfl
theorem B53_21 {v0 : pO} {v1 : pO} {s0 : Int32} {hp : pH} : dn pg 53 21 [v0, v1] [.int s0] hp = q_i s0 hp := by
  exact dc_ireturn (i := 21) rfl _
theorem B54_0 {v0 : pO} {v1 : pO} {v2 : pO} {v3 : pO} {v4 : pO} {hp : pH} (h0 : pm_nl v0 = true) : dn pg 54 0 [v0, v1, v2, v3, v4] [] hp = dn pg 54 4 [v0, some (.int (nI 0)), some (.int (nI 0)), v3, v4] [] hp := by
  refine (dc_ic (x := 0) (i := 0) rfl).trans ?_
  refine (dn_istore (a := 1) (i := 1) rfl (pm_ok_nl (Nat.le_of_ble_eq_true rfl) rfl h0) _).trans ?_
  refine (dc_ic (x := 0) (i := 2) rfl).trans ?_
  refine (dn_istore (a := 2) (i := 3) rfl rfl _).trans ?_
  exact rfl
theorem B54_4 {o0 : Nat} {x1 : Int32} {x2 : Int32} {v3 : pO} {v4 : pO} {hp : pH} : dn pg 54 4 [some (.ref o0), some (.int x1), some (.int x2), v3, v4] [] hp = if (nI 8) ≤ x2 then qg_i hp o0 7 7 (fun y1 => qp_v hp o0 7 7 (.int (y1 + (nI 1))) (fun hp1 => q_i x1 hp1)) else qv hp o0 7 (qr_i (cl pg 44 [.ref o0, .int x2] hp) (fun y2 hp2 => if y2 = nI 0 then dn pg 54 52 [some (.ref o0), some (.int x1), some (.int x2), some (.int (((x2 + (nI 8)) - (nI 1)) % (nI 8))), some (.int ((x2 + (nI 1)) % (nI 8)))] [] hp2 else qv hp2 o0 7 (qr_i (cl pg 44 [.ref o0, .int (((x2 + (nI 8)) - (nI 1)) % (nI 8))] hp2) (fun y3 hp3 => if ¬ y3 = nI 0 then dn pg 54 52 [some (.ref o0), some (.int x1), some (.int x2), some (.int (((x2 + (nI 8)) - (nI 1)) % (nI 8))), some (.int ((x2 + (nI 1)) % (nI 8)))] [] hp3 else qv hp3 o0 7 (qr_i (cl pg 44 [.ref o0, .int ((x2 + (nI 1)) % (nI 8))] hp3) (fun y4 hp4 => if ¬ y4 = nI 0 then dn pg 54 52 [some (.ref o0), some (.int x1), some (.int x2), some (.int (((x2 + (nI 8)) - (nI 1)) % (nI 8))), some (.int ((x2 + (nI 1)) % (nI 8)))] [] hp4 else qg_a hp4 o0 7 0 (fun r5 => qa_i hp4 r5 0 (((x2 + (nI 8)) - (nI 1)) % (nI 8)) (fun y6 => qg_a hp4 o0 7 0 (fun r7 => qa_i hp4 r7 0 ((x2 + (nI 1)) % (nI 8)) (fun y8 => if ¬ y6 = y8 then dn pg 54 52 [some (.ref o0), some (.int x1), some (.int x2), some (.int (((x2 + (nI 8)) - (nI 1)) % (nI 8))), some (.int ((x2 + (nI 1)) % (nI 8)))] [] hp4 else qg_a hp4 o0 7 0 (fun r9 => qa_i hp4 r9 0 (((x2 + (nI 8)) - (nI 1)) % (nI 8)) (fun y10 => qv hp4 o0 7 (qr_i (cl pg 50 [.ref o0, .int x2, .int y10] hp4) (fun y11 hp5 => dn pg 54 52 [some (.ref o0), some (.int (x1 ||| y11)), some (.int x2), some (.int (((x2 + (nI 8)) - (nI 1)) % (nI 8))), some (.int ((x2 + (nI 1)) % (nI 8)))] [] hp5)))))))))))))) := by
  refine (dc_iload (a := 2) (i := 4) rfl rfl).trans ?_
  refine (dc_ic (x := 8) (i := 5) rfl).trans ?_
  refine (dn_icmp (c := (fun x y => decide (y ≤ x))) (t := 54) (i := 6) rfl _ _).trans (q_ite ?_ ?_)
  · refine (dc_aload (a := 0) (i := 54) rfl rfl).trans ?_
    refine (dc_dupA (i := 55) rfl _).trans ?_
    refine (dn_getI (ci := 7) (j := 7) (i := 56) rfl _).trans (congrArg (qg_i _ _ _ _) (funext fun y1 => ?_))
    refine (dc_ic (x := 1) (i := 57) rfl).trans ?_
    refine (dc_bin (f := (fun x y => x + y)) (i := 58) rfl _ _).trans ?_
    refine (dn_putI (ci := 7) (j := 7) (i := 59) rfl _ _).trans (congrArg (qp_v _ _ _ _ _) (funext fun hp1 => ?_))
    refine (dc_iload (a := 1) (i := 60) rfl rfl).trans ?_
    exact dc_ireturn (i := 61) rfl _
  · refine (dc_iload (a := 2) (i := 7) rfl rfl).trans ?_
    refine (dc_ic (x := 8) (i := 8) rfl).trans ?_
    refine (dc_bin (f := (fun x y => x + y)) (i := 9) rfl _ _).trans ?_
    refine (dc_ic (x := 1) (i := 10) rfl).trans ?_
    refine (dc_bin (f := (fun x y => x - y)) (i := 11) rfl _ _).trans ?_
    refine (dc_ic (x := 8) (i := 12) rfl).trans ?_
    refine ((dn_div (f := (fun x y => x % y)) (i := 13) rfl _ _).trans (if_neg (by decide))).trans ?_
    refine (dn_istore (a := 3) (i := 14) rfl rfl _).trans ?_
    refine (dc_iload (a := 2) (i := 15) rfl rfl).trans ?_
    refine (dc_ic (x := 1) (i := 16) rfl).trans ?_
    refine (dc_bin (f := (fun x y => x + y)) (i := 17) rfl _ _).trans ?_
    refine (dc_ic (x := 8) (i := 18) rfl).trans ?_
    refine ((dn_div (f := (fun x y => x % y)) (i := 19) rfl _ _).trans (if_neg (by decide))).trans ?_
    refine (dn_istore (a := 4) (i := 20) rfl rfl _).trans ?_
    refine (dc_aload (a := 0) (i := 21) rfl rfl).trans ?_
    refine (dc_iload (a := 2) (i := 22) rfl rfl).trans ?_
    refine (dn_cV_i (i := 23) (y := 44) (na := 2) (ci := 7) rfl (pa_2 _ _ _) (Nat.le_of_ble_eq_true rfl) (Nat.le_of_ble_eq_true rfl)).trans (congrArg (fun F => qv _ _ _ (qr_i _ F)) (funext fun y2 => funext fun hp2 => ?_))
    refine (dn_if (c := (fun x => decide (x = 0))) (t := 52) (i := 24) rfl _).trans (q_ite ?_ ?_)
    · exact rfl
    · refine (dc_aload (a := 0) (i := 25) rfl rfl).trans ?_
      refine (dc_iload (a := 3) (i := 26) rfl rfl).trans ?_
      refine (dn_cV_i (i := 27) (y := 44) (na := 2) (ci := 7) rfl (pa_2 _ _ _) (Nat.le_of_ble_eq_true rfl) (Nat.le_of_ble_eq_true rfl)).trans (congrArg (fun F => qv _ _ _ (qr_i _ F)) (funext fun y3 => funext fun hp3 => ?_))
      refine (dn_if (c := (fun x => decide (¬ x = 0))) (t := 52) (i := 28) rfl _).trans (q_ite ?_ ?_)
      · exact rfl
      · refine (dc_aload (a := 0) (i := 29) rfl rfl).trans ?_
        refine (dc_iload (a := 4) (i := 30) rfl rfl).trans ?_
        refine (dn_cV_i (i := 31) (y := 44) (na := 2) (ci := 7) rfl (pa_2 _ _ _) (Nat.le_of_ble_eq_true rfl) (Nat.le_of_ble_eq_true rfl)).trans (congrArg (fun F => qv _ _ _ (qr_i _ F)) (funext fun y4 => funext fun hp4 => ?_))
        refine (dn_if (c := (fun x => decide (¬ x = 0))) (t := 52) (i := 32) rfl _).trans (q_ite ?_ ?_)
        · exact rfl
        · refine (dc_aload (a := 0) (i := 33) rfl rfl).trans ?_
          refine (dn_getA (ci := 7) (j := 0) (i := 34) rfl _).trans (congrArg (qg_a _ _ _ _) (funext fun r5 => ?_))
          refine (dc_iload (a := 3) (i := 35) rfl rfl).trans ?_
          refine (dn_iald (t := 0) (i := 36) rfl _ _).trans (congrArg (qa_i _ _ _ _) (funext fun y6 => ?_))
          refine (dc_aload (a := 0) (i := 37) rfl rfl).trans ?_
          refine (dn_getA (ci := 7) (j := 0) (i := 38) rfl _).trans (congrArg (qg_a _ _ _ _) (funext fun r7 => ?_))
          refine (dc_iload (a := 4) (i := 39) rfl rfl).trans ?_
          refine (dn_iald (t := 0) (i := 40) rfl _ _).trans (congrArg (qa_i _ _ _ _) (funext fun y8 => ?_))
          refine (dn_icmp (c := (fun x y => decide (¬ x = y))) (t := 52) (i := 41) rfl _ _).trans (q_ite ?_ ?_)
          · exact rfl
          · refine (dc_iload (a := 1) (i := 42) rfl rfl).trans ?_
            refine (dc_aload (a := 0) (i := 43) rfl rfl).trans ?_
            refine (dc_iload (a := 2) (i := 44) rfl rfl).trans ?_
            refine (dc_aload (a := 0) (i := 45) rfl rfl).trans ?_
            refine (dn_getA (ci := 7) (j := 0) (i := 46) rfl _).trans (congrArg (qg_a _ _ _ _) (funext fun r9 => ?_))
            refine (dc_iload (a := 3) (i := 47) rfl rfl).trans ?_
            refine (dn_iald (t := 0) (i := 48) rfl _ _).trans (congrArg (qa_i _ _ _ _) (funext fun y10 => ?_))
            refine (dn_cV_i (i := 49) (y := 50) (na := 3) (ci := 7) rfl (pa_3 _ _ _ _) (Nat.le_of_ble_eq_true rfl) (Nat.le_of_ble_eq_true rfl)).trans (congrArg (fun F => qv _ _ _ (qr_i _ F)) (funext fun y11 => funext fun hp5 => ?_))
            refine (dc_bin (f := (fun x y => x ||| y)) (i := 50) rfl _ _).trans ?_
            refine (dn_istore (a := 1) (i := 51) rfl rfl _).trans ?_
            exact rfl
theorem B54_52 {v0 : pO} {v1 : pO} {x2 : Int32} {v3 : pO} {v4 : pO} {hp : pH} (h1 : pm_nl v1 = true) : dn pg 54 52 [v0, v1, some (.int x2), v3, v4] [] hp = dn pg 54 4 [v0, v1, some (.int (x2 + nI 1)), v3, v4] [] hp := by
  refine (dn_iinc (a := 2) (d := 1) (i := 52) rfl (pm_ok_nl (Nat.le_of_ble_eq_true rfl) rfl h1) rfl).trans ?_
  refine (dc_goto (t := 4) (i := 53) rfl).trans ?_
  exact rfl
theorem B55_0 {o0 : Nat} {x1 : Int32} {x2 : Int32} {hp : pH} : dn pg 55 0 [some (.ref o0), some (.int x1), some (.int x2)] [] hp = qg_i hp o0 1 3 (fun y1 => qr_i (cl pg 18 [.int x2] hp) (fun y2 hp1 => qp_v hp1 o0 1 3 (.int (y1 + y2)) (fun hp2 => if x2 = nI 0 then dn pg 55 20 [some (.ref o0), some (.int x1), some (.int x2)] [] hp2 else qg_i hp2 o0 1 4 (fun y3 => if ¬ y3 = (-6) then dn pg 55 20 [some (.ref o0), some (.int x1), some (.int x2)] [] hp2 else qp_v hp2 o0 1 4 (.int x1) (fun hp3 => qr_i (cl pg 56 [.int x2] hp3) (fun y4 hp4 => qp_v hp4 o0 1 5 (.int y4) (fun hp5 => dn pg 55 20 [some (.ref o0), some (.int x1), some (.int x2)] [] hp5))))))) := by
  refine (dc_aload (a := 0) (i := 0) rfl rfl).trans ?_
  refine (dc_dupA (i := 1) rfl _).trans ?_
  refine (dn_getI (ci := 1) (j := 3) (i := 2) rfl _).trans (congrArg (qg_i _ _ _ _) (funext fun y1 => ?_))
  refine (dc_iload (a := 2) (i := 3) rfl rfl).trans ?_
  refine (dn_cS_i (i := 4) (y := 18) (na := 1) rfl (pa_1 _ _) (Nat.le_of_ble_eq_true rfl) (Nat.le_of_ble_eq_true rfl)).trans (congrArg (qr_i _) (funext fun y2 => funext fun hp1 => ?_))
  refine (dc_bin (f := (fun x y => x + y)) (i := 5) rfl _ _).trans ?_
  refine (dn_putI (ci := 1) (j := 3) (i := 6) rfl _ _).trans (congrArg (qp_v _ _ _ _ _) (funext fun hp2 => ?_))
  refine (dc_iload (a := 2) (i := 7) rfl rfl).trans ?_
  refine (dn_if (c := (fun x => decide (x = 0))) (t := 20) (i := 8) rfl _).trans (q_ite ?_ ?_)
  · exact rfl
  · refine (dc_aload (a := 0) (i := 9) rfl rfl).trans ?_
    refine (dn_getI (ci := 1) (j := 4) (i := 10) rfl _).trans (congrArg (qg_i _ _ _ _) (funext fun y3 => ?_))
    refine (dc_ic (x := (-6)) (i := 11) rfl).trans ?_
    refine (dn_icmp (c := (fun x y => decide (¬ x = y))) (t := 20) (i := 12) rfl _ _).trans (q_ite ?_ ?_)
    · exact rfl
    · refine (dc_aload (a := 0) (i := 13) rfl rfl).trans ?_
      refine (dc_iload (a := 1) (i := 14) rfl rfl).trans ?_
      refine (dn_putI (ci := 1) (j := 4) (i := 15) rfl _ _).trans (congrArg (qp_v _ _ _ _ _) (funext fun hp3 => ?_))
      refine (dc_aload (a := 0) (i := 16) rfl rfl).trans ?_
      refine (dc_iload (a := 2) (i := 17) rfl rfl).trans ?_
      refine (dn_cS_i (i := 18) (y := 56) (na := 1) rfl (pa_1 _ _) (Nat.le_of_ble_eq_true rfl) (Nat.le_of_ble_eq_true rfl)).trans (congrArg (qr_i _) (funext fun y4 => funext fun hp4 => ?_))
      refine (dn_putI (ci := 1) (j := 5) (i := 19) rfl _ _).trans (congrArg (qp_v _ _ _ _ _) (funext fun hp5 => ?_))
      exact rfl
theorem B55_20 {v0 : pO} {v1 : pO} {v2 : pO} {hp : pH} : dn pg 55 20 [v0, v1, v2] [] hp = q_v hp := by
  exact dc_return (i := 20) rfl
theorem B56_0 {x0 : Int32} {v1 : pO} {hp : pH} : dn pg 56 0 [some (.int x0), v1] [] hp = if nI 0 < ((x0 ^^^ (-1)) &&& (x0 - (nI 1))) then if ((x0 ^^^ (-1)) &&& (x0 - (nI 1))) ≤ (nI 65536) then dn pg 56 24 [some (.int ((x0 ^^^ (-1)) &&& (x0 - (nI 1)))), some (.int (nI 1))] [] hp else dn pg 56 24 [some (.int ((((x0 ^^^ (-1)) &&& (x0 - (nI 1))).toUInt32 >>> ((nI 16).toUInt32 &&& Int32.toUInt32 31)).toInt32)), some (.int ((nI 1) + nI 16))] [] hp else q_i (((x0 ^^^ (-1)) &&& (x0 - (nI 1))) &&& (nI 32)) hp := by
  refine (dc_iload (a := 0) (i := 0) rfl rfl).trans ?_
  refine (dc_ic (x := (-1)) (i := 1) rfl).trans ?_
  refine (dc_bin (f := (fun x y => x ^^^ y)) (i := 2) rfl _ _).trans ?_
  refine (dc_iload (a := 0) (i := 3) rfl rfl).trans ?_
  refine (dc_ic (x := 1) (i := 4) rfl).trans ?_
  refine (dc_bin (f := (fun x y => x - y)) (i := 5) rfl _ _).trans ?_
  refine (dc_bin (f := (fun x y => x &&& y)) (i := 6) rfl _ _).trans ?_
  refine (dn_istore (a := 0) (i := 7) rfl rfl _).trans ?_
  refine (dc_iload (a := 0) (i := 8) rfl rfl).trans ?_
  refine (dn_if (c := (fun x => decide (0 < x))) (t := 14) (i := 9) rfl _).trans (q_ite ?_ ?_)
  · refine (dc_ic (x := 1) (i := 14) rfl).trans ?_
    refine (dn_istore (a := 1) (i := 15) rfl rfl _).trans ?_
    refine (dc_iload (a := 0) (i := 16) rfl rfl).trans ?_
    refine (dc_ic (x := 65536) (i := 17) rfl).trans ?_
    refine (dn_icmp (c := (fun x y => decide (x ≤ y))) (t := 24) (i := 18) rfl _ _).trans (q_ite ?_ ?_)
    · exact rfl
    · refine (dn_iinc (a := 1) (d := 16) (i := 19) rfl rfl rfl).trans ?_
      refine (dc_iload (a := 0) (i := 20) rfl rfl).trans ?_
      refine (dc_ic (x := 16) (i := 21) rfl).trans ?_
      refine (dc_bin (f := (fun x y => (x.toUInt32 >>> (y.toUInt32 &&& Int32.toUInt32 31)).toInt32)) (i := 22) rfl _ _).trans ?_
      refine (dn_istore (a := 0) (i := 23) rfl rfl _).trans ?_
      exact rfl
  · refine (dc_iload (a := 0) (i := 10) rfl rfl).trans ?_
    refine (dc_ic (x := 32) (i := 11) rfl).trans ?_
    refine (dc_bin (f := (fun x y => x &&& y)) (i := 12) rfl _ _).trans ?_
    exact dc_ireturn (i := 13) rfl _
theorem B56_24 {x0 : Int32} {x1 : Int32} {hp : pH} : dn pg 56 24 [some (.int x0), some (.int x1)] [] hp = if x0 ≤ (nI 256) then dn pg 56 32 [some (.int x0), some (.int x1)] [] hp else dn pg 56 32 [some (.int ((x0.toUInt32 >>> ((nI 8).toUInt32 &&& Int32.toUInt32 31)).toInt32)), some (.int (x1 + nI 8))] [] hp := by
  refine (dc_iload (a := 0) (i := 24) rfl rfl).trans ?_
  refine (dc_ic (x := 256) (i := 25) rfl).trans ?_
  refine (dn_icmp (c := (fun x y => decide (x ≤ y))) (t := 32) (i := 26) rfl _ _).trans (q_ite ?_ ?_)
  · exact rfl
  · refine (dn_iinc (a := 1) (d := 8) (i := 27) rfl rfl rfl).trans ?_
    refine (dc_iload (a := 0) (i := 28) rfl rfl).trans ?_
    refine (dc_ic (x := 8) (i := 29) rfl).trans ?_
    refine (dc_bin (f := (fun x y => (x.toUInt32 >>> (y.toUInt32 &&& Int32.toUInt32 31)).toInt32)) (i := 30) rfl _ _).trans ?_
    refine (dn_istore (a := 0) (i := 31) rfl rfl _).trans ?_
    exact rfl
theorem B56_32 {x0 : Int32} {x1 : Int32} {hp : pH} : dn pg 56 32 [some (.int x0), some (.int x1)] [] hp = if x0 ≤ (nI 16) then dn pg 56 40 [some (.int x0), some (.int x1)] [] hp else dn pg 56 40 [some (.int ((x0.toUInt32 >>> ((nI 4).toUInt32 &&& Int32.toUInt32 31)).toInt32)), some (.int (x1 + nI 4))] [] hp := by
  refine (dc_iload (a := 0) (i := 32) rfl rfl).trans ?_
  refine (dc_ic (x := 16) (i := 33) rfl).trans ?_
  refine (dn_icmp (c := (fun x y => decide (x ≤ y))) (t := 40) (i := 34) rfl _ _).trans (q_ite ?_ ?_)
  · exact rfl
  · refine (dn_iinc (a := 1) (d := 4) (i := 35) rfl rfl rfl).trans ?_
    refine (dc_iload (a := 0) (i := 36) rfl rfl).trans ?_
    refine (dc_ic (x := 4) (i := 37) rfl).trans ?_
    refine (dc_bin (f := (fun x y => (x.toUInt32 >>> (y.toUInt32 &&& Int32.toUInt32 31)).toInt32)) (i := 38) rfl _ _).trans ?_
    refine (dn_istore (a := 0) (i := 39) rfl rfl _).trans ?_
    exact rfl
theorem B56_40 {x0 : Int32} {x1 : Int32} {hp : pH} : dn pg 56 40 [some (.int x0), some (.int x1)] [] hp = if x0 ≤ (nI 4) then dn pg 56 48 [some (.int x0), some (.int x1)] [] hp else dn pg 56 48 [some (.int ((x0.toUInt32 >>> ((nI 2).toUInt32 &&& Int32.toUInt32 31)).toInt32)), some (.int (x1 + nI 2))] [] hp := by
  refine (dc_iload (a := 0) (i := 40) rfl rfl).trans ?_
  refine (dc_ic (x := 4) (i := 41) rfl).trans ?_
  refine (dn_icmp (c := (fun x y => decide (x ≤ y))) (t := 48) (i := 42) rfl _ _).trans (q_ite ?_ ?_)
  · exact rfl
  · refine (dn_iinc (a := 1) (d := 2) (i := 43) rfl rfl rfl).trans ?_
    refine (dc_iload (a := 0) (i := 44) rfl rfl).trans ?_
    refine (dc_ic (x := 2) (i := 45) rfl).trans ?_
    refine (dc_bin (f := (fun x y => (x.toUInt32 >>> (y.toUInt32 &&& Int32.toUInt32 31)).toInt32)) (i := 46) rfl _ _).trans ?_
    refine (dn_istore (a := 0) (i := 47) rfl rfl _).trans ?_
    exact rfl
theorem B56_48 {x0 : Int32} {x1 : Int32} {hp : pH} : dn pg 56 48 [some (.int x0), some (.int x1)] [] hp = q_i (x1 + ((x0.toUInt32 >>> ((nI 1).toUInt32 &&& Int32.toUInt32 31)).toInt32)) hp := by
  refine (dc_iload (a := 1) (i := 48) rfl rfl).trans ?_
  refine (dc_iload (a := 0) (i := 49) rfl rfl).trans ?_
  refine (dc_ic (x := 1) (i := 50) rfl).trans ?_
  refine (dc_bin (f := (fun x y => (x.toUInt32 >>> (y.toUInt32 &&& Int32.toUInt32 31)).toInt32)) (i := 51) rfl _ _).trans ?_
  refine (dc_bin (f := (fun x y => x + y)) (i := 52) rfl _ _).trans ?_
  exact dc_ireturn (i := 53) rfl _
theorem B57_0 {o0 : Nat} {x1 : Int32} {x2 : Int32} {v3 : pO} {hp : pH} : dn pg 57 0 [some (.ref o0), some (.int x1), some (.int x2), v3] [] hp = qr_i (cl pg 10 [.int x1] hp) (fun y1 hp1 => if ¬ y1 = nI 0 then qr_i (cl pg 11 [.int x2, .int (nI 0), .int (nI 3)] hp1) (fun y2 hp2 => if ¬ y2 = nI 0 then qv hp2 o0 8 (qr_i (cl pg 36 [.ref o0, .int (nI 1)] hp2) (fun y3 hp3 => if y3 = nI 0 then if x2 = nI 0 then qg_a hp3 o0 8 4 (fun r4 => qg_a hp3 r4 1 0 (fun r5 => qv hp3 r5 7 (qr_i (cl pg 12 [.ref r5, .int x1] hp3) (fun y6 hp4 => q_i y6 hp4)))) else if x2 = nI 1 then qg_a hp3 o0 8 4 (fun r7 => qg_a hp3 r7 1 0 (fun r8 => qv hp3 r8 7 (qr_i (cl pg 44 [.ref r8, .int x1] hp3) (fun y9 hp5 => if y9 = nI 0 then dn pg 57 37 [some (.ref o0), some (.int x1), some (.int x2), some (.int y3)] [.int (nI 0)] hp5 else dn pg 57 37 [some (.ref o0), some (.int x1), some (.int x2), some (.int y3)] [.int (nI 1)] hp5)))) else if x2 = nI 2 then qg_a hp3 o0 8 4 (fun r10 => qg_a hp3 r10 1 0 (fun r11 => qv hp3 r11 7 (qr_i (cl pg 48 [.ref r11, .int x1] hp3) (fun y12 hp6 => q_i y12 hp6)))) else qg_a hp3 o0 8 4 (fun r13 => qg_a hp3 r13 1 0 (fun r14 => qv hp3 r14 7 (qr_i (cl pg 53 [.ref r14, .int x1] hp3) (fun y15 hp7 => q_i y15 hp7)))) else q_i y3 hp3)) else q_i (-2) hp2) else q_i (-1) hp1) := by
  refine (dc_iload (a := 1) (i := 0) rfl rfl).trans ?_
  refine (dn_cS_i (i := 1) (y := 10) (na := 1) rfl (pa_1 _ _) (Nat.le_of_ble_eq_true rfl) (Nat.le_of_ble_eq_true rfl)).trans (congrArg (qr_i _) (funext fun y1 => funext fun hp1 => ?_))
  refine (dn_if (c := (fun x => decide (¬ x = 0))) (t := 5) (i := 2) rfl _).trans (q_ite ?_ ?_)
  · refine (dc_iload (a := 2) (i := 5) rfl rfl).trans ?_
    refine (dc_ic (x := 0) (i := 6) rfl).trans ?_
    refine (dc_ic (x := 3) (i := 7) rfl).trans ?_
    refine (dn_cS_i (i := 8) (y := 11) (na := 3) rfl (pa_3 _ _ _ _) (Nat.le_of_ble_eq_true rfl) (Nat.le_of_ble_eq_true rfl)).trans (congrArg (qr_i _) (funext fun y2 => funext fun hp2 => ?_))
    refine (dn_if (c := (fun x => decide (¬ x = 0))) (t := 12) (i := 9) rfl _).trans (q_ite ?_ ?_)
    · refine (dc_aload (a := 0) (i := 12) rfl rfl).trans ?_
      refine (dc_ic (x := 1) (i := 13) rfl).trans ?_
      refine (dn_cV_i (i := 14) (y := 36) (na := 2) (ci := 8) rfl (pa_2 _ _ _) (Nat.le_of_ble_eq_true rfl) (Nat.le_of_ble_eq_true rfl)).trans (congrArg (fun F => qv _ _ _ (qr_i _ F)) (funext fun y3 => funext fun hp3 => ?_))
      refine (dn_istore (a := 3) (i := 15) rfl rfl _).trans ?_
      refine (dc_iload (a := 3) (i := 16) rfl rfl).trans ?_
      refine (dn_if (c := (fun x => decide (x = 0))) (t := 20) (i := 17) rfl _).trans (q_ite ?_ ?_)
      · refine (dc_iload (a := 2) (i := 20) rfl rfl).trans ?_
        refine (dn_sw2 (d := 44) (l := [(0, 22), (1, 28), (2, 38)]) (i := 21) rfl _).trans ?_
        refine q_swc ?_ ?_
        · refine (dc_aload (a := 0) (i := 22) rfl rfl).trans ?_
          refine (dn_getA (ci := 8) (j := 4) (i := 23) rfl _).trans (congrArg (qg_a _ _ _ _) (funext fun r4 => ?_))
          refine (dn_getA (ci := 1) (j := 0) (i := 24) rfl _).trans (congrArg (qg_a _ _ _ _) (funext fun r5 => ?_))
          refine (dc_iload (a := 1) (i := 25) rfl rfl).trans ?_
          refine (dn_cV_i (i := 26) (y := 12) (na := 2) (ci := 7) rfl (pa_2 _ _ _) (Nat.le_of_ble_eq_true rfl) (Nat.le_of_ble_eq_true rfl)).trans (congrArg (fun F => qv _ _ _ (qr_i _ F)) (funext fun y6 => funext fun hp4 => ?_))
          exact dc_ireturn (i := 27) rfl _
        refine q_swc ?_ ?_
        · refine (dc_aload (a := 0) (i := 28) rfl rfl).trans ?_
          refine (dn_getA (ci := 8) (j := 4) (i := 29) rfl _).trans (congrArg (qg_a _ _ _ _) (funext fun r7 => ?_))
          refine (dn_getA (ci := 1) (j := 0) (i := 30) rfl _).trans (congrArg (qg_a _ _ _ _) (funext fun r8 => ?_))
          refine (dc_iload (a := 1) (i := 31) rfl rfl).trans ?_
          refine (dn_cV_i (i := 32) (y := 44) (na := 2) (ci := 7) rfl (pa_2 _ _ _) (Nat.le_of_ble_eq_true rfl) (Nat.le_of_ble_eq_true rfl)).trans (congrArg (fun F => qv _ _ _ (qr_i _ F)) (funext fun y9 => funext fun hp5 => ?_))
          refine (dn_if (c := (fun x => decide (x = 0))) (t := 36) (i := 33) rfl _).trans (q_ite ?_ ?_)
          · refine (dc_ic (x := 0) (i := 36) rfl).trans ?_
            exact rfl
          · refine (dc_ic (x := 1) (i := 34) rfl).trans ?_
            refine (dc_goto (t := 37) (i := 35) rfl).trans ?_
            exact rfl
        refine q_swc ?_ ?_
        · refine (dc_aload (a := 0) (i := 38) rfl rfl).trans ?_
          refine (dn_getA (ci := 8) (j := 4) (i := 39) rfl _).trans (congrArg (qg_a _ _ _ _) (funext fun r10 => ?_))
          refine (dn_getA (ci := 1) (j := 0) (i := 40) rfl _).trans (congrArg (qg_a _ _ _ _) (funext fun r11 => ?_))
          refine (dc_iload (a := 1) (i := 41) rfl rfl).trans ?_
          refine (dn_cV_i (i := 42) (y := 48) (na := 2) (ci := 7) rfl (pa_2 _ _ _) (Nat.le_of_ble_eq_true rfl) (Nat.le_of_ble_eq_true rfl)).trans (congrArg (fun F => qv _ _ _ (qr_i _ F)) (funext fun y12 => funext fun hp6 => ?_))
          exact dc_ireturn (i := 43) rfl _
        refine q_swn ?_
        refine (dc_aload (a := 0) (i := 44) rfl rfl).trans ?_
        refine (dn_getA (ci := 8) (j := 4) (i := 45) rfl _).trans (congrArg (qg_a _ _ _ _) (funext fun r13 => ?_))
        refine (dn_getA (ci := 1) (j := 0) (i := 46) rfl _).trans (congrArg (qg_a _ _ _ _) (funext fun r14 => ?_))
        refine (dc_iload (a := 1) (i := 47) rfl rfl).trans ?_
        refine (dn_cV_i (i := 48) (y := 53) (na := 2) (ci := 7) rfl (pa_2 _ _ _) (Nat.le_of_ble_eq_true rfl) (Nat.le_of_ble_eq_true rfl)).trans (congrArg (fun F => qv _ _ _ (qr_i _ F)) (funext fun y15 => funext fun hp7 => ?_))
        exact dc_ireturn (i := 49) rfl _
      · refine (dc_iload (a := 3) (i := 18) rfl rfl).trans ?_
        exact dc_ireturn (i := 19) rfl _
    · refine (dc_ic (x := (-2)) (i := 10) rfl).trans ?_
      exact dc_ireturn (i := 11) rfl _
  · refine (dc_ic (x := (-1)) (i := 3) rfl).trans ?_
    exact dc_ireturn (i := 4) rfl _
theorem B57_37 {v0 : pO} {v1 : pO} {v2 : pO} {v3 : pO} {s0 : Int32} {hp : pH} : dn pg 57 37 [v0, v1, v2, v3] [.int s0] hp = q_i s0 hp := by
  exact dc_ireturn (i := 37) rfl _
theorem B58_0 {o0 : Nat} {x1 : Int32} {v2 : pO} {hp : pH} : dn pg 58 0 [some (.ref o0), some (.int x1), v2] [] hp = qr_i (cl pg 11 [.int x1, .int (nI 0), .int (nI 6)] hp) (fun y1 hp1 => if ¬ y1 = nI 0 then qv hp1 o0 8 (qr_i (cl pg 36 [.ref o0, .int (nI 1)] hp1) (fun y2 hp2 => if y2 = nI 0 then if x1 = nI 4 then qg_a hp2 o0 8 4 (fun r3 => qg_a hp2 r3 1 0 (fun r4 => qg_i hp2 r4 7 6 (fun y5 => q_i y5 hp2))) else if x1 = nI 5 then qg_a hp2 o0 8 4 (fun r6 => qg_a hp2 r6 1 0 (fun r7 => qg_i hp2 r7 7 7 (fun y8 => q_i y8 hp2))) else if x1 = nI 6 then qg_a hp2 o0 8 4 (fun r9 => qg_a hp2 r9 1 0 (fun r10 => qv hp2 r10 7 (qr_i (cl pg 17 [.ref r10] hp2) (fun y11 hp3 => q_i y11 hp3)))) else qg_a hp2 o0 8 4 (fun r12 => qg_a hp2 r12 1 0 (fun r13 => qv hp2 r13 7 (qr_i (cl pg 59 [.ref r13, .int x1] hp2) (fun y14 hp4 => q_i y14 hp4)))) else q_i y2 hp2)) else q_i (-2) hp1) := by
  refine (dc_iload (a := 1) (i := 0) rfl rfl).trans ?_
  refine (dc_ic (x := 0) (i := 1) rfl).trans ?_
  refine (dc_ic (x := 6) (i := 2) rfl).trans ?_
  refine (dn_cS_i (i := 3) (y := 11) (na := 3) rfl (pa_3 _ _ _ _) (Nat.le_of_ble_eq_true rfl) (Nat.le_of_ble_eq_true rfl)).trans (congrArg (qr_i _) (funext fun y1 => funext fun hp1 => ?_))
  refine (dn_if (c := (fun x => decide (¬ x = 0))) (t := 7) (i := 4) rfl _).trans (q_ite ?_ ?_)
  · refine (dc_aload (a := 0) (i := 7) rfl rfl).trans ?_
    refine (dc_ic (x := 1) (i := 8) rfl).trans ?_
    refine (dn_cV_i (i := 9) (y := 36) (na := 2) (ci := 8) rfl (pa_2 _ _ _) (Nat.le_of_ble_eq_true rfl) (Nat.le_of_ble_eq_true rfl)).trans (congrArg (fun F => qv _ _ _ (qr_i _ F)) (funext fun y2 => funext fun hp2 => ?_))
    refine (dn_istore (a := 2) (i := 10) rfl rfl _).trans ?_
    refine (dc_iload (a := 2) (i := 11) rfl rfl).trans ?_
    refine (dn_if (c := (fun x => decide (x = 0))) (t := 15) (i := 12) rfl _).trans (q_ite ?_ ?_)
    · refine (dc_iload (a := 1) (i := 15) rfl rfl).trans ?_
      refine (dn_sw2 (d := 32) (l := [(4, 17), (5, 22), (6, 27)]) (i := 16) rfl _).trans ?_
      refine q_swc ?_ ?_
      · refine (dc_aload (a := 0) (i := 17) rfl rfl).trans ?_
        refine (dn_getA (ci := 8) (j := 4) (i := 18) rfl _).trans (congrArg (qg_a _ _ _ _) (funext fun r3 => ?_))
        refine (dn_getA (ci := 1) (j := 0) (i := 19) rfl _).trans (congrArg (qg_a _ _ _ _) (funext fun r4 => ?_))
        refine (dn_getI (ci := 7) (j := 6) (i := 20) rfl _).trans (congrArg (qg_i _ _ _ _) (funext fun y5 => ?_))
        exact dc_ireturn (i := 21) rfl _
      refine q_swc ?_ ?_
      · refine (dc_aload (a := 0) (i := 22) rfl rfl).trans ?_
        refine (dn_getA (ci := 8) (j := 4) (i := 23) rfl _).trans (congrArg (qg_a _ _ _ _) (funext fun r6 => ?_))
        refine (dn_getA (ci := 1) (j := 0) (i := 24) rfl _).trans (congrArg (qg_a _ _ _ _) (funext fun r7 => ?_))
        refine (dn_getI (ci := 7) (j := 7) (i := 25) rfl _).trans (congrArg (qg_i _ _ _ _) (funext fun y8 => ?_))
        exact dc_ireturn (i := 26) rfl _
      refine q_swc ?_ ?_
      · refine (dc_aload (a := 0) (i := 27) rfl rfl).trans ?_
        refine (dn_getA (ci := 8) (j := 4) (i := 28) rfl _).trans (congrArg (qg_a _ _ _ _) (funext fun r9 => ?_))
        refine (dn_getA (ci := 1) (j := 0) (i := 29) rfl _).trans (congrArg (qg_a _ _ _ _) (funext fun r10 => ?_))
        refine (dn_cV_i (i := 30) (y := 17) (na := 1) (ci := 7) rfl (pa_1 _ _) (Nat.le_of_ble_eq_true rfl) (Nat.le_of_ble_eq_true rfl)).trans (congrArg (fun F => qv _ _ _ (qr_i _ F)) (funext fun y11 => funext fun hp3 => ?_))
        exact dc_ireturn (i := 31) rfl _
      refine q_swn ?_
      refine (dc_aload (a := 0) (i := 32) rfl rfl).trans ?_
      refine (dn_getA (ci := 8) (j := 4) (i := 33) rfl _).trans (congrArg (qg_a _ _ _ _) (funext fun r12 => ?_))
      refine (dn_getA (ci := 1) (j := 0) (i := 34) rfl _).trans (congrArg (qg_a _ _ _ _) (funext fun r13 => ?_))
      refine (dc_iload (a := 1) (i := 35) rfl rfl).trans ?_
      refine (dn_cV_i (i := 36) (y := 59) (na := 2) (ci := 7) rfl (pa_2 _ _ _) (Nat.le_of_ble_eq_true rfl) (Nat.le_of_ble_eq_true rfl)).trans (congrArg (fun F => qv _ _ _ (qr_i _ F)) (funext fun y14 => funext fun hp4 => ?_))
      exact dc_ireturn (i := 37) rfl _
    · refine (dc_iload (a := 2) (i := 13) rfl rfl).trans ?_
      exact dc_ireturn (i := 14) rfl _
  · refine (dc_ic (x := (-2)) (i := 5) rfl).trans ?_
    exact dc_ireturn (i := 6) rfl _
theorem B59_0 {v0 : pO} {v1 : pO} {v2 : pO} {v3 : pO} {hp : pH} (h1 : pm_nl v1 = true) : dn pg 59 0 [v0, v1, v2, v3] [] hp = dn pg 59 4 [v0, v1, some (.int (nI 0)), some (.int (nI 0))] [] hp := by
  refine (dc_ic (x := 0) (i := 0) rfl).trans ?_
  refine (dn_istore (a := 2) (i := 1) rfl (pm_ok_nl (Nat.le_of_ble_eq_true rfl) rfl h1) _).trans ?_
  refine (dc_ic (x := 0) (i := 2) rfl).trans ?_
  refine (dn_istore (a := 3) (i := 3) rfl rfl _).trans ?_
  exact rfl
theorem B59_4 {o0 : Nat} {x1 : Int32} {x2 : Int32} {x3 : Int32} {hp : pH} : dn pg 59 4 [some (.ref o0), some (.int x1), some (.int x2), some (.int x3)] [] hp = if (nI 8) ≤ x3 then q_i x2 hp else qg_a hp o0 7 0 (fun r1 => qa_i hp r1 0 x3 (fun y2 => if ¬ y2 = x1 then dn pg 59 17 [some (.ref o0), some (.int x1), some (.int x2), some (.int x3)] [.int (nI 0), .int x2] hp else dn pg 59 17 [some (.ref o0), some (.int x1), some (.int x2), some (.int x3)] [.int (nI 1), .int x2] hp)) := by
  refine (dc_iload (a := 3) (i := 4) rfl rfl).trans ?_
  refine (dc_ic (x := 8) (i := 5) rfl).trans ?_
  refine (dn_icmp (c := (fun x y => decide (y ≤ x))) (t := 21) (i := 6) rfl _ _).trans (q_ite ?_ ?_)
  · refine (dc_iload (a := 2) (i := 21) rfl rfl).trans ?_
    exact dc_ireturn (i := 22) rfl _
  · refine (dc_iload (a := 2) (i := 7) rfl rfl).trans ?_
    refine (dc_aload (a := 0) (i := 8) rfl rfl).trans ?_
    refine (dn_getA (ci := 7) (j := 0) (i := 9) rfl _).trans (congrArg (qg_a _ _ _ _) (funext fun r1 => ?_))
    refine (dc_iload (a := 3) (i := 10) rfl rfl).trans ?_
    refine (dn_iald (t := 0) (i := 11) rfl _ _).trans (congrArg (qa_i _ _ _ _) (funext fun y2 => ?_))
    refine (dc_iload (a := 1) (i := 12) rfl rfl).trans ?_
    refine (dn_icmp (c := (fun x y => decide (¬ x = y))) (t := 16) (i := 13) rfl _ _).trans (q_ite ?_ ?_)
    · refine (dc_ic (x := 0) (i := 16) rfl).trans ?_
      exact rfl
    · refine (dc_ic (x := 1) (i := 14) rfl).trans ?_
      refine (dc_goto (t := 17) (i := 15) rfl).trans ?_
      exact rfl
theorem B59_17 {v0 : pO} {v1 : pO} {v2 : pO} {x3 : Int32} {s0 : Int32} {s1 : Int32} {hp : pH} (h1 : pm_nl v1 = true) : dn pg 59 17 [v0, v1, v2, some (.int x3)] [.int s0, .int s1] hp = dn pg 59 4 [v0, v1, some (.int (s1 + s0)), some (.int (x3 + nI 1))] [] hp := by
  refine (dc_bin (f := (fun x y => x + y)) (i := 17) rfl _ _).trans ?_
  refine (dn_istore (a := 2) (i := 18) rfl (pm_ok_nl (Nat.le_of_ble_eq_true rfl) rfl h1) _).trans ?_
  refine (dn_iinc (a := 3) (d := 1) (i := 19) rfl rfl rfl).trans ?_
  refine (dc_goto (t := 4) (i := 20) rfl).trans ?_
  exact rfl
theorem B60_0 {o0 : Nat} {x1 : Int32} {v2 : pO} {hp : pH} : dn pg 60 0 [some (.ref o0), some (.int x1), v2] [] hp = qr_i (cl pg 11 [.int x1, .int (nI 0), .int (nI 1)] hp) (fun y1 hp1 => if ¬ y1 = nI 0 then qv hp1 o0 8 (qr_i (cl pg 36 [.ref o0, .int (nI 1)] hp1) (fun y2 hp2 => if y2 = nI 0 then if ¬ x1 = nI 0 then qg_a hp2 o0 8 4 (fun r3 => qg_i hp2 r3 1 5 (fun y4 => dn pg 60 24 [some (.ref o0), some (.int x1), some (.int y2)] [.int y4] hp2)) else qg_a hp2 o0 8 4 (fun r5 => qg_i hp2 r5 1 4 (fun y6 => dn pg 60 24 [some (.ref o0), some (.int x1), some (.int y2)] [.int y6] hp2)) else q_i y2 hp2)) else q_i (-2) hp1) := by
  refine (dc_iload (a := 1) (i := 0) rfl rfl).trans ?_
  refine (dc_ic (x := 0) (i := 1) rfl).trans ?_
  refine (dc_ic (x := 1) (i := 2) rfl).trans ?_
  refine (dn_cS_i (i := 3) (y := 11) (na := 3) rfl (pa_3 _ _ _ _) (Nat.le_of_ble_eq_true rfl) (Nat.le_of_ble_eq_true rfl)).trans (congrArg (qr_i _) (funext fun y1 => funext fun hp1 => ?_))
  refine (dn_if (c := (fun x => decide (¬ x = 0))) (t := 7) (i := 4) rfl _).trans (q_ite ?_ ?_)
  · refine (dc_aload (a := 0) (i := 7) rfl rfl).trans ?_
    refine (dc_ic (x := 1) (i := 8) rfl).trans ?_
    refine (dn_cV_i (i := 9) (y := 36) (na := 2) (ci := 8) rfl (pa_2 _ _ _) (Nat.le_of_ble_eq_true rfl) (Nat.le_of_ble_eq_true rfl)).trans (congrArg (fun F => qv _ _ _ (qr_i _ F)) (funext fun y2 => funext fun hp2 => ?_))
    refine (dn_istore (a := 2) (i := 10) rfl rfl _).trans ?_
    refine (dc_iload (a := 2) (i := 11) rfl rfl).trans ?_
    refine (dn_if (c := (fun x => decide (x = 0))) (t := 15) (i := 12) rfl _).trans (q_ite ?_ ?_)
    · refine (dc_iload (a := 1) (i := 15) rfl rfl).trans ?_
      refine (dn_if (c := (fun x => decide (¬ x = 0))) (t := 21) (i := 16) rfl _).trans (q_ite ?_ ?_)
      · refine (dc_aload (a := 0) (i := 21) rfl rfl).trans ?_
        refine (dn_getA (ci := 8) (j := 4) (i := 22) rfl _).trans (congrArg (qg_a _ _ _ _) (funext fun r3 => ?_))
        refine (dn_getI (ci := 1) (j := 5) (i := 23) rfl _).trans (congrArg (qg_i _ _ _ _) (funext fun y4 => ?_))
        exact rfl
      · refine (dc_aload (a := 0) (i := 17) rfl rfl).trans ?_
        refine (dn_getA (ci := 8) (j := 4) (i := 18) rfl _).trans (congrArg (qg_a _ _ _ _) (funext fun r5 => ?_))
        refine (dn_getI (ci := 1) (j := 4) (i := 19) rfl _).trans (congrArg (qg_i _ _ _ _) (funext fun y6 => ?_))
        refine (dc_goto (t := 24) (i := 20) rfl).trans ?_
        exact rfl
    · refine (dc_iload (a := 2) (i := 13) rfl rfl).trans ?_
      exact dc_ireturn (i := 14) rfl _
  · refine (dc_ic (x := (-2)) (i := 5) rfl).trans ?_
    exact dc_ireturn (i := 6) rfl _
theorem B60_24 {v0 : pO} {v1 : pO} {v2 : pO} {s0 : Int32} {hp : pH} : dn pg 60 24 [v0, v1, v2] [.int s0] hp = q_i s0 hp := by
  exact dc_ireturn (i := 24) rfl _
theorem B61_0 {o0 : Nat} {v1 : pO} {v2 : pO} {hp : pH} : dn pg 61 0 [some (.ref o0), v1, v2] [] hp = qv hp o0 8 (qr_i (cl pg 36 [.ref o0, .int (nI 1)] hp) (fun y1 hp1 => if y1 = nI 0 then qg_a hp1 o0 8 3 (fun r2 => qg_i hp1 r2 2 5 (fun y3 => qg_a hp1 o0 8 0 (fun r4 => qg_a hp1 r4 6 0 (fun r5 => qg_a hp1 o0 8 4 (fun r6 => qg_a hp1 r6 1 0 (fun r7 => qv hp1 r5 7 (qr_v (cl pg 39 [.ref r5, .ref r7] hp1) (fun hp2 => qg_a hp2 o0 8 3 (fun r8 => qv hp2 r8 2 (qr_v (cl pg 27 [.ref r8] hp2) (fun hp3 => q_i y3 hp3))))))))))) else q_i y1 hp1)) := by
  refine (dc_aload (a := 0) (i := 0) rfl rfl).trans ?_
  refine (dc_ic (x := 1) (i := 1) rfl).trans ?_
  refine (dn_cV_i (i := 2) (y := 36) (na := 2) (ci := 8) rfl (pa_2 _ _ _) (Nat.le_of_ble_eq_true rfl) (Nat.le_of_ble_eq_true rfl)).trans (congrArg (fun F => qv _ _ _ (qr_i _ F)) (funext fun y1 => funext fun hp1 => ?_))
  refine (dn_istore (a := 1) (i := 3) rfl rfl _).trans ?_
  refine (dc_iload (a := 1) (i := 4) rfl rfl).trans ?_
  refine (dn_if (c := (fun x => decide (x = 0))) (t := 8) (i := 5) rfl _).trans (q_ite ?_ ?_)
  · refine (dc_aload (a := 0) (i := 8) rfl rfl).trans ?_
    refine (dn_getA (ci := 8) (j := 3) (i := 9) rfl _).trans (congrArg (qg_a _ _ _ _) (funext fun r2 => ?_))
    refine (dn_getI (ci := 2) (j := 5) (i := 10) rfl _).trans (congrArg (qg_i _ _ _ _) (funext fun y3 => ?_))
    refine (dn_istore (a := 2) (i := 11) rfl rfl _).trans ?_
    refine (dc_aload (a := 0) (i := 12) rfl rfl).trans ?_
    refine (dn_getA (ci := 8) (j := 0) (i := 13) rfl _).trans (congrArg (qg_a _ _ _ _) (funext fun r4 => ?_))
    refine (dn_getA (ci := 6) (j := 0) (i := 14) rfl _).trans (congrArg (qg_a _ _ _ _) (funext fun r5 => ?_))
    refine (dc_aload (a := 0) (i := 15) rfl rfl).trans ?_
    refine (dn_getA (ci := 8) (j := 4) (i := 16) rfl _).trans (congrArg (qg_a _ _ _ _) (funext fun r6 => ?_))
    refine (dn_getA (ci := 1) (j := 0) (i := 17) rfl _).trans (congrArg (qg_a _ _ _ _) (funext fun r7 => ?_))
    refine (dn_cV_v (i := 18) (y := 39) (na := 2) (ci := 7) rfl (pa_2 _ _ _) (Nat.le_of_ble_eq_true rfl) (Nat.le_of_ble_eq_true rfl)).trans (congrArg (fun F => qv _ _ _ (qr_v _ F)) (funext fun hp2 => ?_))
    refine (dc_aload (a := 0) (i := 19) rfl rfl).trans ?_
    refine (dn_getA (ci := 8) (j := 3) (i := 20) rfl _).trans (congrArg (qg_a _ _ _ _) (funext fun r8 => ?_))
    refine (dn_cV_v (i := 21) (y := 27) (na := 1) (ci := 2) rfl (pa_1 _ _) (Nat.le_of_ble_eq_true rfl) (Nat.le_of_ble_eq_true rfl)).trans (congrArg (fun F => qv _ _ _ (qr_v _ F)) (funext fun hp3 => ?_))
    refine (dc_iload (a := 2) (i := 22) rfl rfl).trans ?_
    exact dc_ireturn (i := 23) rfl _
  · refine (dc_iload (a := 1) (i := 6) rfl rfl).trans ?_
    exact dc_ireturn (i := 7) rfl _
theorem B62_0 {o0 : Nat} {x1 : Int32} {x2 : Int32} {hp : pH} : dn pg 62 0 [some (.ref o0), some (.int x1), some (.int x2)] [] hp = qr_i (cl pg 10 [.int x1] hp) (fun y1 hp1 => if ¬ y1 = nI 0 then qr_i (cl pg 11 [.int x2, .int (nI 0), .int (nI 99)] hp1) (fun y2 hp2 => if ¬ y2 = nI 0 then qg_a hp2 o0 8 0 (fun r3 => qg_a hp2 r3 6 0 (fun r4 => qv hp2 r4 7 (qr_i (cl pg 63 [.ref r4, .int x1, .int (nI 1), .int x2] hp2) (fun y5 hp3 => qg_a hp3 o0 8 0 (fun r6 => qg_a hp3 r6 6 0 (fun r7 => qv hp3 r7 7 (qr_i (cl pg 63 [.ref r7, .int x1, .int (nI 7), .int x2] hp3) (fun y8 hp4 => q_i (y5 ||| y8) hp4)))))))) else q_i (-2) hp2) else q_i (-1) hp1) := by
  refine (dc_iload (a := 1) (i := 0) rfl rfl).trans ?_
  refine (dn_cS_i (i := 1) (y := 10) (na := 1) rfl (pa_1 _ _) (Nat.le_of_ble_eq_true rfl) (Nat.le_of_ble_eq_true rfl)).trans (congrArg (qr_i _) (funext fun y1 => funext fun hp1 => ?_))
  refine (dn_if (c := (fun x => decide (¬ x = 0))) (t := 5) (i := 2) rfl _).trans (q_ite ?_ ?_)
  · refine (dc_iload (a := 2) (i := 5) rfl rfl).trans ?_
    refine (dc_ic (x := 0) (i := 6) rfl).trans ?_
    refine (dc_ic (x := 99) (i := 7) rfl).trans ?_
    refine (dn_cS_i (i := 8) (y := 11) (na := 3) rfl (pa_3 _ _ _ _) (Nat.le_of_ble_eq_true rfl) (Nat.le_of_ble_eq_true rfl)).trans (congrArg (qr_i _) (funext fun y2 => funext fun hp2 => ?_))
    refine (dn_if (c := (fun x => decide (¬ x = 0))) (t := 12) (i := 9) rfl _).trans (q_ite ?_ ?_)
    · refine (dc_aload (a := 0) (i := 12) rfl rfl).trans ?_
      refine (dn_getA (ci := 8) (j := 0) (i := 13) rfl _).trans (congrArg (qg_a _ _ _ _) (funext fun r3 => ?_))
      refine (dn_getA (ci := 6) (j := 0) (i := 14) rfl _).trans (congrArg (qg_a _ _ _ _) (funext fun r4 => ?_))
      refine (dc_iload (a := 1) (i := 15) rfl rfl).trans ?_
      refine (dc_ic (x := 1) (i := 16) rfl).trans ?_
      refine (dc_iload (a := 2) (i := 17) rfl rfl).trans ?_
      refine (dn_cV_i (i := 18) (y := 63) (na := 4) (ci := 7) rfl (pa_4 _ _ _ _ _) (Nat.le_of_ble_eq_true rfl) (Nat.le_of_ble_eq_true rfl)).trans (congrArg (fun F => qv _ _ _ (qr_i _ F)) (funext fun y5 => funext fun hp3 => ?_))
      refine (dc_aload (a := 0) (i := 19) rfl rfl).trans ?_
      refine (dn_getA (ci := 8) (j := 0) (i := 20) rfl _).trans (congrArg (qg_a _ _ _ _) (funext fun r6 => ?_))
      refine (dn_getA (ci := 6) (j := 0) (i := 21) rfl _).trans (congrArg (qg_a _ _ _ _) (funext fun r7 => ?_))
      refine (dc_iload (a := 1) (i := 22) rfl rfl).trans ?_
      refine (dc_ic (x := 7) (i := 23) rfl).trans ?_
      refine (dc_iload (a := 2) (i := 24) rfl rfl).trans ?_
      refine (dn_cV_i (i := 25) (y := 63) (na := 4) (ci := 7) rfl (pa_4 _ _ _ _ _) (Nat.le_of_ble_eq_true rfl) (Nat.le_of_ble_eq_true rfl)).trans (congrArg (fun F => qv _ _ _ (qr_i _ F)) (funext fun y8 => funext fun hp4 => ?_))
      refine (dc_bin (f := (fun x y => x ||| y)) (i := 26) rfl _ _).trans ?_
      exact dc_ireturn (i := 27) rfl _
    · refine (dc_ic (x := (-2)) (i := 10) rfl).trans ?_
      exact dc_ireturn (i := 11) rfl _
  · refine (dc_ic (x := (-1)) (i := 3) rfl).trans ?_
    exact dc_ireturn (i := 4) rfl _
theorem B63_0 {o0 : Nat} {x1 : Int32} {v2 : pO} {v3 : pO} {v4 : pO} {v5 : pO} {v6 : pO} {v7 : pO} {hp : pH} (h3 : pm_nl v3 = true) : dn pg 63 0 [some (.ref o0), some (.int x1), v2, v3, v4, v5, v6, v7] [] hp = qv hp o0 7 (qr_i (cl pg 53 [.ref o0, .int x1] hp) (fun y1 hp1 => dn pg 63 8 [some (.ref o0), some (.int x1), v2, v3, some (.int y1), some (.int (nI 0)), some (.int (nI 1)), v7] [] hp1)) := by
  refine (dc_aload (a := 0) (i := 0) rfl rfl).trans ?_
  refine (dc_iload (a := 1) (i := 1) rfl rfl).trans ?_
  refine (dn_cV_i (i := 2) (y := 53) (na := 2) (ci := 7) rfl (pa_2 _ _ _) (Nat.le_of_ble_eq_true rfl) (Nat.le_of_ble_eq_true rfl)).trans (congrArg (fun F => qv _ _ _ (qr_i _ F)) (funext fun y1 => funext fun hp1 => ?_))
  refine (dn_istore (a := 4) (i := 3) rfl (pm_ok_nl (Nat.le_of_ble_eq_true rfl) rfl h3) _).trans ?_
  refine (dc_ic (x := 0) (i := 4) rfl).trans ?_
  refine (dn_istore (a := 5) (i := 5) rfl rfl _).trans ?_
  refine (dc_ic (x := 1) (i := 6) rfl).trans ?_
  refine (dn_istore (a := 6) (i := 7) rfl rfl _).trans ?_
  exact rfl
theorem B63_8 {o0 : Nat} {x1 : Int32} {x2 : Int32} {x3 : Int32} {x4 : Int32} {x5 : Int32} {x6 : Int32} {v7 : pO} {hp : pH} : dn pg 63 8 [some (.ref o0), some (.int x1), some (.int x2), some (.int x3), some (.int x4), some (.int x5), some (.int x6), v7] [] hp = if (nI 8) ≤ x6 then q_i x5 hp else qv hp o0 7 (qr_i (cl pg 53 [.ref o0, .int ((x1 + (x6 * x2)) % (nI 8))] hp) (fun y1 hp1 => if x3 < (x4 + y1) then dn pg 63 34 [some (.ref o0), some (.int x1), some (.int x2), some (.int x3), some (.int (x4 + y1)), some (.int x5), some (.int x6), some (.int ((x1 + (x6 * x2)) % (nI 8)))] [.int (nI 0), .int x5] hp1 else dn pg 63 34 [some (.ref o0), some (.int x1), some (.int x2), some (.int x3), some (.int (x4 + y1)), some (.int x5), some (.int x6), some (.int ((x1 + (x6 * x2)) % (nI 8)))] [.int ((nI 1) <<< (((x1 + (x6 * x2)) % (nI 8)) &&& nI 31)), .int x5] hp1)) := by
  refine (dc_iload (a := 6) (i := 8) rfl rfl).trans ?_
  refine (dc_ic (x := 8) (i := 9) rfl).trans ?_
  refine (dn_icmp (c := (fun x y => decide (y ≤ x))) (t := 38) (i := 10) rfl _ _).trans (q_ite ?_ ?_)
  · refine (dc_iload (a := 5) (i := 38) rfl rfl).trans ?_
    exact dc_ireturn (i := 39) rfl _
  · refine (dc_iload (a := 1) (i := 11) rfl rfl).trans ?_
    refine (dc_iload (a := 6) (i := 12) rfl rfl).trans ?_
    refine (dc_iload (a := 2) (i := 13) rfl rfl).trans ?_
    refine (dc_bin (f := (fun x y => x * y)) (i := 14) rfl _ _).trans ?_
    refine (dc_bin (f := (fun x y => x + y)) (i := 15) rfl _ _).trans ?_
    refine (dc_ic (x := 8) (i := 16) rfl).trans ?_
    refine ((dn_div (f := (fun x y => x % y)) (i := 17) rfl _ _).trans (if_neg (by decide))).trans ?_
    refine (dn_istore (a := 7) (i := 18) rfl rfl _).trans ?_
    refine (dc_iload (a := 4) (i := 19) rfl rfl).trans ?_
    refine (dc_aload (a := 0) (i := 20) rfl rfl).trans ?_
    refine (dc_iload (a := 7) (i := 21) rfl rfl).trans ?_
    refine (dn_cV_i (i := 22) (y := 53) (na := 2) (ci := 7) rfl (pa_2 _ _ _) (Nat.le_of_ble_eq_true rfl) (Nat.le_of_ble_eq_true rfl)).trans (congrArg (fun F => qv _ _ _ (qr_i _ F)) (funext fun y1 => funext fun hp1 => ?_))
    refine (dc_bin (f := (fun x y => x + y)) (i := 23) rfl _ _).trans ?_
    refine (dn_istore (a := 4) (i := 24) rfl rfl _).trans ?_
    refine (dc_iload (a := 5) (i := 25) rfl rfl).trans ?_
    refine (dc_iload (a := 4) (i := 26) rfl rfl).trans ?_
    refine (dc_iload (a := 3) (i := 27) rfl rfl).trans ?_
    refine (dn_icmp (c := (fun x y => decide (y < x))) (t := 33) (i := 28) rfl _ _).trans (q_ite ?_ ?_)
    · refine (dc_ic (x := 0) (i := 33) rfl).trans ?_
      exact rfl
    · refine (dc_ic (x := 1) (i := 29) rfl).trans ?_
      refine (dc_iload (a := 7) (i := 30) rfl rfl).trans ?_
      refine (dc_bin (f := (fun x y => x <<< (y &&& 31))) (i := 31) rfl _ _).trans ?_
      refine (dc_goto (t := 34) (i := 32) rfl).trans ?_
      exact rfl
theorem B63_34 {v0 : pO} {v1 : pO} {v2 : pO} {v3 : pO} {v4 : pO} {v5 : pO} {x6 : Int32} {v7 : pO} {s0 : Int32} {s1 : Int32} {hp : pH} (h4 : pm_nl v4 = true) : dn pg 63 34 [v0, v1, v2, v3, v4, v5, some (.int x6), v7] [.int s0, .int s1] hp = dn pg 63 8 [v0, v1, v2, v3, v4, some (.int (s1 ||| s0)), some (.int (x6 + nI 1)), v7] [] hp := by
  refine (dc_bin (f := (fun x y => x ||| y)) (i := 34) rfl _ _).trans ?_
  refine (dn_istore (a := 5) (i := 35) rfl (pm_ok_nl (Nat.le_of_ble_eq_true rfl) rfl h4) _).trans ?_
  refine (dn_iinc (a := 6) (d := 1) (i := 36) rfl rfl rfl).trans ?_
  refine (dc_goto (t := 8) (i := 37) rfl).trans ?_
  exact rfl
theorem B64_0 {o0 : Nat} {x1 : Int32} {v2 : pO} {hp : pH} : dn pg 64 0 [some (.ref o0), some (.int x1), v2] [] hp = qr_i (cl pg 11 [.int x1, .int (nI 0), .int (nI 1)] hp) (fun y1 hp1 => if ¬ y1 = nI 0 then qg_a hp1 o0 8 0 (fun r2 => qg_a hp1 r2 6 0 (fun r3 => qv hp1 r3 7 (qr_i (cl pg 65 [.ref r3] hp1) (fun y4 hp2 => if ¬ x1 = nI 0 then dn pg 64 21 [some (.ref o0), some (.int x1), some (.int y4)] [.int y4] hp2 else qg_a hp2 o0 8 0 (fun r5 => qg_a hp2 r5 6 0 (fun r6 => qv hp2 r6 7 (qr_i (cl pg 67 [.ref r6, .int y4] hp2) (fun y7 hp3 => dn pg 64 21 [some (.ref o0), some (.int x1), some (.int y4)] [.int y7] hp3)))))))) else q_i (-2) hp1) := by
  refine (dc_iload (a := 1) (i := 0) rfl rfl).trans ?_
  refine (dc_ic (x := 0) (i := 1) rfl).trans ?_
  refine (dc_ic (x := 1) (i := 2) rfl).trans ?_
  refine (dn_cS_i (i := 3) (y := 11) (na := 3) rfl (pa_3 _ _ _ _) (Nat.le_of_ble_eq_true rfl) (Nat.le_of_ble_eq_true rfl)).trans (congrArg (qr_i _) (funext fun y1 => funext fun hp1 => ?_))
  refine (dn_if (c := (fun x => decide (¬ x = 0))) (t := 7) (i := 4) rfl _).trans (q_ite ?_ ?_)
  · refine (dc_aload (a := 0) (i := 7) rfl rfl).trans ?_
    refine (dn_getA (ci := 8) (j := 0) (i := 8) rfl _).trans (congrArg (qg_a _ _ _ _) (funext fun r2 => ?_))
    refine (dn_getA (ci := 6) (j := 0) (i := 9) rfl _).trans (congrArg (qg_a _ _ _ _) (funext fun r3 => ?_))
    refine (dn_cV_i (i := 10) (y := 65) (na := 1) (ci := 7) rfl (pa_1 _ _) (Nat.le_of_ble_eq_true rfl) (Nat.le_of_ble_eq_true rfl)).trans (congrArg (fun F => qv _ _ _ (qr_i _ F)) (funext fun y4 => funext fun hp2 => ?_))
    refine (dn_istore (a := 2) (i := 11) rfl rfl _).trans ?_
    refine (dc_iload (a := 1) (i := 12) rfl rfl).trans ?_
    refine (dn_if (c := (fun x => decide (¬ x = 0))) (t := 20) (i := 13) rfl _).trans (q_ite ?_ ?_)
    · refine (dc_iload (a := 2) (i := 20) rfl rfl).trans ?_
      exact rfl
    · refine (dc_aload (a := 0) (i := 14) rfl rfl).trans ?_
      refine (dn_getA (ci := 8) (j := 0) (i := 15) rfl _).trans (congrArg (qg_a _ _ _ _) (funext fun r5 => ?_))
      refine (dn_getA (ci := 6) (j := 0) (i := 16) rfl _).trans (congrArg (qg_a _ _ _ _) (funext fun r6 => ?_))
      refine (dc_iload (a := 2) (i := 17) rfl rfl).trans ?_
      refine (dn_cV_i (i := 18) (y := 67) (na := 2) (ci := 7) rfl (pa_2 _ _ _) (Nat.le_of_ble_eq_true rfl) (Nat.le_of_ble_eq_true rfl)).trans (congrArg (fun F => qv _ _ _ (qr_i _ F)) (funext fun y7 => funext fun hp3 => ?_))
      refine (dc_goto (t := 21) (i := 19) rfl).trans ?_
      exact rfl
  · refine (dc_ic (x := (-2)) (i := 5) rfl).trans ?_
    exact dc_ireturn (i := 6) rfl _
theorem B64_21 {v0 : pO} {v1 : pO} {v2 : pO} {s0 : Int32} {hp : pH} : dn pg 64 21 [v0, v1, v2] [.int s0] hp = q_i s0 hp := by
  exact dc_ireturn (i := 21) rfl _
theorem B65_0 {o0 : Nat} {v1 : pO} {v2 : pO} {v3 : pO} {v4 : pO} {hp : pH} : dn pg 65 0 [some (.ref o0), v1, v2, v3, v4] [] hp = qv hp o0 7 (qr_v (cl pg 66 [.ref o0] hp) (fun hp1 => qv hp1 o0 7 (qr_i (cl pg 67 [.ref o0, .int (nI 1)] hp1) (fun y1 hp2 => dn pg 65 10 [some (.ref o0), some (.int (nI 1)), some (.int y1), some (.int (nI 3)), v4] [] hp2)))) := by
  refine (dc_aload (a := 0) (i := 0) rfl rfl).trans ?_
  refine (dn_cV_v (i := 1) (y := 66) (na := 1) (ci := 7) rfl (pa_1 _ _) (Nat.le_of_ble_eq_true rfl) (Nat.le_of_ble_eq_true rfl)).trans (congrArg (fun F => qv _ _ _ (qr_v _ F)) (funext fun hp1 => ?_))
  refine (dc_ic (x := 1) (i := 2) rfl).trans ?_
  refine (dn_istore (a := 1) (i := 3) rfl rfl _).trans ?_
  refine (dc_aload (a := 0) (i := 4) rfl rfl).trans ?_
  refine (dc_ic (x := 1) (i := 5) rfl).trans ?_
  refine (dn_cV_i (i := 6) (y := 67) (na := 2) (ci := 7) rfl (pa_2 _ _ _) (Nat.le_of_ble_eq_true rfl) (Nat.le_of_ble_eq_true rfl)).trans (congrArg (fun F => qv _ _ _ (qr_i _ F)) (funext fun y1 => funext fun hp2 => ?_))
  refine (dn_istore (a := 2) (i := 7) rfl rfl _).trans ?_
  refine (dc_ic (x := 3) (i := 8) rfl).trans ?_
  refine (dn_istore (a := 3) (i := 9) rfl rfl _).trans ?_
  exact rfl
theorem B65_10 {o0 : Nat} {x1 : Int32} {x2 : Int32} {x3 : Int32} {v4 : pO} {hp : pH} : dn pg 65 10 [some (.ref o0), some (.int x1), some (.int x2), some (.int x3), v4] [] hp = if (nI 255) < x3 then q_i x1 hp else qv hp o0 7 (qr_i (cl pg 67 [.ref o0, .int x3] hp) (fun y1 hp1 => if x2 ≤ y1 then dn pg 65 24 [some (.ref o0), some (.int x1), some (.int x2), some (.int x3), some (.int y1)] [] hp1 else dn pg 65 24 [some (.ref o0), some (.int x3), some (.int y1), some (.int x3), some (.int y1)] [] hp1)) := by
  refine (dc_iload (a := 3) (i := 10) rfl rfl).trans ?_
  refine (dc_ic (x := 255) (i := 11) rfl).trans ?_
  refine (dn_icmp (c := (fun x y => decide (y < x))) (t := 26) (i := 12) rfl _ _).trans (q_ite ?_ ?_)
  · refine (dc_iload (a := 1) (i := 26) rfl rfl).trans ?_
    exact dc_ireturn (i := 27) rfl _
  · refine (dc_aload (a := 0) (i := 13) rfl rfl).trans ?_
    refine (dc_iload (a := 3) (i := 14) rfl rfl).trans ?_
    refine (dn_cV_i (i := 15) (y := 67) (na := 2) (ci := 7) rfl (pa_2 _ _ _) (Nat.le_of_ble_eq_true rfl) (Nat.le_of_ble_eq_true rfl)).trans (congrArg (fun F => qv _ _ _ (qr_i _ F)) (funext fun y1 => funext fun hp1 => ?_))
    refine (dn_istore (a := 4) (i := 16) rfl rfl _).trans ?_
    refine (dc_iload (a := 4) (i := 17) rfl rfl).trans ?_
    refine (dc_iload (a := 2) (i := 18) rfl rfl).trans ?_
    refine (dn_icmp (c := (fun x y => decide (y ≤ x))) (t := 24) (i := 19) rfl _ _).trans (q_ite ?_ ?_)
    · exact rfl
    · refine (dc_iload (a := 4) (i := 20) rfl rfl).trans ?_
      refine (dn_istore (a := 2) (i := 21) rfl rfl _).trans ?_
      refine (dc_iload (a := 3) (i := 22) rfl rfl).trans ?_
      refine (dn_istore (a := 1) (i := 23) rfl rfl _).trans ?_
      exact rfl
theorem B65_24 {v0 : pO} {v1 : pO} {v2 : pO} {x3 : Int32} {v4 : pO} {hp : pH} (h2 : pm_nl v2 = true) : dn pg 65 24 [v0, v1, v2, some (.int x3), v4] [] hp = dn pg 65 10 [v0, v1, v2, some (.int (x3 + nI 2)), v4] [] hp := by
  refine (dn_iinc (a := 3) (d := 2) (i := 24) rfl (pm_ok_nl (Nat.le_of_ble_eq_true rfl) rfl h2) rfl).trans ?_
  refine (dc_goto (t := 10) (i := 25) rfl).trans ?_
  exact rfl
theorem B66_0 {v0 : pO} {v1 : pO} {v2 : pO} {v3 : pO} {hp : pH} (h0 : pm_nl v0 = true) : dn pg 66 0 [v0, v1, v2, v3] [] hp = dn pg 66 2 [v0, some (.int (nI 0)), v2, v3] [] hp := by
  refine (dc_ic (x := 0) (i := 0) rfl).trans ?_
  refine (dn_istore (a := 1) (i := 1) rfl (pm_ok_nl (Nat.le_of_ble_eq_true rfl) rfl h0) _).trans ?_
  exact rfl
theorem B66_2 {v0 : pO} {x1 : Int32} {v2 : pO} {v3 : pO} {hp : pH} : dn pg 66 2 [v0, some (.int x1), v2, v3] [] hp = if (nI 8) ≤ x1 then q_v hp else dn pg 66 9 [v0, some (.int x1), some (.int (nI 0)), some (.int (nI 0))] [] hp := by
  refine (dc_iload (a := 1) (i := 2) rfl rfl).trans ?_
  refine (dc_ic (x := 8) (i := 3) rfl).trans ?_
  refine (dn_icmp (c := (fun x y => decide (y ≤ x))) (t := 45) (i := 4) rfl _ _).trans (q_ite ?_ ?_)
  · exact dc_return (i := 45) rfl
  · refine (dc_ic (x := 0) (i := 5) rfl).trans ?_
    refine (dn_istore (a := 2) (i := 6) rfl rfl _).trans ?_
    refine (dc_ic (x := 0) (i := 7) rfl).trans ?_
    refine (dn_istore (a := 3) (i := 8) rfl rfl _).trans ?_
    exact rfl
theorem B66_9 {o0 : Nat} {x1 : Int32} {x2 : Int32} {x3 : Int32} {hp : pH} : dn pg 66 9 [some (.ref o0), some (.int x1), some (.int x2), some (.int x3)] [] hp = if (nI 8) ≤ x3 then qg_a hp o0 7 4 (fun r1 => qg_a hp o0 7 3 (fun r2 => qa_i hp r2 0 x1 (fun y3 => qx_i hp r1 0 x1 (x2 &&& (y3 ^^^ (-1))) (fun hp1 => dn pg 66 2 [some (.ref o0), some (.int (x1 + nI 1)), some (.int x2), some (.int x3)] [] hp1)))) else qg_a hp o0 7 0 (fun r4 => qa_i hp r4 0 x1 (fun y5 => qg_a hp o0 7 0 (fun r6 => qa_i hp r6 0 x3 (fun y7 => if y5 = y7 then dn pg 66 27 [some (.ref o0), some (.int x1), some (.int x2), some (.int x3)] [.int (nI 0), .int x2] hp else dn pg 66 27 [some (.ref o0), some (.int x1), some (.int x2), some (.int x3)] [.int ((nI 1) <<< (x3 &&& nI 31)), .int x2] hp)))) := by
  refine (dc_iload (a := 3) (i := 9) rfl rfl).trans ?_
  refine (dc_ic (x := 8) (i := 10) rfl).trans ?_
  refine (dn_icmp (c := (fun x y => decide (y ≤ x))) (t := 31) (i := 11) rfl _ _).trans (q_ite ?_ ?_)
  · refine (dc_aload (a := 0) (i := 31) rfl rfl).trans ?_
    refine (dn_getA (ci := 7) (j := 4) (i := 32) rfl _).trans (congrArg (qg_a _ _ _ _) (funext fun r1 => ?_))
    refine (dc_iload (a := 1) (i := 33) rfl rfl).trans ?_
    refine (dc_iload (a := 2) (i := 34) rfl rfl).trans ?_
    refine (dc_aload (a := 0) (i := 35) rfl rfl).trans ?_
    refine (dn_getA (ci := 7) (j := 3) (i := 36) rfl _).trans (congrArg (qg_a _ _ _ _) (funext fun r2 => ?_))
    refine (dc_iload (a := 1) (i := 37) rfl rfl).trans ?_
    refine (dn_iald (t := 0) (i := 38) rfl _ _).trans (congrArg (qa_i _ _ _ _) (funext fun y3 => ?_))
    refine (dc_ic (x := (-1)) (i := 39) rfl).trans ?_
    refine (dc_bin (f := (fun x y => x ^^^ y)) (i := 40) rfl _ _).trans ?_
    refine (dc_bin (f := (fun x y => x &&& y)) (i := 41) rfl _ _).trans ?_
    refine (dn_iast (i := 42) rfl _ _ _).trans (congrArg (qx_i _ _ _ _ _) (funext fun hp1 => ?_))
    refine (dn_iinc (a := 1) (d := 1) (i := 43) rfl rfl rfl).trans ?_
    refine (dc_goto (t := 2) (i := 44) rfl).trans ?_
    exact rfl
  · refine (dc_iload (a := 2) (i := 12) rfl rfl).trans ?_
    refine (dc_aload (a := 0) (i := 13) rfl rfl).trans ?_
    refine (dn_getA (ci := 7) (j := 0) (i := 14) rfl _).trans (congrArg (qg_a _ _ _ _) (funext fun r4 => ?_))
    refine (dc_iload (a := 1) (i := 15) rfl rfl).trans ?_
    refine (dn_iald (t := 0) (i := 16) rfl _ _).trans (congrArg (qa_i _ _ _ _) (funext fun y5 => ?_))
    refine (dc_aload (a := 0) (i := 17) rfl rfl).trans ?_
    refine (dn_getA (ci := 7) (j := 0) (i := 18) rfl _).trans (congrArg (qg_a _ _ _ _) (funext fun r6 => ?_))
    refine (dc_iload (a := 3) (i := 19) rfl rfl).trans ?_
    refine (dn_iald (t := 0) (i := 20) rfl _ _).trans (congrArg (qa_i _ _ _ _) (funext fun y7 => ?_))
    refine (dn_icmp (c := (fun x y => decide (x = y))) (t := 26) (i := 21) rfl _ _).trans (q_ite ?_ ?_)
    · refine (dc_ic (x := 0) (i := 26) rfl).trans ?_
      exact rfl
    · refine (dc_ic (x := 1) (i := 22) rfl).trans ?_
      refine (dc_iload (a := 3) (i := 23) rfl rfl).trans ?_
      refine (dc_bin (f := (fun x y => x <<< (y &&& 31))) (i := 24) rfl _ _).trans ?_
      refine (dc_goto (t := 27) (i := 25) rfl).trans ?_
      exact rfl
theorem B66_27 {v0 : pO} {v1 : pO} {v2 : pO} {x3 : Int32} {s0 : Int32} {s1 : Int32} {hp : pH} (h1 : pm_nl v1 = true) : dn pg 66 27 [v0, v1, v2, some (.int x3)] [.int s0, .int s1] hp = dn pg 66 9 [v0, v1, some (.int (s1 ||| s0)), some (.int (x3 + nI 1))] [] hp := by
  refine (dc_bin (f := (fun x y => x ||| y)) (i := 27) rfl _ _).trans ?_
  refine (dn_istore (a := 2) (i := 28) rfl (pm_ok_nl (Nat.le_of_ble_eq_true rfl) rfl h1) _).trans ?_
  refine (dn_iinc (a := 3) (d := 1) (i := 29) rfl rfl rfl).trans ?_
  refine (dc_goto (t := 9) (i := 30) rfl).trans ?_
  exact rfl
theorem B67_0 {v0 : pO} {v1 : pO} {v2 : pO} {v3 : pO} {v4 : pO} {hp : pH} (h1 : pm_nl v1 = true) : dn pg 67 0 [v0, v1, v2, v3, v4] [] hp = dn pg 67 4 [v0, v1, some (.int (nI 0)), some (.int (nI 0)), v4] [] hp := by
  refine (dc_ic (x := 0) (i := 0) rfl).trans ?_
  refine (dn_istore (a := 2) (i := 1) rfl (pm_ok_nl (Nat.le_of_ble_eq_true rfl) rfl h1) _).trans ?_
  refine (dc_ic (x := 0) (i := 2) rfl).trans ?_
  refine (dn_istore (a := 3) (i := 3) rfl rfl _).trans ?_
  exact rfl
theorem B67_4 {v0 : pO} {x1 : Int32} {x2 : Int32} {x3 : Int32} {v4 : pO} {hp : pH} : dn pg 67 4 [v0, some (.int x1), some (.int x2), some (.int x3), v4] [] hp = if (nI 8) ≤ x3 then q_i (x2 / (nI 2)) hp else qr_i (cl pg 45 [.int x1, .int x3] hp) (fun y1 hp1 => if y1 = nI 0 then dn pg 67 18 [v0, some (.int x1), some (.int x2), some (.int x3), v4] [.int ((nI 255) &&& (x1 ^^^ (-1)))] hp1 else dn pg 67 18 [v0, some (.int x1), some (.int x2), some (.int x3), v4] [.int x1] hp1) := by
  refine (dc_iload (a := 3) (i := 4) rfl rfl).trans ?_
  refine (dc_ic (x := 8) (i := 5) rfl).trans ?_
  refine (dn_icmp (c := (fun x y => decide (y ≤ x))) (t := 41) (i := 6) rfl _ _).trans (q_ite ?_ ?_)
  · refine (dc_iload (a := 2) (i := 41) rfl rfl).trans ?_
    refine (dc_ic (x := 2) (i := 42) rfl).trans ?_
    refine ((dn_div (f := (fun x y => x / y)) (i := 43) rfl _ _).trans (if_neg (by decide))).trans ?_
    exact dc_ireturn (i := 44) rfl _
  · refine (dc_iload (a := 1) (i := 7) rfl rfl).trans ?_
    refine (dc_iload (a := 3) (i := 8) rfl rfl).trans ?_
    refine (dn_cS_i (i := 9) (y := 45) (na := 2) rfl (pa_2 _ _ _) (Nat.le_of_ble_eq_true rfl) (Nat.le_of_ble_eq_true rfl)).trans (congrArg (qr_i _) (funext fun y1 => funext fun hp1 => ?_))
    refine (dn_if (c := (fun x => decide (x = 0))) (t := 13) (i := 10) rfl _).trans (q_ite ?_ ?_)
    · refine (dc_ic (x := 255) (i := 13) rfl).trans ?_
      refine (dc_iload (a := 1) (i := 14) rfl rfl).trans ?_
      refine (dc_ic (x := (-1)) (i := 15) rfl).trans ?_
      refine (dc_bin (f := (fun x y => x ^^^ y)) (i := 16) rfl _ _).trans ?_
      refine (dc_bin (f := (fun x y => x &&& y)) (i := 17) rfl _ _).trans ?_
      exact rfl
    · refine (dc_iload (a := 1) (i := 11) rfl rfl).trans ?_
      refine (dc_goto (t := 18) (i := 12) rfl).trans ?_
      exact rfl
theorem B67_18 {o0 : Nat} {v1 : pO} {x2 : Int32} {x3 : Int32} {v4 : pO} {s0 : Int32} {hp : pH} (h1 : pm_nl v1 = true) : dn pg 67 18 [some (.ref o0), v1, some (.int x2), some (.int x3), v4] [.int s0] hp = qg_a hp o0 7 3 (fun r1 => qa_i hp r1 0 x3 (fun y2 => qr_i (cl pg 18 [.int (y2 &&& (s0 ^^^ (-1)))] hp) (fun y3 hp1 => qg_a hp1 o0 7 4 (fun r4 => qa_i hp1 r4 0 x3 (fun y5 => qr_i (cl pg 18 [.int (y5 &&& s0)] hp1) (fun y6 hp2 => dn pg 67 4 [some (.ref o0), v1, some (.int (x2 + (y3 + y6))), some (.int (x3 + nI 1)), some (.int s0)] [] hp2)))))) := by
  refine (dn_istore (a := 4) (i := 18) rfl rfl _).trans ?_
  refine (dc_iload (a := 2) (i := 19) rfl rfl).trans ?_
  refine (dc_aload (a := 0) (i := 20) rfl rfl).trans ?_
  refine (dn_getA (ci := 7) (j := 3) (i := 21) rfl _).trans (congrArg (qg_a _ _ _ _) (funext fun r1 => ?_))
  refine (dc_iload (a := 3) (i := 22) rfl rfl).trans ?_
  refine (dn_iald (t := 0) (i := 23) rfl _ _).trans (congrArg (qa_i _ _ _ _) (funext fun y2 => ?_))
  refine (dc_iload (a := 4) (i := 24) rfl rfl).trans ?_
  refine (dc_ic (x := (-1)) (i := 25) rfl).trans ?_
  refine (dc_bin (f := (fun x y => x ^^^ y)) (i := 26) rfl _ _).trans ?_
  refine (dc_bin (f := (fun x y => x &&& y)) (i := 27) rfl _ _).trans ?_
  refine (dn_cS_i (i := 28) (y := 18) (na := 1) rfl (pa_1 _ _) (Nat.le_of_ble_eq_true rfl) (Nat.le_of_ble_eq_true rfl)).trans (congrArg (qr_i _) (funext fun y3 => funext fun hp1 => ?_))
  refine (dc_aload (a := 0) (i := 29) rfl rfl).trans ?_
  refine (dn_getA (ci := 7) (j := 4) (i := 30) rfl _).trans (congrArg (qg_a _ _ _ _) (funext fun r4 => ?_))
  refine (dc_iload (a := 3) (i := 31) rfl rfl).trans ?_
  refine (dn_iald (t := 0) (i := 32) rfl _ _).trans (congrArg (qa_i _ _ _ _) (funext fun y5 => ?_))
  refine (dc_iload (a := 4) (i := 33) rfl rfl).trans ?_
  refine (dc_bin (f := (fun x y => x &&& y)) (i := 34) rfl _ _).trans ?_
  refine (dn_cS_i (i := 35) (y := 18) (na := 1) rfl (pa_1 _ _) (Nat.le_of_ble_eq_true rfl) (Nat.le_of_ble_eq_true rfl)).trans (congrArg (qr_i _) (funext fun y6 => funext fun hp2 => ?_))
  refine (dc_bin (f := (fun x y => x + y)) (i := 36) rfl _ _).trans ?_
  refine (dc_bin (f := (fun x y => x + y)) (i := 37) rfl _ _).trans ?_
  refine (dn_istore (a := 2) (i := 38) rfl (pm_ok_nl (Nat.le_of_ble_eq_true rfl) rfl h1) _).trans ?_
  refine (dn_iinc (a := 3) (d := 1) (i := 39) rfl rfl rfl).trans ?_
  refine (dc_goto (t := 4) (i := 40) rfl).trans ?_
  exact rfl
theorem B68_0 {o0 : Nat} {x1 : Int32} {v2 : pO} {hp : pH} : dn pg 68 0 [some (.ref o0), some (.int x1), v2] [] hp = qr_i (cl pg 11 [.int x1, .int (nI 0), .int (nI 1)] hp) (fun y1 hp1 => if ¬ y1 = nI 0 then qg_a hp1 o0 8 0 (fun r2 => qg_a hp1 r2 6 1 (fun r3 => qv hp1 r3 0 (qr_i (cl pg 69 [.ref r3] hp1) (fun y4 hp2 => if ¬ x1 = nI 0 then dn pg 68 20 [some (.ref o0), some (.int x1), some (.int y4)] [.int y4] hp2 else qr_i (cl pg 18 [.int y4] hp2) (fun y5 hp3 => dn pg 68 20 [some (.ref o0), some (.int x1), some (.int y4)] [.int ((nI 6) - y5)] hp3))))) else q_i (-2) hp1) := by
  refine (dc_iload (a := 1) (i := 0) rfl rfl).trans ?_
  refine (dc_ic (x := 0) (i := 1) rfl).trans ?_
  refine (dc_ic (x := 1) (i := 2) rfl).trans ?_
  refine (dn_cS_i (i := 3) (y := 11) (na := 3) rfl (pa_3 _ _ _ _) (Nat.le_of_ble_eq_true rfl) (Nat.le_of_ble_eq_true rfl)).trans (congrArg (qr_i _) (funext fun y1 => funext fun hp1 => ?_))
  refine (dn_if (c := (fun x => decide (¬ x = 0))) (t := 7) (i := 4) rfl _).trans (q_ite ?_ ?_)
  · refine (dc_aload (a := 0) (i := 7) rfl rfl).trans ?_
    refine (dn_getA (ci := 8) (j := 0) (i := 8) rfl _).trans (congrArg (qg_a _ _ _ _) (funext fun r2 => ?_))
    refine (dn_getA (ci := 6) (j := 1) (i := 9) rfl _).trans (congrArg (qg_a _ _ _ _) (funext fun r3 => ?_))
    refine (dn_cV_i (i := 10) (y := 69) (na := 1) (ci := 0) rfl (pa_1 _ _) (Nat.le_of_ble_eq_true rfl) (Nat.le_of_ble_eq_true rfl)).trans (congrArg (fun F => qv _ _ _ (qr_i _ F)) (funext fun y4 => funext fun hp2 => ?_))
    refine (dn_istore (a := 2) (i := 11) rfl rfl _).trans ?_
    refine (dc_iload (a := 1) (i := 12) rfl rfl).trans ?_
    refine (dn_if (c := (fun x => decide (¬ x = 0))) (t := 19) (i := 13) rfl _).trans (q_ite ?_ ?_)
    · refine (dc_iload (a := 2) (i := 19) rfl rfl).trans ?_
      exact rfl
    · refine (dc_ic (x := 6) (i := 14) rfl).trans ?_
      refine (dc_iload (a := 2) (i := 15) rfl rfl).trans ?_
      refine (dn_cS_i (i := 16) (y := 18) (na := 1) rfl (pa_1 _ _) (Nat.le_of_ble_eq_true rfl) (Nat.le_of_ble_eq_true rfl)).trans (congrArg (qr_i _) (funext fun y5 => funext fun hp3 => ?_))
      refine (dc_bin (f := (fun x y => x - y)) (i := 17) rfl _ _).trans ?_
      refine (dc_goto (t := 20) (i := 18) rfl).trans ?_
      exact rfl
  · refine (dc_ic (x := (-2)) (i := 5) rfl).trans ?_
    exact dc_ireturn (i := 6) rfl _
theorem B68_20 {v0 : pO} {v1 : pO} {v2 : pO} {s0 : Int32} {hp : pH} : dn pg 68 20 [v0, v1, v2] [.int s0] hp = q_i s0 hp := by
  exact dc_ireturn (i := 20) rfl _
theorem B69_0 {v0 : pO} {v1 : pO} {v2 : pO} {hp : pH} (h0 : pm_nl v0 = true) : dn pg 69 0 [v0, v1, v2] [] hp = dn pg 69 4 [v0, some (.int (nI 0)), some (.int (nI 1))] [] hp := by
  refine (dc_ic (x := 0) (i := 0) rfl).trans ?_
  refine (dn_istore (a := 1) (i := 1) rfl (pm_ok_nl (Nat.le_of_ble_eq_true rfl) rfl h0) _).trans ?_
  refine (dc_ic (x := 1) (i := 2) rfl).trans ?_
  refine (dn_istore (a := 2) (i := 3) rfl rfl _).trans ?_
  exact rfl
theorem B69_4 {o0 : Nat} {x1 : Int32} {x2 : Int32} {hp : pH} : dn pg 69 4 [some (.ref o0), some (.int x1), some (.int x2)] [] hp = if (nI 64) ≤ x2 then q_i x1 hp else qr_i (cl pg 18 [.int x2] hp) (fun y1 hp1 => qr_i (cl pg 18 [.int x1] hp1) (fun y2 hp2 => if y1 ≤ y2 then dn pg 69 18 [some (.ref o0), some (.int x1), some (.int x2)] [] hp2 else qv hp2 o0 0 (qr_i (cl pg 70 [.ref o0, .int x2] hp2) (fun y3 hp3 => if y3 = nI 0 then dn pg 69 18 [some (.ref o0), some (.int x1), some (.int x2)] [] hp3 else dn pg 69 18 [some (.ref o0), some (.int x2), some (.int x2)] [] hp3)))) := by
  refine (dc_iload (a := 2) (i := 4) rfl rfl).trans ?_
  refine (dc_ic (x := 64) (i := 5) rfl).trans ?_
  refine (dn_icmp (c := (fun x y => decide (y ≤ x))) (t := 20) (i := 6) rfl _ _).trans (q_ite ?_ ?_)
  · refine (dc_iload (a := 1) (i := 20) rfl rfl).trans ?_
    exact dc_ireturn (i := 21) rfl _
  · refine (dc_iload (a := 2) (i := 7) rfl rfl).trans ?_
    refine (dn_cS_i (i := 8) (y := 18) (na := 1) rfl (pa_1 _ _) (Nat.le_of_ble_eq_true rfl) (Nat.le_of_ble_eq_true rfl)).trans (congrArg (qr_i _) (funext fun y1 => funext fun hp1 => ?_))
    refine (dc_iload (a := 1) (i := 9) rfl rfl).trans ?_
    refine (dn_cS_i (i := 10) (y := 18) (na := 1) rfl (pa_1 _ _) (Nat.le_of_ble_eq_true rfl) (Nat.le_of_ble_eq_true rfl)).trans (congrArg (qr_i _) (funext fun y2 => funext fun hp2 => ?_))
    refine (dn_icmp (c := (fun x y => decide (x ≤ y))) (t := 18) (i := 11) rfl _ _).trans (q_ite ?_ ?_)
    · exact rfl
    · refine (dc_aload (a := 0) (i := 12) rfl rfl).trans ?_
      refine (dc_iload (a := 2) (i := 13) rfl rfl).trans ?_
      refine (dn_cV_i (i := 14) (y := 70) (na := 2) (ci := 0) rfl (pa_2 _ _ _) (Nat.le_of_ble_eq_true rfl) (Nat.le_of_ble_eq_true rfl)).trans (congrArg (fun F => qv _ _ _ (qr_i _ F)) (funext fun y3 => funext fun hp3 => ?_))
      refine (dn_if (c := (fun x => decide (x = 0))) (t := 18) (i := 15) rfl _).trans (q_ite ?_ ?_)
      · exact rfl
      · refine (dc_iload (a := 2) (i := 16) rfl rfl).trans ?_
        refine (dn_istore (a := 1) (i := 17) rfl rfl _).trans ?_
        exact rfl
theorem B69_18 {v0 : pO} {v1 : pO} {x2 : Int32} {hp : pH} (h1 : pm_nl v1 = true) : dn pg 69 18 [v0, v1, some (.int x2)] [] hp = dn pg 69 4 [v0, v1, some (.int (x2 + nI 1))] [] hp := by
  refine (dn_iinc (a := 2) (d := 1) (i := 18) rfl (pm_ok_nl (Nat.le_of_ble_eq_true rfl) rfl h1) rfl).trans ?_
  refine (dc_goto (t := 4) (i := 19) rfl).trans ?_
  exact rfl
