/-! Stretches of the code as equations; printed by wip/whole/gen_dn.py. -/
theorem B98_0 {o0 : Nat} {x1 : Int32} {v2 : pO} {hp : pH} : dn pg 98 0 [some (.ref o0), some (.int x1), v2] [] hp = qr_i (cl pg 11 [.int x1, .int (nI 0), .int (nI 1)] hp) (fun y1 hp1 => if ¬ y1 = nI 0 then if ¬ x1 = nI 0 then qg_a hp1 o0 8 2 (fun r2 => dn pg 98 14 [some (.ref o0), some (.int x1), v2] [.ref r2] hp1) else qg_a hp1 o0 8 1 (fun r3 => dn pg 98 14 [some (.ref o0), some (.int x1), v2] [.ref r3] hp1) else q_i (-2) hp1) := by
  refine (dc_iload (a := 1) (i := 0) rfl rfl).trans ?_
  refine (dc_ic (x := 0) (i := 1) rfl).trans ?_
  refine (dc_ic (x := 1) (i := 2) rfl).trans ?_
  refine (dn_cS_i (i := 3) (y := 11) (na := 3) rfl (pa_3 _ _ _ _) (Nat.le_of_ble_eq_true rfl) (Nat.le_of_ble_eq_true rfl)).trans (congrArg (qr_i _) (funext fun y1 => funext fun hp1 => ?_))
  refine (dn_if (c := (fun x => decide (¬ x = 0))) (t := 7) (i := 4) rfl _).trans (q_ite ?_ ?_)
  · refine (dc_iload (a := 1) (i := 7) rfl rfl).trans ?_
    refine (dn_if (c := (fun x => decide (¬ x = 0))) (t := 12) (i := 8) rfl _).trans (q_ite ?_ ?_)
    · refine (dc_aload (a := 0) (i := 12) rfl rfl).trans ?_
      refine (dn_getA (ci := 8) (j := 2) (i := 13) rfl _).trans (congrArg (qg_a _ _ _ _) (funext fun r2 => ?_))
      exact rfl
    · refine (dc_aload (a := 0) (i := 9) rfl rfl).trans ?_
      refine (dn_getA (ci := 8) (j := 1) (i := 10) rfl _).trans (congrArg (qg_a _ _ _ _) (funext fun r3 => ?_))
      refine (dc_goto (t := 14) (i := 11) rfl).trans ?_
      exact rfl
  · refine (dc_ic (x := (-2)) (i := 5) rfl).trans ?_
    exact dc_ireturn (i := 6) rfl _
theorem B98_14 {o0 : Nat} {v1 : pO} {v2 : pO} {s0 : Nat} {hp : pH} (h1 : pm_nl v1 = true) : dn pg 98 14 [some (.ref o0), v1, v2] [.ref s0] hp = qg_a hp o0 8 0 (fun r1 => qv hp s0 6 (qr_v (cl pg 99 [.ref s0, .ref r1] hp) (fun hp1 => qz (nI 1) (qp_v hp1 s0 6 3 (.int (nI 1)) (fun hp2 => q_i (nI 1) hp2))))) := by
  refine (dn_astore (a := 2) (i := 14) rfl (pm_ok_nl (Nat.le_of_ble_eq_true rfl) rfl h1) _).trans ?_
  refine (dc_aload (a := 2) (i := 15) rfl rfl).trans ?_
  refine (dc_aload (a := 0) (i := 16) rfl rfl).trans ?_
  refine (dn_getA (ci := 8) (j := 0) (i := 17) rfl _).trans (congrArg (qg_a _ _ _ _) (funext fun r1 => ?_))
  refine (dn_cV_v (i := 18) (y := 99) (na := 2) (ci := 6) rfl (pa_2 _ _ _) (Nat.le_of_ble_eq_true rfl) (Nat.le_of_ble_eq_true rfl)).trans (congrArg (fun F => qv _ _ _ (qr_v _ F)) (funext fun hp1 => ?_))
  refine (dc_aload (a := 2) (i := 19) rfl rfl).trans ?_
  refine (dc_ic (x := 1) (i := 20) rfl).trans ?_
  refine (dn_putZ (ci := 6) (j := 3) (i := 21) rfl _ _).trans (congrArg (fun F => qz _ (qp_v _ _ _ _ _ F)) (funext fun hp2 => ?_))
  refine (dc_ic (x := 1) (i := 22) rfl).trans ?_
  exact dc_ireturn (i := 23) rfl _
theorem B99_0 {o0 : Nat} {o1 : Nat} {hp : pH} : dn pg 99 0 [some (.ref o0), some (.ref o1)] [] hp = qg_a hp o0 6 0 (fun r1 => qg_a hp o1 6 0 (fun r2 => qv hp r1 7 (qr_v (cl pg 39 [.ref r1, .ref r2] hp) (fun hp1 => qg_a hp1 o0 6 1 (fun r3 => qg_a hp1 o1 6 1 (fun r4 => qv hp1 r3 0 (qr_v (cl pg 100 [.ref r3, .ref r4] hp1) (fun hp2 => qg_a hp2 o0 6 2 (fun r5 => qg_a hp2 o1 6 2 (fun r6 => qv hp2 r5 4 (qr_v (cl pg 101 [.ref r5, .ref r6] hp2) (fun hp3 => q_v hp3)))))))))))) := by
  refine (dc_aload (a := 0) (i := 0) rfl rfl).trans ?_
  refine (dn_getA (ci := 6) (j := 0) (i := 1) rfl _).trans (congrArg (qg_a _ _ _ _) (funext fun r1 => ?_))
  refine (dc_aload (a := 1) (i := 2) rfl rfl).trans ?_
  refine (dn_getA (ci := 6) (j := 0) (i := 3) rfl _).trans (congrArg (qg_a _ _ _ _) (funext fun r2 => ?_))
  refine (dn_cV_v (i := 4) (y := 39) (na := 2) (ci := 7) rfl (pa_2 _ _ _) (Nat.le_of_ble_eq_true rfl) (Nat.le_of_ble_eq_true rfl)).trans (congrArg (fun F => qv _ _ _ (qr_v _ F)) (funext fun hp1 => ?_))
  refine (dc_aload (a := 0) (i := 5) rfl rfl).trans ?_
  refine (dn_getA (ci := 6) (j := 1) (i := 6) rfl _).trans (congrArg (qg_a _ _ _ _) (funext fun r3 => ?_))
  refine (dc_aload (a := 1) (i := 7) rfl rfl).trans ?_
  refine (dn_getA (ci := 6) (j := 1) (i := 8) rfl _).trans (congrArg (qg_a _ _ _ _) (funext fun r4 => ?_))
  refine (dn_cV_v (i := 9) (y := 100) (na := 2) (ci := 0) rfl (pa_2 _ _ _) (Nat.le_of_ble_eq_true rfl) (Nat.le_of_ble_eq_true rfl)).trans (congrArg (fun F => qv _ _ _ (qr_v _ F)) (funext fun hp2 => ?_))
  refine (dc_aload (a := 0) (i := 10) rfl rfl).trans ?_
  refine (dn_getA (ci := 6) (j := 2) (i := 11) rfl _).trans (congrArg (qg_a _ _ _ _) (funext fun r5 => ?_))
  refine (dc_aload (a := 1) (i := 12) rfl rfl).trans ?_
  refine (dn_getA (ci := 6) (j := 2) (i := 13) rfl _).trans (congrArg (qg_a _ _ _ _) (funext fun r6 => ?_))
  refine (dn_cV_v (i := 14) (y := 101) (na := 2) (ci := 4) rfl (pa_2 _ _ _) (Nat.le_of_ble_eq_true rfl) (Nat.le_of_ble_eq_true rfl)).trans (congrArg (fun F => qv _ _ _ (qr_v _ F)) (funext fun hp3 => ?_))
  exact dc_return (i := 15) rfl
theorem B100_0 {v0 : pO} {v1 : pO} {v2 : pO} {hp : pH} (h1 : pm_nl v1 = true) : dn pg 100 0 [v0, v1, v2] [] hp = dn pg 100 2 [v0, v1, some (.int (nI 0))] [] hp := by
  refine (dc_ic (x := 0) (i := 0) rfl).trans ?_
  refine (dn_istore (a := 2) (i := 1) rfl (pm_ok_nl (Nat.le_of_ble_eq_true rfl) rfl h1) _).trans ?_
  exact rfl
theorem B100_2 {o0 : Nat} {o1 : Nat} {x2 : Int32} {hp : pH} : dn pg 100 2 [some (.ref o0), some (.ref o1), some (.int x2)] [] hp = if (nI 6) ≤ x2 then q_v hp else qg_a hp o0 0 0 (fun r1 => qg_a hp o1 0 0 (fun r2 => qa_i hp r2 0 x2 (fun y3 => qx_i hp r1 0 x2 y3 (fun hp1 => qg_a hp1 o0 0 1 (fun r4 => qg_a hp1 o1 0 1 (fun r5 => qa_i hp1 r5 0 x2 (fun y6 => qx_i hp1 r4 0 x2 y6 (fun hp2 => dn pg 100 2 [some (.ref o0), some (.ref o1), some (.int (x2 + nI 1))] [] hp2)))))))) := by
  refine (dc_iload (a := 2) (i := 2) rfl rfl).trans ?_
  refine (dc_ic (x := 6) (i := 3) rfl).trans ?_
  refine (dn_icmp (c := (fun x y => decide (y ≤ x))) (t := 23) (i := 4) rfl _ _).trans (q_ite ?_ ?_)
  · exact dc_return (i := 23) rfl
  · refine (dc_aload (a := 0) (i := 5) rfl rfl).trans ?_
    refine (dn_getA (ci := 0) (j := 0) (i := 6) rfl _).trans (congrArg (qg_a _ _ _ _) (funext fun r1 => ?_))
    refine (dc_iload (a := 2) (i := 7) rfl rfl).trans ?_
    refine (dc_aload (a := 1) (i := 8) rfl rfl).trans ?_
    refine (dn_getA (ci := 0) (j := 0) (i := 9) rfl _).trans (congrArg (qg_a _ _ _ _) (funext fun r2 => ?_))
    refine (dc_iload (a := 2) (i := 10) rfl rfl).trans ?_
    refine (dn_iald (t := 0) (i := 11) rfl _ _).trans (congrArg (qa_i _ _ _ _) (funext fun y3 => ?_))
    refine (dn_iast (i := 12) rfl _ _ _).trans (congrArg (qx_i _ _ _ _ _) (funext fun hp1 => ?_))
    refine (dc_aload (a := 0) (i := 13) rfl rfl).trans ?_
    refine (dn_getA (ci := 0) (j := 1) (i := 14) rfl _).trans (congrArg (qg_a _ _ _ _) (funext fun r4 => ?_))
    refine (dc_iload (a := 2) (i := 15) rfl rfl).trans ?_
    refine (dc_aload (a := 1) (i := 16) rfl rfl).trans ?_
    refine (dn_getA (ci := 0) (j := 1) (i := 17) rfl _).trans (congrArg (qg_a _ _ _ _) (funext fun r5 => ?_))
    refine (dc_iload (a := 2) (i := 18) rfl rfl).trans ?_
    refine (dn_iald (t := 0) (i := 19) rfl _ _).trans (congrArg (qa_i _ _ _ _) (funext fun y6 => ?_))
    refine (dn_iast (i := 20) rfl _ _ _).trans (congrArg (qx_i _ _ _ _ _) (funext fun hp2 => ?_))
    refine (dn_iinc (a := 2) (d := 1) (i := 21) rfl rfl rfl).trans ?_
    refine (dc_goto (t := 2) (i := 22) rfl).trans ?_
    exact rfl
theorem B101_0 {v0 : pO} {v1 : pO} {v2 : pO} {hp : pH} (h1 : pm_nl v1 = true) : dn pg 101 0 [v0, v1, v2] [] hp = dn pg 101 2 [v0, v1, some (.int (nI 0))] [] hp := by
  refine (dc_ic (x := 0) (i := 0) rfl).trans ?_
  refine (dn_istore (a := 2) (i := 1) rfl (pm_ok_nl (Nat.le_of_ble_eq_true rfl) rfl h1) _).trans ?_
  exact rfl
theorem B101_2 {o0 : Nat} {o1 : Nat} {x2 : Int32} {hp : pH} : dn pg 101 2 [some (.ref o0), some (.ref o1), some (.int x2)] [] hp = if (nI 8) ≤ x2 then qg_i hp o1 4 1 (fun y1 => qp_v hp o0 4 1 (.int y1) (fun hp1 => qg_i hp1 o1 4 2 (fun y2 => qp_v hp1 o0 4 2 (.int y2) (fun hp2 => q_v hp2)))) else qg_a hp o0 4 0 (fun r3 => qg_a hp o1 4 0 (fun r4 => qa_i hp r4 0 x2 (fun y5 => qx_i hp r3 0 x2 y5 (fun hp3 => dn pg 101 2 [some (.ref o0), some (.ref o1), some (.int (x2 + nI 1))] [] hp3)))) := by
  refine (dc_iload (a := 2) (i := 2) rfl rfl).trans ?_
  refine (dc_ic (x := 8) (i := 3) rfl).trans ?_
  refine (dn_icmp (c := (fun x y => decide (y ≤ x))) (t := 15) (i := 4) rfl _ _).trans (q_ite ?_ ?_)
  · refine (dc_aload (a := 0) (i := 15) rfl rfl).trans ?_
    refine (dc_aload (a := 1) (i := 16) rfl rfl).trans ?_
    refine (dn_getI (ci := 4) (j := 1) (i := 17) rfl _).trans (congrArg (qg_i _ _ _ _) (funext fun y1 => ?_))
    refine (dn_putI (ci := 4) (j := 1) (i := 18) rfl _ _).trans (congrArg (qp_v _ _ _ _ _) (funext fun hp1 => ?_))
    refine (dc_aload (a := 0) (i := 19) rfl rfl).trans ?_
    refine (dc_aload (a := 1) (i := 20) rfl rfl).trans ?_
    refine (dn_getI (ci := 4) (j := 2) (i := 21) rfl _).trans (congrArg (qg_i _ _ _ _) (funext fun y2 => ?_))
    refine (dn_putI (ci := 4) (j := 2) (i := 22) rfl _ _).trans (congrArg (qp_v _ _ _ _ _) (funext fun hp2 => ?_))
    exact dc_return (i := 23) rfl
  · refine (dc_aload (a := 0) (i := 5) rfl rfl).trans ?_
    refine (dn_getA (ci := 4) (j := 0) (i := 6) rfl _).trans (congrArg (qg_a _ _ _ _) (funext fun r3 => ?_))
    refine (dc_iload (a := 2) (i := 7) rfl rfl).trans ?_
    refine (dc_aload (a := 1) (i := 8) rfl rfl).trans ?_
    refine (dn_getA (ci := 4) (j := 0) (i := 9) rfl _).trans (congrArg (qg_a _ _ _ _) (funext fun r4 => ?_))
    refine (dc_iload (a := 2) (i := 10) rfl rfl).trans ?_
    refine (dn_iald (t := 0) (i := 11) rfl _ _).trans (congrArg (qa_i _ _ _ _) (funext fun y5 => ?_))
    refine (dn_iast (i := 12) rfl _ _ _).trans (congrArg (qx_i _ _ _ _ _) (funext fun hp3 => ?_))
    refine (dn_iinc (a := 2) (d := 1) (i := 13) rfl rfl rfl).trans ?_
    refine (dc_goto (t := 2) (i := 14) rfl).trans ?_
    exact rfl
theorem B102_0 {o0 : Nat} {x1 : Int32} {v2 : pO} {hp : pH} : dn pg 102 0 [some (.ref o0), some (.int x1), v2] [] hp = qr_i (cl pg 11 [.int x1, .int (nI 0), .int (nI 1)] hp) (fun y1 hp1 => if ¬ y1 = nI 0 then if ¬ x1 = nI 0 then qg_a hp1 o0 8 2 (fun r2 => dn pg 102 14 [some (.ref o0), some (.int x1), v2] [.ref r2] hp1) else qg_a hp1 o0 8 1 (fun r3 => dn pg 102 14 [some (.ref o0), some (.int x1), v2] [.ref r3] hp1) else q_i (-2) hp1) := by
  refine (dc_iload (a := 1) (i := 0) rfl rfl).trans ?_
  refine (dc_ic (x := 0) (i := 1) rfl).trans ?_
  refine (dc_ic (x := 1) (i := 2) rfl).trans ?_
  refine (dn_cS_i (i := 3) (y := 11) (na := 3) rfl (pa_3 _ _ _ _) (Nat.le_of_ble_eq_true rfl) (Nat.le_of_ble_eq_true rfl)).trans (congrArg (qr_i _) (funext fun y1 => funext fun hp1 => ?_))
  refine (dn_if (c := (fun x => decide (¬ x = 0))) (t := 7) (i := 4) rfl _).trans (q_ite ?_ ?_)
  · refine (dc_iload (a := 1) (i := 7) rfl rfl).trans ?_
    refine (dn_if (c := (fun x => decide (¬ x = 0))) (t := 12) (i := 8) rfl _).trans (q_ite ?_ ?_)
    · refine (dc_aload (a := 0) (i := 12) rfl rfl).trans ?_
      refine (dn_getA (ci := 8) (j := 2) (i := 13) rfl _).trans (congrArg (qg_a _ _ _ _) (funext fun r2 => ?_))
      exact rfl
    · refine (dc_aload (a := 0) (i := 9) rfl rfl).trans ?_
      refine (dn_getA (ci := 8) (j := 1) (i := 10) rfl _).trans (congrArg (qg_a _ _ _ _) (funext fun r3 => ?_))
      refine (dc_goto (t := 14) (i := 11) rfl).trans ?_
      exact rfl
  · refine (dc_ic (x := (-2)) (i := 5) rfl).trans ?_
    exact dc_ireturn (i := 6) rfl _
theorem B102_14 {o0 : Nat} {v1 : pO} {v2 : pO} {s0 : Nat} {hp : pH} (h1 : pm_nl v1 = true) : dn pg 102 14 [some (.ref o0), v1, v2] [.ref s0] hp = qg_i hp s0 6 3 (fun y1 => if ¬ y1 = nI 0 then qg_a hp o0 8 0 (fun r2 => qv hp r2 6 (qr_v (cl pg 99 [.ref r2, .ref s0] hp) (fun hp1 => q_i (nI 1) hp1))) else q_i (-3) hp) := by
  refine (dn_astore (a := 2) (i := 14) rfl (pm_ok_nl (Nat.le_of_ble_eq_true rfl) rfl h1) _).trans ?_
  refine (dc_aload (a := 2) (i := 15) rfl rfl).trans ?_
  refine (dn_getI (ci := 6) (j := 3) (i := 16) rfl _).trans (congrArg (qg_i _ _ _ _) (funext fun y1 => ?_))
  refine (dn_if (c := (fun x => decide (¬ x = 0))) (t := 20) (i := 17) rfl _).trans (q_ite ?_ ?_)
  · refine (dc_aload (a := 0) (i := 20) rfl rfl).trans ?_
    refine (dn_getA (ci := 8) (j := 0) (i := 21) rfl _).trans (congrArg (qg_a _ _ _ _) (funext fun r2 => ?_))
    refine (dc_aload (a := 2) (i := 22) rfl rfl).trans ?_
    refine (dn_cV_v (i := 23) (y := 99) (na := 2) (ci := 6) rfl (pa_2 _ _ _) (Nat.le_of_ble_eq_true rfl) (Nat.le_of_ble_eq_true rfl)).trans (congrArg (fun F => qv _ _ _ (qr_v _ F)) (funext fun hp1 => ?_))
    refine (dc_ic (x := 1) (i := 24) rfl).trans ?_
    exact dc_ireturn (i := 25) rfl _
  · refine (dc_ic (x := (-3)) (i := 18) rfl).trans ?_
    exact dc_ireturn (i := 19) rfl _
theorem B103_0 {o0 : Nat} {x1 : Int32} {hp : pH} : dn pg 103 0 [some (.ref o0), some (.int x1)] [] hp = qr_i (cl pg 11 [.int x1, .int (nI 10), .int (nI 17)] hp) (fun y1 hp1 => if y1 = nI 0 then qr_i (cl pg 11 [.int x1, .int (nI 20), .int (nI 25)] hp1) (fun y2 hp2 => if y2 = nI 0 then qr_i (cl pg 11 [.int x1, .int (nI 30), .int (nI 35)] hp2) (fun y3 hp3 => if y3 = nI 0 then qr_i (cl pg 11 [.int x1, .int (nI 100), .int (nI 179)] hp3) (fun y4 hp4 => if y4 = nI 0 then if x1 = nI 0 then qg_a hp4 o0 8 3 (fun r5 => qg_i hp4 r5 2 4 (fun y6 => q_i y6 hp4)) else if x1 = nI 1 then qg_a hp4 o0 8 0 (fun r7 => qg_a hp4 r7 6 0 (fun r8 => qg_i hp4 r8 7 5 (fun y9 => q_i y9 hp4))) else if x1 = nI 2 then qg_a hp4 o0 8 0 (fun r10 => qg_a hp4 r10 6 0 (fun r11 => qg_i hp4 r11 7 6 (fun y12 => q_i y12 hp4))) else if x1 = nI 3 then qg_a hp4 o0 8 0 (fun r13 => qg_a hp4 r13 6 0 (fun r14 => qg_i hp4 r14 7 7 (fun y15 => q_i y15 hp4))) else if x1 = nI 4 then qg_a hp4 o0 8 0 (fun r16 => qg_a hp4 r16 6 2 (fun r17 => qg_i hp4 r17 4 2 (fun y18 => q_i y18 hp4))) else q_i (-2) hp4 else qv hp4 o0 8 (qr_i (cl pg 104 [.ref o0, .int ((x1 - (nI 100)) / (nI 10)), .int (x1 % (nI 10))] hp4) (fun y19 hp5 => q_i y19 hp5))) else qg_a hp3 o0 8 0 (fun r20 => qg_a hp3 r20 6 1 (fun r21 => qv hp3 r21 0 (qr_i (cl pg 22 [.ref r21, .int (x1 - (nI 30))] hp3) (fun y22 hp6 => q_i y22 hp6))))) else qg_a hp2 o0 8 0 (fun r23 => qg_a hp2 r23 6 1 (fun r24 => qv hp2 r24 0 (qr_i (cl pg 21 [.ref r24, .int (x1 - (nI 20))] hp2) (fun y25 hp7 => q_i y25 hp7))))) else qg_a hp1 o0 8 0 (fun r26 => qg_a hp1 r26 6 0 (fun r27 => qv hp1 r27 7 (qr_i (cl pg 47 [.ref r27, .int (x1 - (nI 10))] hp1) (fun y28 hp8 => q_i y28 hp8))))) := by
  refine (dc_iload (a := 1) (i := 0) rfl rfl).trans ?_
  refine (dc_ic (x := 10) (i := 1) rfl).trans ?_
  refine (dc_ic (x := 17) (i := 2) rfl).trans ?_
  refine (dn_cS_i (i := 3) (y := 11) (na := 3) rfl (pa_3 _ _ _ _) (Nat.le_of_ble_eq_true rfl) (Nat.le_of_ble_eq_true rfl)).trans (congrArg (qr_i _) (funext fun y1 => funext fun hp1 => ?_))
  refine (dn_if (c := (fun x => decide (x = 0))) (t := 13) (i := 4) rfl _).trans (q_ite ?_ ?_)
  · refine (dc_iload (a := 1) (i := 13) rfl rfl).trans ?_
    refine (dc_ic (x := 20) (i := 14) rfl).trans ?_
    refine (dc_ic (x := 25) (i := 15) rfl).trans ?_
    refine (dn_cS_i (i := 16) (y := 11) (na := 3) rfl (pa_3 _ _ _ _) (Nat.le_of_ble_eq_true rfl) (Nat.le_of_ble_eq_true rfl)).trans (congrArg (qr_i _) (funext fun y2 => funext fun hp2 => ?_))
    refine (dn_if (c := (fun x => decide (x = 0))) (t := 26) (i := 17) rfl _).trans (q_ite ?_ ?_)
    · refine (dc_iload (a := 1) (i := 26) rfl rfl).trans ?_
      refine (dc_ic (x := 30) (i := 27) rfl).trans ?_
      refine (dc_ic (x := 35) (i := 28) rfl).trans ?_
      refine (dn_cS_i (i := 29) (y := 11) (na := 3) rfl (pa_3 _ _ _ _) (Nat.le_of_ble_eq_true rfl) (Nat.le_of_ble_eq_true rfl)).trans (congrArg (qr_i _) (funext fun y3 => funext fun hp3 => ?_))
      refine (dn_if (c := (fun x => decide (x = 0))) (t := 39) (i := 30) rfl _).trans (q_ite ?_ ?_)
      · refine (dc_iload (a := 1) (i := 39) rfl rfl).trans ?_
        refine (dc_ic (x := 100) (i := 40) rfl).trans ?_
        refine (dc_ic (x := 179) (i := 41) rfl).trans ?_
        refine (dn_cS_i (i := 42) (y := 11) (na := 3) rfl (pa_3 _ _ _ _) (Nat.le_of_ble_eq_true rfl) (Nat.le_of_ble_eq_true rfl)).trans (congrArg (qr_i _) (funext fun y4 => funext fun hp4 => ?_))
        refine (dn_if (c := (fun x => decide (x = 0))) (t := 55) (i := 43) rfl _).trans (q_ite ?_ ?_)
        · refine (dc_iload (a := 1) (i := 55) rfl rfl).trans ?_
          refine (dn_sw2 (d := 81) (l := [(0, 57), (1, 61), (2, 66), (3, 71), (4, 76)]) (i := 56) rfl _).trans ?_
          refine q_swc ?_ ?_
          · refine (dc_aload (a := 0) (i := 57) rfl rfl).trans ?_
            refine (dn_getA (ci := 8) (j := 3) (i := 58) rfl _).trans (congrArg (qg_a _ _ _ _) (funext fun r5 => ?_))
            refine (dn_getI (ci := 2) (j := 4) (i := 59) rfl _).trans (congrArg (qg_i _ _ _ _) (funext fun y6 => ?_))
            exact dc_ireturn (i := 60) rfl _
          refine q_swc ?_ ?_
          · refine (dc_aload (a := 0) (i := 61) rfl rfl).trans ?_
            refine (dn_getA (ci := 8) (j := 0) (i := 62) rfl _).trans (congrArg (qg_a _ _ _ _) (funext fun r7 => ?_))
            refine (dn_getA (ci := 6) (j := 0) (i := 63) rfl _).trans (congrArg (qg_a _ _ _ _) (funext fun r8 => ?_))
            refine (dn_getI (ci := 7) (j := 5) (i := 64) rfl _).trans (congrArg (qg_i _ _ _ _) (funext fun y9 => ?_))
            exact dc_ireturn (i := 65) rfl _
          refine q_swc ?_ ?_
          · refine (dc_aload (a := 0) (i := 66) rfl rfl).trans ?_
            refine (dn_getA (ci := 8) (j := 0) (i := 67) rfl _).trans (congrArg (qg_a _ _ _ _) (funext fun r10 => ?_))
            refine (dn_getA (ci := 6) (j := 0) (i := 68) rfl _).trans (congrArg (qg_a _ _ _ _) (funext fun r11 => ?_))
            refine (dn_getI (ci := 7) (j := 6) (i := 69) rfl _).trans (congrArg (qg_i _ _ _ _) (funext fun y12 => ?_))
            exact dc_ireturn (i := 70) rfl _
          refine q_swc ?_ ?_
          · refine (dc_aload (a := 0) (i := 71) rfl rfl).trans ?_
            refine (dn_getA (ci := 8) (j := 0) (i := 72) rfl _).trans (congrArg (qg_a _ _ _ _) (funext fun r13 => ?_))
            refine (dn_getA (ci := 6) (j := 0) (i := 73) rfl _).trans (congrArg (qg_a _ _ _ _) (funext fun r14 => ?_))
            refine (dn_getI (ci := 7) (j := 7) (i := 74) rfl _).trans (congrArg (qg_i _ _ _ _) (funext fun y15 => ?_))
            exact dc_ireturn (i := 75) rfl _
          refine q_swc ?_ ?_
          · refine (dc_aload (a := 0) (i := 76) rfl rfl).trans ?_
            refine (dn_getA (ci := 8) (j := 0) (i := 77) rfl _).trans (congrArg (qg_a _ _ _ _) (funext fun r16 => ?_))
            refine (dn_getA (ci := 6) (j := 2) (i := 78) rfl _).trans (congrArg (qg_a _ _ _ _) (funext fun r17 => ?_))
            refine (dn_getI (ci := 4) (j := 2) (i := 79) rfl _).trans (congrArg (qg_i _ _ _ _) (funext fun y18 => ?_))
            exact dc_ireturn (i := 80) rfl _
          refine q_swn ?_
          refine (dc_ic (x := (-2)) (i := 81) rfl).trans ?_
          exact dc_ireturn (i := 82) rfl _
        · refine (dc_aload (a := 0) (i := 44) rfl rfl).trans ?_
          refine (dc_iload (a := 1) (i := 45) rfl rfl).trans ?_
          refine (dc_ic (x := 100) (i := 46) rfl).trans ?_
          refine (dc_bin (f := (fun x y => x - y)) (i := 47) rfl _ _).trans ?_
          refine (dc_ic (x := 10) (i := 48) rfl).trans ?_
          refine ((dn_div (f := (fun x y => x / y)) (i := 49) rfl _ _).trans (if_neg (by decide))).trans ?_
          refine (dc_iload (a := 1) (i := 50) rfl rfl).trans ?_
          refine (dc_ic (x := 10) (i := 51) rfl).trans ?_
          refine ((dn_div (f := (fun x y => x % y)) (i := 52) rfl _ _).trans (if_neg (by decide))).trans ?_
          refine (dn_cV_i (i := 53) (y := 104) (na := 3) (ci := 8) rfl (pa_3 _ _ _ _) (Nat.le_of_ble_eq_true rfl) (Nat.le_of_ble_eq_true rfl)).trans (congrArg (fun F => qv _ _ _ (qr_i _ F)) (funext fun y19 => funext fun hp5 => ?_))
          exact dc_ireturn (i := 54) rfl _
      · refine (dc_aload (a := 0) (i := 31) rfl rfl).trans ?_
        refine (dn_getA (ci := 8) (j := 0) (i := 32) rfl _).trans (congrArg (qg_a _ _ _ _) (funext fun r20 => ?_))
        refine (dn_getA (ci := 6) (j := 1) (i := 33) rfl _).trans (congrArg (qg_a _ _ _ _) (funext fun r21 => ?_))
        refine (dc_iload (a := 1) (i := 34) rfl rfl).trans ?_
        refine (dc_ic (x := 30) (i := 35) rfl).trans ?_
        refine (dc_bin (f := (fun x y => x - y)) (i := 36) rfl _ _).trans ?_
        refine (dn_cV_i (i := 37) (y := 22) (na := 2) (ci := 0) rfl (pa_2 _ _ _) (Nat.le_of_ble_eq_true rfl) (Nat.le_of_ble_eq_true rfl)).trans (congrArg (fun F => qv _ _ _ (qr_i _ F)) (funext fun y22 => funext fun hp6 => ?_))
        exact dc_ireturn (i := 38) rfl _
    · refine (dc_aload (a := 0) (i := 18) rfl rfl).trans ?_
      refine (dn_getA (ci := 8) (j := 0) (i := 19) rfl _).trans (congrArg (qg_a _ _ _ _) (funext fun r23 => ?_))
      refine (dn_getA (ci := 6) (j := 1) (i := 20) rfl _).trans (congrArg (qg_a _ _ _ _) (funext fun r24 => ?_))
      refine (dc_iload (a := 1) (i := 21) rfl rfl).trans ?_
      refine (dc_ic (x := 20) (i := 22) rfl).trans ?_
      refine (dc_bin (f := (fun x y => x - y)) (i := 23) rfl _ _).trans ?_
      refine (dn_cV_i (i := 24) (y := 21) (na := 2) (ci := 0) rfl (pa_2 _ _ _) (Nat.le_of_ble_eq_true rfl) (Nat.le_of_ble_eq_true rfl)).trans (congrArg (fun F => qv _ _ _ (qr_i _ F)) (funext fun y25 => funext fun hp7 => ?_))
      exact dc_ireturn (i := 25) rfl _
  · refine (dc_aload (a := 0) (i := 5) rfl rfl).trans ?_
    refine (dn_getA (ci := 8) (j := 0) (i := 6) rfl _).trans (congrArg (qg_a _ _ _ _) (funext fun r26 => ?_))
    refine (dn_getA (ci := 6) (j := 0) (i := 7) rfl _).trans (congrArg (qg_a _ _ _ _) (funext fun r27 => ?_))
    refine (dc_iload (a := 1) (i := 8) rfl rfl).trans ?_
    refine (dc_ic (x := 10) (i := 9) rfl).trans ?_
    refine (dc_bin (f := (fun x y => x - y)) (i := 10) rfl _ _).trans ?_
    refine (dn_cV_i (i := 11) (y := 47) (na := 2) (ci := 7) rfl (pa_2 _ _ _) (Nat.le_of_ble_eq_true rfl) (Nat.le_of_ble_eq_true rfl)).trans (congrArg (fun F => qv _ _ _ (qr_i _ F)) (funext fun y28 => funext fun hp8 => ?_))
    exact dc_ireturn (i := 12) rfl _
theorem B104_0 {o0 : Nat} {x1 : Int32} {x2 : Int32} {hp : pH} : dn pg 104 0 [some (.ref o0), some (.int x1), some (.int x2)] [] hp = if x2 = nI 0 then qg_a hp o0 8 0 (fun r1 => qg_a hp r1 6 0 (fun r2 => qv hp r2 7 (qr_i (cl pg 12 [.ref r2, .int x1] hp) (fun y3 hp1 => q_i y3 hp1)))) else if x2 = nI 1 then qg_a hp o0 8 0 (fun r4 => qg_a hp r4 6 0 (fun r5 => qv hp r5 7 (qr_i (cl pg 105 [.ref r5, .int x1] hp) (fun y6 hp2 => q_i y6 hp2)))) else if x2 = nI 2 then qg_a hp o0 8 0 (fun r7 => qg_a hp r7 6 0 (fun r8 => qv hp r8 7 (qr_i (cl pg 48 [.ref r8, .int x1] hp) (fun y9 hp3 => q_i y9 hp3)))) else q_i (-2) hp := by
  refine (dc_iload (a := 2) (i := 0) rfl rfl).trans ?_
  refine (dn_sw2 (d := 20) (l := [(0, 2), (1, 8), (2, 14)]) (i := 1) rfl _).trans ?_
  refine q_swc ?_ ?_
  · refine (dc_aload (a := 0) (i := 2) rfl rfl).trans ?_
    refine (dn_getA (ci := 8) (j := 0) (i := 3) rfl _).trans (congrArg (qg_a _ _ _ _) (funext fun r1 => ?_))
    refine (dn_getA (ci := 6) (j := 0) (i := 4) rfl _).trans (congrArg (qg_a _ _ _ _) (funext fun r2 => ?_))
    refine (dc_iload (a := 1) (i := 5) rfl rfl).trans ?_
    refine (dn_cV_i (i := 6) (y := 12) (na := 2) (ci := 7) rfl (pa_2 _ _ _) (Nat.le_of_ble_eq_true rfl) (Nat.le_of_ble_eq_true rfl)).trans (congrArg (fun F => qv _ _ _ (qr_i _ F)) (funext fun y3 => funext fun hp1 => ?_))
    exact dc_ireturn (i := 7) rfl _
  refine q_swc ?_ ?_
  · refine (dc_aload (a := 0) (i := 8) rfl rfl).trans ?_
    refine (dn_getA (ci := 8) (j := 0) (i := 9) rfl _).trans (congrArg (qg_a _ _ _ _) (funext fun r4 => ?_))
    refine (dn_getA (ci := 6) (j := 0) (i := 10) rfl _).trans (congrArg (qg_a _ _ _ _) (funext fun r5 => ?_))
    refine (dc_iload (a := 1) (i := 11) rfl rfl).trans ?_
    refine (dn_cV_i (i := 12) (y := 105) (na := 2) (ci := 7) rfl (pa_2 _ _ _) (Nat.le_of_ble_eq_true rfl) (Nat.le_of_ble_eq_true rfl)).trans (congrArg (fun F => qv _ _ _ (qr_i _ F)) (funext fun y6 => funext fun hp2 => ?_))
    exact dc_ireturn (i := 13) rfl _
  refine q_swc ?_ ?_
  · refine (dc_aload (a := 0) (i := 14) rfl rfl).trans ?_
    refine (dn_getA (ci := 8) (j := 0) (i := 15) rfl _).trans (congrArg (qg_a _ _ _ _) (funext fun r7 => ?_))
    refine (dn_getA (ci := 6) (j := 0) (i := 16) rfl _).trans (congrArg (qg_a _ _ _ _) (funext fun r8 => ?_))
    refine (dc_iload (a := 1) (i := 17) rfl rfl).trans ?_
    refine (dn_cV_i (i := 18) (y := 48) (na := 2) (ci := 7) rfl (pa_2 _ _ _) (Nat.le_of_ble_eq_true rfl) (Nat.le_of_ble_eq_true rfl)).trans (congrArg (fun F => qv _ _ _ (qr_i _ F)) (funext fun y9 => funext fun hp3 => ?_))
    exact dc_ireturn (i := 19) rfl _
  refine q_swn ?_
  refine (dc_ic (x := (-2)) (i := 20) rfl).trans ?_
  exact dc_ireturn (i := 21) rfl _
theorem B105_0 {o0 : Nat} {x1 : Int32} {hp : pH} : dn pg 105 0 [some (.ref o0), some (.int x1)] [] hp = qr_i (cl pg 10 [.int x1] hp) (fun y1 hp1 => if y1 = nI 0 then dn pg 105 9 [some (.ref o0), some (.int x1)] [.int (-1)] hp1 else qg_a hp1 o0 7 1 (fun r2 => qa_i hp1 r2 0 x1 (fun y3 => dn pg 105 9 [some (.ref o0), some (.int x1)] [.int y3] hp1))) := by
  refine (dc_iload (a := 1) (i := 0) rfl rfl).trans ?_
  refine (dn_cS_i (i := 1) (y := 10) (na := 1) rfl (pa_1 _ _) (Nat.le_of_ble_eq_true rfl) (Nat.le_of_ble_eq_true rfl)).trans (congrArg (qr_i _) (funext fun y1 => funext fun hp1 => ?_))
  refine (dn_if (c := (fun x => decide (x = 0))) (t := 8) (i := 2) rfl _).trans (q_ite ?_ ?_)
  · refine (dc_ic (x := (-1)) (i := 8) rfl).trans ?_
    exact rfl
  · refine (dc_aload (a := 0) (i := 3) rfl rfl).trans ?_
    refine (dn_getA (ci := 7) (j := 1) (i := 4) rfl _).trans (congrArg (qg_a _ _ _ _) (funext fun r2 => ?_))
    refine (dc_iload (a := 1) (i := 5) rfl rfl).trans ?_
    refine (dn_iald (t := 0) (i := 6) rfl _ _).trans (congrArg (qa_i _ _ _ _) (funext fun y3 => ?_))
    refine (dc_goto (t := 9) (i := 7) rfl).trans ?_
    exact rfl
theorem B105_9 {v0 : pO} {v1 : pO} {s0 : Int32} {hp : pH} : dn pg 105 9 [v0, v1] [.int s0] hp = q_i s0 hp := by
  exact dc_ireturn (i := 9) rfl _
theorem B106_0 {o0 : Nat} {v1 : pO} {hp : pH} : dn pg 106 0 [some (.ref o0), v1] [] hp = qp_v (hp ++ [pm_new 0 (nI 8 : Int32).toNatClampNeg]) o0 9 0 (.ref hp.length) (fun hp1 => qp_v (hp1 ++ [pm_new 0 (nI 8 : Int32).toNatClampNeg]) o0 9 1 (.ref hp1.length) (fun hp2 => qp_v (hp2 ++ [pm_new 0 (nI 8 : Int32).toNatClampNeg]) o0 9 2 (.ref hp2.length) (fun hp3 => qp_v (hp3 ++ [pm_new 0 (nI 8 : Int32).toNatClampNeg]) o0 9 3 (.ref hp3.length) (fun hp4 => qp_v (hp4 ++ [pm_new 0 (nI 6 : Int32).toNatClampNeg]) o0 9 7 (.ref hp4.length) (fun hp5 => qp_v (hp5 ++ [pm_new 0 (nI 6 : Int32).toNatClampNeg]) o0 9 8 (.ref hp5.length) (fun hp6 => qp_v (hp6 ++ [pm_new 0 (nI 8 : Int32).toNatClampNeg]) o0 9 9 (.ref hp6.length) (fun hp7 => qp_v (hp7 ++ [pm_new 0 (nI 8 : Int32).toNatClampNeg]) o0 9 10 (.ref hp7.length) (fun hp8 => qp_v (hp8 ++ [pm_new 0 (nI 60 : Int32).toNatClampNeg]) o0 9 12 (.ref hp8.length) (fun hp9 => qp_v (hp9 ++ [pm_new 0 (nI 60 : Int32).toNatClampNeg]) o0 9 14 (.ref hp9.length) (fun hp10 => qp_v (hp10 ++ [pm_new 0 (nI 60 : Int32).toNatClampNeg]) o0 9 15 (.ref hp10.length) (fun hp11 => qp_v (hp11 ++ [pm_new 0 (nI 60 : Int32).toNatClampNeg]) o0 9 16 (.ref hp11.length) (fun hp12 => qp_v (hp12 ++ [pm_new 0 (nI 8 : Int32).toNatClampNeg]) o0 9 18 (.ref hp12.length) (fun hp13 => qp_v (hp13 ++ [pm_new 0 (nI 27 : Int32).toNatClampNeg]) o0 9 19 (.ref hp13.length) (fun hp14 => qp_v (hp14 ++ [pm_new 0 (nI 8 : Int32).toNatClampNeg]) o0 9 25 (.ref hp14.length) (fun hp15 => qp_v (hp15 ++ [pm_new 0 (nI 501 : Int32).toNatClampNeg]) o0 9 26 (.ref hp15.length) (fun hp16 => qp_v (hp16 ++ [pm_new 1 (nI 256 : Int32).toNatClampNeg]) o0 9 27 (.ref hp16.length) (fun hp17 => qp_v (hp17 ++ [pm_new 2 (nI 441 : Int32).toNatClampNeg]) o0 9 28 (.ref hp17.length) (fun hp18 => qp_v (hp18 ++ [pm_new 2 (nI 441 : Int32).toNatClampNeg]) o0 9 29 (.ref hp18.length) (fun hp19 => qp_v (hp19 ++ [pm_new 0 (nI 160 : Int32).toNatClampNeg]) o0 9 30 (.ref hp19.length) (fun hp20 => qp_v (hp20 ++ [pm_new 1 (nI 2 : Int32).toNatClampNeg]) o0 9 31 (.ref hp20.length) (fun hp21 => qp_v hp21 o0 9 5 (.int (nI 9)) (fun hp22 => dn pg 106 91 [some (.ref o0), some (.int (nI 0))] [] hp22)))))))))))))))))))))) := by
  refine (dc_aload (a := 0) (i := 0) rfl rfl).trans ?_
  refine (dn_objinit (i := 1) rfl (Nat.le_of_ble_eq_true rfl) _).trans ?_
  refine (dc_aload (a := 0) (i := 2) rfl rfl).trans ?_
  refine (dc_ic (x := 8) (i := 3) rfl).trans ?_
  refine (dn_newa (t := 0) (i := 4) rfl (by decide)).trans ?_
  refine (dn_putA (ci := 9) (j := 0) (i := 5) rfl _ _).trans (congrArg (qp_v _ _ _ _ _) (funext fun hp1 => ?_))
  refine (dc_aload (a := 0) (i := 6) rfl rfl).trans ?_
  refine (dc_ic (x := 8) (i := 7) rfl).trans ?_
  refine (dn_newa (t := 0) (i := 8) rfl (by decide)).trans ?_
  refine (dn_putA (ci := 9) (j := 1) (i := 9) rfl _ _).trans (congrArg (qp_v _ _ _ _ _) (funext fun hp2 => ?_))
  refine (dc_aload (a := 0) (i := 10) rfl rfl).trans ?_
  refine (dc_ic (x := 8) (i := 11) rfl).trans ?_
  refine (dn_newa (t := 0) (i := 12) rfl (by decide)).trans ?_
  refine (dn_putA (ci := 9) (j := 2) (i := 13) rfl _ _).trans (congrArg (qp_v _ _ _ _ _) (funext fun hp3 => ?_))
  refine (dc_aload (a := 0) (i := 14) rfl rfl).trans ?_
  refine (dc_ic (x := 8) (i := 15) rfl).trans ?_
  refine (dn_newa (t := 0) (i := 16) rfl (by decide)).trans ?_
  refine (dn_putA (ci := 9) (j := 3) (i := 17) rfl _ _).trans (congrArg (qp_v _ _ _ _ _) (funext fun hp4 => ?_))
  refine (dc_aload (a := 0) (i := 18) rfl rfl).trans ?_
  refine (dc_ic (x := 6) (i := 19) rfl).trans ?_
  refine (dn_newa (t := 0) (i := 20) rfl (by decide)).trans ?_
  refine (dn_putA (ci := 9) (j := 7) (i := 21) rfl _ _).trans (congrArg (qp_v _ _ _ _ _) (funext fun hp5 => ?_))
  refine (dc_aload (a := 0) (i := 22) rfl rfl).trans ?_
  refine (dc_ic (x := 6) (i := 23) rfl).trans ?_
  refine (dn_newa (t := 0) (i := 24) rfl (by decide)).trans ?_
  refine (dn_putA (ci := 9) (j := 8) (i := 25) rfl _ _).trans (congrArg (qp_v _ _ _ _ _) (funext fun hp6 => ?_))
  refine (dc_aload (a := 0) (i := 26) rfl rfl).trans ?_
  refine (dc_ic (x := 8) (i := 27) rfl).trans ?_
  refine (dn_newa (t := 0) (i := 28) rfl (by decide)).trans ?_
  refine (dn_putA (ci := 9) (j := 9) (i := 29) rfl _ _).trans (congrArg (qp_v _ _ _ _ _) (funext fun hp7 => ?_))
  refine (dc_aload (a := 0) (i := 30) rfl rfl).trans ?_
  refine (dc_ic (x := 8) (i := 31) rfl).trans ?_
  refine (dn_newa (t := 0) (i := 32) rfl (by decide)).trans ?_
  refine (dn_putA (ci := 9) (j := 10) (i := 33) rfl _ _).trans (congrArg (qp_v _ _ _ _ _) (funext fun hp8 => ?_))
  refine (dc_aload (a := 0) (i := 34) rfl rfl).trans ?_
  refine (dc_ic (x := 60) (i := 35) rfl).trans ?_
  refine (dn_newa (t := 0) (i := 36) rfl (by decide)).trans ?_
  refine (dn_putA (ci := 9) (j := 12) (i := 37) rfl _ _).trans (congrArg (qp_v _ _ _ _ _) (funext fun hp9 => ?_))
  refine (dc_aload (a := 0) (i := 38) rfl rfl).trans ?_
  refine (dc_ic (x := 60) (i := 39) rfl).trans ?_
  refine (dn_newa (t := 0) (i := 40) rfl (by decide)).trans ?_
  refine (dn_putA (ci := 9) (j := 14) (i := 41) rfl _ _).trans (congrArg (qp_v _ _ _ _ _) (funext fun hp10 => ?_))
  refine (dc_aload (a := 0) (i := 42) rfl rfl).trans ?_
  refine (dc_ic (x := 60) (i := 43) rfl).trans ?_
  refine (dn_newa (t := 0) (i := 44) rfl (by decide)).trans ?_
  refine (dn_putA (ci := 9) (j := 15) (i := 45) rfl _ _).trans (congrArg (qp_v _ _ _ _ _) (funext fun hp11 => ?_))
  refine (dc_aload (a := 0) (i := 46) rfl rfl).trans ?_
  refine (dc_ic (x := 60) (i := 47) rfl).trans ?_
  refine (dn_newa (t := 0) (i := 48) rfl (by decide)).trans ?_
  refine (dn_putA (ci := 9) (j := 16) (i := 49) rfl _ _).trans (congrArg (qp_v _ _ _ _ _) (funext fun hp12 => ?_))
  refine (dc_aload (a := 0) (i := 50) rfl rfl).trans ?_
  refine (dc_ic (x := 8) (i := 51) rfl).trans ?_
  refine (dn_newa (t := 0) (i := 52) rfl (by decide)).trans ?_
  refine (dn_putA (ci := 9) (j := 18) (i := 53) rfl _ _).trans (congrArg (qp_v _ _ _ _ _) (funext fun hp13 => ?_))
  refine (dc_aload (a := 0) (i := 54) rfl rfl).trans ?_
  refine (dc_ic (x := 27) (i := 55) rfl).trans ?_
  refine (dn_newa (t := 0) (i := 56) rfl (by decide)).trans ?_
  refine (dn_putA (ci := 9) (j := 19) (i := 57) rfl _ _).trans (congrArg (qp_v _ _ _ _ _) (funext fun hp14 => ?_))
  refine (dc_aload (a := 0) (i := 58) rfl rfl).trans ?_
  refine (dc_ic (x := 8) (i := 59) rfl).trans ?_
  refine (dn_newa (t := 0) (i := 60) rfl (by decide)).trans ?_
  refine (dn_putA (ci := 9) (j := 25) (i := 61) rfl _ _).trans (congrArg (qp_v _ _ _ _ _) (funext fun hp15 => ?_))
  refine (dc_aload (a := 0) (i := 62) rfl rfl).trans ?_
  refine (dc_ic (x := 501) (i := 63) rfl).trans ?_
  refine (dn_newa (t := 0) (i := 64) rfl (by decide)).trans ?_
  refine (dn_putA (ci := 9) (j := 26) (i := 65) rfl _ _).trans (congrArg (qp_v _ _ _ _ _) (funext fun hp16 => ?_))
  refine (dc_aload (a := 0) (i := 66) rfl rfl).trans ?_
  refine (dc_ic (x := 256) (i := 67) rfl).trans ?_
  refine (dn_newa (t := 1) (i := 68) rfl (by decide)).trans ?_
  refine (dn_putA (ci := 9) (j := 27) (i := 69) rfl _ _).trans (congrArg (qp_v _ _ _ _ _) (funext fun hp17 => ?_))
  refine (dc_aload (a := 0) (i := 70) rfl rfl).trans ?_
  refine (dc_ic (x := 441) (i := 71) rfl).trans ?_
  refine (dn_newa (t := 2) (i := 72) rfl (by decide)).trans ?_
  refine (dn_putA (ci := 9) (j := 28) (i := 73) rfl _ _).trans (congrArg (qp_v _ _ _ _ _) (funext fun hp18 => ?_))
  refine (dc_aload (a := 0) (i := 74) rfl rfl).trans ?_
  refine (dc_ic (x := 441) (i := 75) rfl).trans ?_
  refine (dn_newa (t := 2) (i := 76) rfl (by decide)).trans ?_
  refine (dn_putA (ci := 9) (j := 29) (i := 77) rfl _ _).trans (congrArg (qp_v _ _ _ _ _) (funext fun hp19 => ?_))
  refine (dc_aload (a := 0) (i := 78) rfl rfl).trans ?_
  refine (dc_ic (x := 160) (i := 79) rfl).trans ?_
  refine (dn_newa (t := 0) (i := 80) rfl (by decide)).trans ?_
  refine (dn_putA (ci := 9) (j := 30) (i := 81) rfl _ _).trans (congrArg (qp_v _ _ _ _ _) (funext fun hp20 => ?_))
  refine (dc_aload (a := 0) (i := 82) rfl rfl).trans ?_
  refine (dc_ic (x := 2) (i := 83) rfl).trans ?_
  refine (dn_newa (t := 1) (i := 84) rfl (by decide)).trans ?_
  refine (dn_putA (ci := 9) (j := 31) (i := 85) rfl _ _).trans (congrArg (qp_v _ _ _ _ _) (funext fun hp21 => ?_))
  refine (dc_aload (a := 0) (i := 86) rfl rfl).trans ?_
  refine (dc_ic (x := 9) (i := 87) rfl).trans ?_
  refine (dn_putI (ci := 9) (j := 5) (i := 88) rfl _ _).trans (congrArg (qp_v _ _ _ _ _) (funext fun hp22 => ?_))
  refine (dc_ic (x := 0) (i := 89) rfl).trans ?_
  refine (dn_istore (a := 1) (i := 90) rfl rfl _).trans ?_
  exact rfl
theorem B106_91 {o0 : Nat} {x1 : Int32} {hp : pH} : dn pg 106 91 [some (.ref o0), some (.int x1)] [] hp = if (nI 8) ≤ x1 then dn pg 106 103 [some (.ref o0), some (.int (nI 0))] [] hp else qg_a hp o0 9 1 (fun r1 => qx_i hp r1 0 x1 (nI 3) (fun hp1 => dn pg 106 91 [some (.ref o0), some (.int (x1 + nI 1))] [] hp1)) := by
  refine (dc_iload (a := 1) (i := 91) rfl rfl).trans ?_
  refine (dc_ic (x := 8) (i := 92) rfl).trans ?_
  refine (dn_icmp (c := (fun x y => decide (y ≤ x))) (t := 101) (i := 93) rfl _ _).trans (q_ite ?_ ?_)
  · refine (dc_ic (x := 0) (i := 101) rfl).trans ?_
    refine (dn_istore (a := 1) (i := 102) rfl rfl _).trans ?_
    exact rfl
  · refine (dc_aload (a := 0) (i := 94) rfl rfl).trans ?_
    refine (dn_getA (ci := 9) (j := 1) (i := 95) rfl _).trans (congrArg (qg_a _ _ _ _) (funext fun r1 => ?_))
    refine (dc_iload (a := 1) (i := 96) rfl rfl).trans ?_
    refine (dc_ic (x := 3) (i := 97) rfl).trans ?_
    refine (dn_iast (i := 98) rfl _ _ _).trans (congrArg (qx_i _ _ _ _ _) (funext fun hp1 => ?_))
    refine (dn_iinc (a := 1) (d := 1) (i := 99) rfl rfl rfl).trans ?_
    refine (dc_goto (t := 91) (i := 100) rfl).trans ?_
    exact rfl
theorem B106_103 {o0 : Nat} {x1 : Int32} {hp : pH} : dn pg 106 103 [some (.ref o0), some (.int x1)] [] hp = if (nI 6) ≤ x1 then q_v hp else qg_a hp o0 9 7 (fun r1 => qx_i hp r1 0 x1 (nI 1) (fun hp1 => dn pg 106 103 [some (.ref o0), some (.int (x1 + nI 1))] [] hp1)) := by
  refine (dc_iload (a := 1) (i := 103) rfl rfl).trans ?_
  refine (dc_ic (x := 6) (i := 104) rfl).trans ?_
  refine (dn_icmp (c := (fun x y => decide (y ≤ x))) (t := 113) (i := 105) rfl _ _).trans (q_ite ?_ ?_)
  · exact dc_return (i := 113) rfl
  · refine (dc_aload (a := 0) (i := 106) rfl rfl).trans ?_
    refine (dn_getA (ci := 9) (j := 7) (i := 107) rfl _).trans (congrArg (qg_a _ _ _ _) (funext fun r1 => ?_))
    refine (dc_iload (a := 1) (i := 108) rfl rfl).trans ?_
    refine (dc_ic (x := 1) (i := 109) rfl).trans ?_
    refine (dn_iast (i := 110) rfl _ _ _).trans (congrArg (qx_i _ _ _ _ _) (funext fun hp1 => ?_))
    refine (dn_iinc (a := 1) (d := 1) (i := 111) rfl rfl rfl).trans ?_
    refine (dc_goto (t := 103) (i := 112) rfl).trans ?_
    exact rfl
theorem B107_0 {o0 : Nat} {x1 : Int32} {x2 : Int32} {x3 : Int32} {x4 : Int32} {x5 : Int32} {v6 : pO} {hp : pH} : dn pg 107 0 [some (.ref o0), some (.int x1), some (.int x2), some (.int x3), some (.int x4), some (.int x5), v6] [] hp = qr_i (cl pg 108 [.int x1] hp) (fun y1 hp1 => if ¬ y1 = nI 0 then qr_i (cl pg 109 [.long x2.toInt64, .long (lN 0), .long (lN 3)] hp1) (fun y2 hp2 => if y2 = nI 0 then dn pg 107 29 [some (.ref o0), some (.int x1), some (.int x2), some (.int x3), some (.int x4), some (.int x5), v6] [] hp2 else qr_i (cl pg 109 [.long x3.toInt64, .long (lN 0), .long (lN 1)] hp2) (fun y3 hp3 => if y3 = nI 0 then dn pg 107 29 [some (.ref o0), some (.int x1), some (.int x2), some (.int x3), some (.int x4), some (.int x5), v6] [] hp3 else qr_i (cl pg 109 [.long x4.toInt64, .long (lN 1), .long (lN 9)] hp3) (fun y4 hp4 => if y4 = nI 0 then dn pg 107 29 [some (.ref o0), some (.int x1), some (.int x2), some (.int x3), some (.int x4), some (.int x5), v6] [] hp4 else qr_i (cl pg 109 [.long x5.toInt64, .long (lN 0), .long (lN 9)] hp4) (fun y5 hp5 => if ¬ y5 = nI 0 then qg_a hp5 o0 9 0 (fun r6 => qa_i hp5 r6 0 x1 (fun y7 => qg_a hp5 o0 9 0 (fun r8 => qx_i hp5 r8 0 x1 x2 (fun hp6 => qg_a hp6 o0 9 1 (fun r9 => qx_i hp6 r9 0 x1 x4 (fun hp7 => qg_a hp7 o0 9 2 (fun r10 => qx_i hp7 r10 0 x1 x5 (fun hp8 => qg_i hp8 o0 9 4 (fun y11 => if ¬ x3 = (nI 1) then dn pg 107 61 [some (.ref o0), some (.int x1), some (.int x2), some (.int x3), some (.int x4), some (.int x5), some (.int y7)] [.int (nI 0), .int x1, .int y11, .ref o0] hp8 else dn pg 107 61 [some (.ref o0), some (.int x1), some (.int x2), some (.int x3), some (.int x4), some (.int x5), some (.int y7)] [.int (nI 1), .int x1, .int y11, .ref o0] hp8))))))))) else dn pg 107 29 [some (.ref o0), some (.int x1), some (.int x2), some (.int x3), some (.int x4), some (.int x5), v6] [] hp5)))) else q_i (-1) hp1) := by
  refine (dc_iload (a := 1) (i := 0) rfl rfl).trans ?_
  refine (dn_cS_i (i := 1) (y := 108) (na := 1) rfl (pa_1 _ _) (Nat.le_of_ble_eq_true rfl) (Nat.le_of_ble_eq_true rfl)).trans (congrArg (qr_i _) (funext fun y1 => funext fun hp1 => ?_))
  refine (dn_if (c := (fun x => decide (¬ x = 0))) (t := 5) (i := 2) rfl _).trans (q_ite ?_ ?_)
  · refine (dc_iload (a := 2) (i := 5) rfl rfl).trans ?_
    refine (dc_i2l (i := 6) rfl _).trans ?_
    refine (dc_lc (x := 0) (i := 7) rfl).trans ?_
    refine (dc_lc (x := 3) (i := 8) rfl).trans ?_
    refine (dn_cS_i (i := 9) (y := 109) (na := 3) rfl (pa_3 _ _ _ _) (Nat.le_of_ble_eq_true rfl) (Nat.le_of_ble_eq_true rfl)).trans (congrArg (qr_i _) (funext fun y2 => funext fun hp2 => ?_))
    refine (dn_if (c := (fun x => decide (x = 0))) (t := 29) (i := 10) rfl _).trans (q_ite ?_ ?_)
    · exact rfl
    · refine (dc_iload (a := 3) (i := 11) rfl rfl).trans ?_
      refine (dc_i2l (i := 12) rfl _).trans ?_
      refine (dc_lc (x := 0) (i := 13) rfl).trans ?_
      refine (dc_lc (x := 1) (i := 14) rfl).trans ?_
      refine (dn_cS_i (i := 15) (y := 109) (na := 3) rfl (pa_3 _ _ _ _) (Nat.le_of_ble_eq_true rfl) (Nat.le_of_ble_eq_true rfl)).trans (congrArg (qr_i _) (funext fun y3 => funext fun hp3 => ?_))
      refine (dn_if (c := (fun x => decide (x = 0))) (t := 29) (i := 16) rfl _).trans (q_ite ?_ ?_)
      · exact rfl
      · refine (dc_iload (a := 4) (i := 17) rfl rfl).trans ?_
        refine (dc_i2l (i := 18) rfl _).trans ?_
        refine (dc_lc (x := 1) (i := 19) rfl).trans ?_
        refine (dc_lc (x := 9) (i := 20) rfl).trans ?_
        refine (dn_cS_i (i := 21) (y := 109) (na := 3) rfl (pa_3 _ _ _ _) (Nat.le_of_ble_eq_true rfl) (Nat.le_of_ble_eq_true rfl)).trans (congrArg (qr_i _) (funext fun y4 => funext fun hp4 => ?_))
        refine (dn_if (c := (fun x => decide (x = 0))) (t := 29) (i := 22) rfl _).trans (q_ite ?_ ?_)
        · exact rfl
        · refine (dc_iload (a := 5) (i := 23) rfl rfl).trans ?_
          refine (dc_i2l (i := 24) rfl _).trans ?_
          refine (dc_lc (x := 0) (i := 25) rfl).trans ?_
          refine (dc_lc (x := 9) (i := 26) rfl).trans ?_
          refine (dn_cS_i (i := 27) (y := 109) (na := 3) rfl (pa_3 _ _ _ _) (Nat.le_of_ble_eq_true rfl) (Nat.le_of_ble_eq_true rfl)).trans (congrArg (qr_i _) (funext fun y5 => funext fun hp5 => ?_))
          refine (dn_if (c := (fun x => decide (¬ x = 0))) (t := 31) (i := 28) rfl _).trans (q_ite ?_ ?_)
          · refine (dc_aload (a := 0) (i := 31) rfl rfl).trans ?_
            refine (dn_getA (ci := 9) (j := 0) (i := 32) rfl _).trans (congrArg (qg_a _ _ _ _) (funext fun r6 => ?_))
            refine (dc_iload (a := 1) (i := 33) rfl rfl).trans ?_
            refine (dn_iald (t := 0) (i := 34) rfl _ _).trans (congrArg (qa_i _ _ _ _) (funext fun y7 => ?_))
            refine (dn_istore (a := 6) (i := 35) rfl rfl _).trans ?_
            refine (dc_aload (a := 0) (i := 36) rfl rfl).trans ?_
            refine (dn_getA (ci := 9) (j := 0) (i := 37) rfl _).trans (congrArg (qg_a _ _ _ _) (funext fun r8 => ?_))
            refine (dc_iload (a := 1) (i := 38) rfl rfl).trans ?_
            refine (dc_iload (a := 2) (i := 39) rfl rfl).trans ?_
            refine (dn_iast (i := 40) rfl _ _ _).trans (congrArg (qx_i _ _ _ _ _) (funext fun hp6 => ?_))
            refine (dc_aload (a := 0) (i := 41) rfl rfl).trans ?_
            refine (dn_getA (ci := 9) (j := 1) (i := 42) rfl _).trans (congrArg (qg_a _ _ _ _) (funext fun r9 => ?_))
            refine (dc_iload (a := 1) (i := 43) rfl rfl).trans ?_
            refine (dc_iload (a := 4) (i := 44) rfl rfl).trans ?_
            refine (dn_iast (i := 45) rfl _ _ _).trans (congrArg (qx_i _ _ _ _ _) (funext fun hp7 => ?_))
            refine (dc_aload (a := 0) (i := 46) rfl rfl).trans ?_
            refine (dn_getA (ci := 9) (j := 2) (i := 47) rfl _).trans (congrArg (qg_a _ _ _ _) (funext fun r10 => ?_))
            refine (dc_iload (a := 1) (i := 48) rfl rfl).trans ?_
            refine (dc_iload (a := 5) (i := 49) rfl rfl).trans ?_
            refine (dn_iast (i := 50) rfl _ _ _).trans (congrArg (qx_i _ _ _ _ _) (funext fun hp8 => ?_))
            refine (dc_aload (a := 0) (i := 51) rfl rfl).trans ?_
            refine (dc_aload (a := 0) (i := 52) rfl rfl).trans ?_
            refine (dn_getI (ci := 9) (j := 4) (i := 53) rfl _).trans (congrArg (qg_i _ _ _ _) (funext fun y11 => ?_))
            refine (dc_iload (a := 1) (i := 54) rfl rfl).trans ?_
            refine (dc_iload (a := 3) (i := 55) rfl rfl).trans ?_
            refine (dc_ic (x := 1) (i := 56) rfl).trans ?_
            refine (dn_icmp (c := (fun x y => decide (¬ x = y))) (t := 60) (i := 57) rfl _ _).trans (q_ite ?_ ?_)
            · refine (dc_ic (x := 0) (i := 60) rfl).trans ?_
              exact rfl
            · refine (dc_ic (x := 1) (i := 58) rfl).trans ?_
              refine (dc_goto (t := 61) (i := 59) rfl).trans ?_
              exact rfl
          · exact rfl
  · refine (dc_ic (x := (-1)) (i := 3) rfl).trans ?_
    exact dc_ireturn (i := 4) rfl _
theorem B107_29 {v0 : pO} {v1 : pO} {v2 : pO} {v3 : pO} {v4 : pO} {v5 : pO} {v6 : pO} {hp : pH} : dn pg 107 29 [v0, v1, v2, v3, v4, v5, v6] [] hp = q_i (-2) hp := by
  refine (dc_ic (x := (-2)) (i := 29) rfl).trans ?_
  exact dc_ireturn (i := 30) rfl _
theorem B107_61 {v0 : pO} {v1 : pO} {v2 : pO} {v3 : pO} {v4 : pO} {v5 : pO} {x6 : Int32} {s0 : Int32} {s1 : Int32} {s2 : Int32} {s3 : Nat} {hp : pH} : dn pg 107 61 [v0, v1, v2, v3, v4, v5, some (.int x6)] [.int s0, .int s1, .int s2, .ref s3] hp = qr_i (cl pg 110 [.int s2, .int s1, .int s0] hp) (fun y1 hp1 => qp_v hp1 s3 9 4 (.int y1) (fun hp2 => q_i x6 hp2)) := by
  refine (dn_cS_i (i := 61) (y := 110) (na := 3) rfl (pa_3 _ _ _ _) (Nat.le_of_ble_eq_true rfl) (Nat.le_of_ble_eq_true rfl)).trans (congrArg (qr_i _) (funext fun y1 => funext fun hp1 => ?_))
  refine (dn_putI (ci := 9) (j := 4) (i := 62) rfl _ _).trans (congrArg (qp_v _ _ _ _ _) (funext fun hp2 => ?_))
  refine (dc_iload (a := 6) (i := 63) rfl rfl).trans ?_
  exact dc_ireturn (i := 64) rfl _
theorem B108_0 {x0 : Int32} {hp : pH} : dn pg 108 0 [some (.int x0)] [] hp = qr_i (cl pg 109 [.long x0.toInt64, .long (lN 0), .long (lN 7)] hp) (fun y1 hp1 => qz y1 (q_i y1 hp1)) := by
  refine (dc_iload (a := 0) (i := 0) rfl rfl).trans ?_
  refine (dc_i2l (i := 1) rfl _).trans ?_
  refine (dc_lc (x := 0) (i := 2) rfl).trans ?_
  refine (dc_lc (x := 7) (i := 3) rfl).trans ?_
  refine (dn_cS_i (i := 4) (y := 109) (na := 3) rfl (pa_3 _ _ _ _) (Nat.le_of_ble_eq_true rfl) (Nat.le_of_ble_eq_true rfl)).trans (congrArg (qr_i _) (funext fun y1 => funext fun hp1 => ?_))
  exact dn_zret (i := 5) rfl _
theorem B109_0 {l0 : Int64} {v1 : pO} {l2 : Int64} {v3 : pO} {l4 : Int64} {v5 : pO} {hp : pH} : dn pg 109 0 [some (.long l0), v1, some (.long l2), v3, some (.long l4), v5] [] hp = if (lg_cmp l0 l2) < nI 0 then dn pg 109 10 [some (.long l0), v1, some (.long l2), v3, some (.long l4), v5] [] hp else if nI 0 < (lg_cmp l0 l4) then dn pg 109 10 [some (.long l0), v1, some (.long l2), v3, some (.long l4), v5] [] hp else dn pg 109 11 [some (.long l0), v1, some (.long l2), v3, some (.long l4), v5] [.int (nI 1)] hp := by
  refine (dc_lload (a := 0) (i := 0) rfl rfl).trans ?_
  refine (dc_lload (a := 2) (i := 1) rfl rfl).trans ?_
  refine (dc_lcmp (i := 2) rfl _ _).trans ?_
  refine (dn_if (c := (fun x => decide (x < 0))) (t := 10) (i := 3) rfl _).trans (q_ite ?_ ?_)
  · exact rfl
  · refine (dc_lload (a := 0) (i := 4) rfl rfl).trans ?_
    refine (dc_lload (a := 4) (i := 5) rfl rfl).trans ?_
    refine (dc_lcmp (i := 6) rfl _ _).trans ?_
    refine (dn_if (c := (fun x => decide (0 < x))) (t := 10) (i := 7) rfl _).trans (q_ite ?_ ?_)
    · exact rfl
    · refine (dc_ic (x := 1) (i := 8) rfl).trans ?_
      refine (dc_goto (t := 11) (i := 9) rfl).trans ?_
      exact rfl
theorem B109_10 {v0 : pO} {v1 : pO} {v2 : pO} {v3 : pO} {v4 : pO} {v5 : pO} {hp : pH} : dn pg 109 10 [v0, v1, v2, v3, v4, v5] [] hp = dn pg 109 11 [v0, v1, v2, v3, v4, v5] [.int (nI 0)] hp := by
  refine (dc_ic (x := 0) (i := 10) rfl).trans ?_
  exact rfl
theorem B109_11 {v0 : pO} {v1 : pO} {v2 : pO} {v3 : pO} {v4 : pO} {v5 : pO} {s0 : Int32} {hp : pH} : dn pg 109 11 [v0, v1, v2, v3, v4, v5] [.int s0] hp = qz s0 (q_i s0 hp) := by
  exact dn_zret (i := 11) rfl _
theorem B110_0 {x0 : Int32} {x1 : Int32} {x2 : Int32} {hp : pH} : dn pg 110 0 [some (.int x0), some (.int x1), some (.int x2)] [] hp = if x2 = nI 0 then dn pg 110 15 [some (.int x0), some (.int x1), some (.int x2)] [.int (x0 &&& (((nI 1) <<< (x1 &&& nI 31)) ^^^ (-1)))] hp else dn pg 110 15 [some (.int x0), some (.int x1), some (.int x2)] [.int (x0 ||| ((nI 1) <<< (x1 &&& nI 31)))] hp := by
  refine (dc_iload (a := 2) (i := 0) rfl rfl).trans ?_
  refine (dn_if (c := (fun x => decide (x = 0))) (t := 8) (i := 1) rfl _).trans (q_ite ?_ ?_)
  · refine (dc_iload (a := 0) (i := 8) rfl rfl).trans ?_
    refine (dc_ic (x := 1) (i := 9) rfl).trans ?_
    refine (dc_iload (a := 1) (i := 10) rfl rfl).trans ?_
    refine (dc_bin (f := (fun x y => x <<< (y &&& 31))) (i := 11) rfl _ _).trans ?_
    refine (dc_ic (x := (-1)) (i := 12) rfl).trans ?_
    refine (dc_bin (f := (fun x y => x ^^^ y)) (i := 13) rfl _ _).trans ?_
    refine (dc_bin (f := (fun x y => x &&& y)) (i := 14) rfl _ _).trans ?_
    exact rfl
  · refine (dc_iload (a := 0) (i := 2) rfl rfl).trans ?_
    refine (dc_ic (x := 1) (i := 3) rfl).trans ?_
    refine (dc_iload (a := 1) (i := 4) rfl rfl).trans ?_
    refine (dc_bin (f := (fun x y => x <<< (y &&& 31))) (i := 5) rfl _ _).trans ?_
    refine (dc_bin (f := (fun x y => x ||| y)) (i := 6) rfl _ _).trans ?_
    refine (dc_goto (t := 15) (i := 7) rfl).trans ?_
    exact rfl
theorem B110_15 {v0 : pO} {v1 : pO} {v2 : pO} {s0 : Int32} {hp : pH} : dn pg 110 15 [v0, v1, v2] [.int s0] hp = q_i s0 hp := by
  exact dc_ireturn (i := 15) rfl _
theorem B111_0 {o0 : Nat} {x1 : Int32} {x2 : Int32} {x3 : Int32} {hp : pH} : dn pg 111 0 [some (.ref o0), some (.int x1), some (.int x2), some (.int x3)] [] hp = qr_i (cl pg 108 [.int x1] hp) (fun y1 hp1 => if y1 = nI 0 then dn pg 111 9 [some (.ref o0), some (.int x1), some (.int x2), some (.int x3)] [] hp1 else qr_i (cl pg 108 [.int x2] hp1) (fun y2 hp2 => if y2 = nI 0 then dn pg 111 9 [some (.ref o0), some (.int x1), some (.int x2), some (.int x3)] [] hp2 else if ¬ x1 = x2 then qv hp2 o0 9 (qr_v (cl pg 112 [.ref o0, .int x1, .int x2, .int x3] hp2) (fun hp3 => qv hp3 o0 9 (qr_i (cl pg 113 [.ref o0] hp3) (fun y3 hp4 => q_i y3 hp4)))) else dn pg 111 9 [some (.ref o0), some (.int x1), some (.int x2), some (.int x3)] [] hp2)) := by
  refine (dc_iload (a := 1) (i := 0) rfl rfl).trans ?_
  refine (dn_cS_i (i := 1) (y := 108) (na := 1) rfl (pa_1 _ _) (Nat.le_of_ble_eq_true rfl) (Nat.le_of_ble_eq_true rfl)).trans (congrArg (qr_i _) (funext fun y1 => funext fun hp1 => ?_))
  refine (dn_if (c := (fun x => decide (x = 0))) (t := 9) (i := 2) rfl _).trans (q_ite ?_ ?_)
  · exact rfl
  · refine (dc_iload (a := 2) (i := 3) rfl rfl).trans ?_
    refine (dn_cS_i (i := 4) (y := 108) (na := 1) rfl (pa_1 _ _) (Nat.le_of_ble_eq_true rfl) (Nat.le_of_ble_eq_true rfl)).trans (congrArg (qr_i _) (funext fun y2 => funext fun hp2 => ?_))
    refine (dn_if (c := (fun x => decide (x = 0))) (t := 9) (i := 5) rfl _).trans (q_ite ?_ ?_)
    · exact rfl
    · refine (dc_iload (a := 1) (i := 6) rfl rfl).trans ?_
      refine (dc_iload (a := 2) (i := 7) rfl rfl).trans ?_
      refine (dn_icmp (c := (fun x y => decide (¬ x = y))) (t := 11) (i := 8) rfl _ _).trans (q_ite ?_ ?_)
      · refine (dc_aload (a := 0) (i := 11) rfl rfl).trans ?_
        refine (dc_iload (a := 1) (i := 12) rfl rfl).trans ?_
        refine (dc_iload (a := 2) (i := 13) rfl rfl).trans ?_
        refine (dc_iload (a := 3) (i := 14) rfl rfl).trans ?_
        refine (dn_cV_v (i := 15) (y := 112) (na := 4) (ci := 9) rfl (pa_4 _ _ _ _ _) (Nat.le_of_ble_eq_true rfl) (Nat.le_of_ble_eq_true rfl)).trans (congrArg (fun F => qv _ _ _ (qr_v _ F)) (funext fun hp3 => ?_))
        refine (dc_aload (a := 0) (i := 16) rfl rfl).trans ?_
        refine (dn_cV_i (i := 17) (y := 113) (na := 1) (ci := 9) rfl (pa_1 _ _) (Nat.le_of_ble_eq_true rfl) (Nat.le_of_ble_eq_true rfl)).trans (congrArg (fun F => qv _ _ _ (qr_i _ F)) (funext fun y3 => funext fun hp4 => ?_))
        exact dc_ireturn (i := 18) rfl _
      · exact rfl
theorem B111_9 {v0 : pO} {v1 : pO} {v2 : pO} {v3 : pO} {hp : pH} : dn pg 111 9 [v0, v1, v2, v3] [] hp = q_i (-1) hp := by
  refine (dc_ic (x := (-1)) (i := 9) rfl).trans ?_
  exact dc_ireturn (i := 10) rfl _
theorem B112_0 {o0 : Nat} {x1 : Int32} {x2 : Int32} {x3 : Int32} {hp : pH} : dn pg 112 0 [some (.ref o0), some (.int x1), some (.int x2), some (.int x3)] [] hp = qg_a hp o0 9 3 (fun r1 => qg_a hp o0 9 3 (fun r2 => qa_i hp r2 0 x1 (fun y3 => qr_i (cl pg 110 [.int y3, .int x2, .int x3] hp) (fun y4 hp1 => qx_i hp1 r1 0 x1 y4 (fun hp2 => qg_a hp2 o0 9 3 (fun r5 => qg_a hp2 o0 9 3 (fun r6 => qa_i hp2 r6 0 x2 (fun y7 => qr_i (cl pg 110 [.int y7, .int x1, .int x3] hp2) (fun y8 hp3 => qx_i hp3 r5 0 x2 y8 (fun hp4 => q_v hp4)))))))))) := by
  refine (dc_aload (a := 0) (i := 0) rfl rfl).trans ?_
  refine (dn_getA (ci := 9) (j := 3) (i := 1) rfl _).trans (congrArg (qg_a _ _ _ _) (funext fun r1 => ?_))
  refine (dc_iload (a := 1) (i := 2) rfl rfl).trans ?_
  refine (dc_aload (a := 0) (i := 3) rfl rfl).trans ?_
  refine (dn_getA (ci := 9) (j := 3) (i := 4) rfl _).trans (congrArg (qg_a _ _ _ _) (funext fun r2 => ?_))
  refine (dc_iload (a := 1) (i := 5) rfl rfl).trans ?_
  refine (dn_iald (t := 0) (i := 6) rfl _ _).trans (congrArg (qa_i _ _ _ _) (funext fun y3 => ?_))
  refine (dc_iload (a := 2) (i := 7) rfl rfl).trans ?_
  refine (dc_iload (a := 3) (i := 8) rfl rfl).trans ?_
  refine (dn_cS_i (i := 9) (y := 110) (na := 3) rfl (pa_3 _ _ _ _) (Nat.le_of_ble_eq_true rfl) (Nat.le_of_ble_eq_true rfl)).trans (congrArg (qr_i _) (funext fun y4 => funext fun hp1 => ?_))
  refine (dn_iast (i := 10) rfl _ _ _).trans (congrArg (qx_i _ _ _ _ _) (funext fun hp2 => ?_))
  refine (dc_aload (a := 0) (i := 11) rfl rfl).trans ?_
  refine (dn_getA (ci := 9) (j := 3) (i := 12) rfl _).trans (congrArg (qg_a _ _ _ _) (funext fun r5 => ?_))
  refine (dc_iload (a := 2) (i := 13) rfl rfl).trans ?_
  refine (dc_aload (a := 0) (i := 14) rfl rfl).trans ?_
  refine (dn_getA (ci := 9) (j := 3) (i := 15) rfl _).trans (congrArg (qg_a _ _ _ _) (funext fun r6 => ?_))
  refine (dc_iload (a := 2) (i := 16) rfl rfl).trans ?_
  refine (dn_iald (t := 0) (i := 17) rfl _ _).trans (congrArg (qa_i _ _ _ _) (funext fun y7 => ?_))
  refine (dc_iload (a := 1) (i := 18) rfl rfl).trans ?_
  refine (dc_iload (a := 3) (i := 19) rfl rfl).trans ?_
  refine (dn_cS_i (i := 20) (y := 110) (na := 3) rfl (pa_3 _ _ _ _) (Nat.le_of_ble_eq_true rfl) (Nat.le_of_ble_eq_true rfl)).trans (congrArg (qr_i _) (funext fun y8 => funext fun hp3 => ?_))
  refine (dn_iast (i := 21) rfl _ _ _).trans (congrArg (qx_i _ _ _ _ _) (funext fun hp4 => ?_))
  exact dc_return (i := 22) rfl
theorem B113_0 {v0 : pO} {v1 : pO} {v2 : pO} {hp : pH} (h0 : pm_nl v0 = true) : dn pg 113 0 [v0, v1, v2] [] hp = dn pg 113 4 [v0, some (.int (nI 0)), some (.int (nI 0))] [] hp := by
  refine (dc_ic (x := 0) (i := 0) rfl).trans ?_
  refine (dn_istore (a := 1) (i := 1) rfl (pm_ok_nl (Nat.le_of_ble_eq_true rfl) rfl h0) _).trans ?_
  refine (dc_ic (x := 0) (i := 2) rfl).trans ?_
  refine (dn_istore (a := 2) (i := 3) rfl rfl _).trans ?_
  exact rfl
theorem B113_4 {o0 : Nat} {x1 : Int32} {x2 : Int32} {hp : pH} : dn pg 113 4 [some (.ref o0), some (.int x1), some (.int x2)] [] hp = if (nI 8) ≤ x2 then q_i (x1 / (nI 2)) hp else qg_a hp o0 9 3 (fun r1 => qa_i hp r1 0 x2 (fun y2 => qr_i (cl pg 114 [.int y2] hp) (fun y3 hp1 => dn pg 113 4 [some (.ref o0), some (.int (x1 + y3)), some (.int (x2 + nI 1))] [] hp1))) := by
  refine (dc_iload (a := 2) (i := 4) rfl rfl).trans ?_
  refine (dc_ic (x := 8) (i := 5) rfl).trans ?_
  refine (dn_icmp (c := (fun x y => decide (y ≤ x))) (t := 17) (i := 6) rfl _ _).trans (q_ite ?_ ?_)
  · refine (dc_iload (a := 1) (i := 17) rfl rfl).trans ?_
    refine (dc_ic (x := 2) (i := 18) rfl).trans ?_
    refine ((dn_div (f := (fun x y => x / y)) (i := 19) rfl _ _).trans (if_neg (by decide))).trans ?_
    exact dc_ireturn (i := 20) rfl _
  · refine (dc_iload (a := 1) (i := 7) rfl rfl).trans ?_
    refine (dc_aload (a := 0) (i := 8) rfl rfl).trans ?_
    refine (dn_getA (ci := 9) (j := 3) (i := 9) rfl _).trans (congrArg (qg_a _ _ _ _) (funext fun r1 => ?_))
    refine (dc_iload (a := 2) (i := 10) rfl rfl).trans ?_
    refine (dn_iald (t := 0) (i := 11) rfl _ _).trans (congrArg (qa_i _ _ _ _) (funext fun y2 => ?_))
    refine (dn_cS_i (i := 12) (y := 114) (na := 1) rfl (pa_1 _ _) (Nat.le_of_ble_eq_true rfl) (Nat.le_of_ble_eq_true rfl)).trans (congrArg (qr_i _) (funext fun y3 => funext fun hp1 => ?_))
    refine (dc_bin (f := (fun x y => x + y)) (i := 13) rfl _ _).trans ?_
    refine (dn_istore (a := 1) (i := 14) rfl rfl _).trans ?_
    refine (dn_iinc (a := 2) (d := 1) (i := 15) rfl rfl rfl).trans ?_
    refine (dc_goto (t := 4) (i := 16) rfl).trans ?_
    exact rfl
theorem B114_0 {x0 : Int32} {v1 : pO} {v2 : pO} {hp : pH} : dn pg 114 0 [some (.int x0), v1, v2] [] hp = dn pg 114 4 [some (.int x0), some (.int (nI 0)), some (.int x0)] [] hp := by
  refine (dc_ic (x := 0) (i := 0) rfl).trans ?_
  refine (dn_istore (a := 1) (i := 1) rfl rfl _).trans ?_
  refine (dc_iload (a := 0) (i := 2) rfl rfl).trans ?_
  refine (dn_istore (a := 2) (i := 3) rfl rfl _).trans ?_
  exact rfl
theorem B114_4 {v0 : pO} {x1 : Int32} {x2 : Int32} {hp : pH} (h0 : pm_nl v0 = true) : dn pg 114 4 [v0, some (.int x1), some (.int x2)] [] hp = if x2 = nI 0 then q_i x1 hp else dn pg 114 4 [v0, some (.int (x1 + nI 1)), some (.int (x2 &&& (x2 - (nI 1))))] [] hp := by
  refine (dc_iload (a := 2) (i := 4) rfl rfl).trans ?_
  refine (dn_if (c := (fun x => decide (x = 0))) (t := 14) (i := 5) rfl _).trans (q_ite ?_ ?_)
  · refine (dc_iload (a := 1) (i := 14) rfl rfl).trans ?_
    exact dc_ireturn (i := 15) rfl _
  · refine (dn_iinc (a := 1) (d := 1) (i := 6) rfl (pm_ok_nl (Nat.le_of_ble_eq_true rfl) rfl h0) rfl).trans ?_
    refine (dc_iload (a := 2) (i := 7) rfl rfl).trans ?_
    refine (dc_iload (a := 2) (i := 8) rfl rfl).trans ?_
    refine (dc_ic (x := 1) (i := 9) rfl).trans ?_
    refine (dc_bin (f := (fun x y => x - y)) (i := 10) rfl _ _).trans ?_
    refine (dc_bin (f := (fun x y => x &&& y)) (i := 11) rfl _ _).trans ?_
    refine (dn_istore (a := 2) (i := 12) rfl rfl _).trans ?_
    refine (dc_goto (t := 4) (i := 13) rfl).trans ?_
    exact rfl
theorem B115_0 {o0 : Nat} {x1 : Int32} {v2 : pO} {hp : pH} : dn pg 115 0 [some (.ref o0), some (.int x1), v2] [] hp = qr_i (cl pg 109 [.long x1.toInt64, .long (lN 0), .long (lN 99)] hp) (fun y1 hp1 => if ¬ y1 = nI 0 then qg_i hp1 o0 9 5 (fun y2 => qp_v hp1 o0 9 5 (.int x1) (fun hp2 => q_i y2 hp2)) else q_i (-2) hp1) := by
  refine (dc_iload (a := 1) (i := 0) rfl rfl).trans ?_
  refine (dc_i2l (i := 1) rfl _).trans ?_
  refine (dc_lc (x := 0) (i := 2) rfl).trans ?_
  refine (dc_lc (x := 99) (i := 3) rfl).trans ?_
  refine (dn_cS_i (i := 4) (y := 109) (na := 3) rfl (pa_3 _ _ _ _) (Nat.le_of_ble_eq_true rfl) (Nat.le_of_ble_eq_true rfl)).trans (congrArg (qr_i _) (funext fun y1 => funext fun hp1 => ?_))
  refine (dn_if (c := (fun x => decide (¬ x = 0))) (t := 8) (i := 5) rfl _).trans (q_ite ?_ ?_)
  · refine (dc_aload (a := 0) (i := 8) rfl rfl).trans ?_
    refine (dn_getI (ci := 9) (j := 5) (i := 9) rfl _).trans (congrArg (qg_i _ _ _ _) (funext fun y2 => ?_))
    refine (dn_istore (a := 2) (i := 10) rfl rfl _).trans ?_
    refine (dc_aload (a := 0) (i := 11) rfl rfl).trans ?_
    refine (dc_iload (a := 1) (i := 12) rfl rfl).trans ?_
    refine (dn_putI (ci := 9) (j := 5) (i := 13) rfl _ _).trans (congrArg (qp_v _ _ _ _ _) (funext fun hp2 => ?_))
    refine (dc_iload (a := 2) (i := 14) rfl rfl).trans ?_
    exact dc_ireturn (i := 15) rfl _
  · refine (dc_ic (x := (-2)) (i := 6) rfl).trans ?_
    exact dc_ireturn (i := 7) rfl _
theorem B116_0 {o0 : Nat} {x1 : Int32} {x2 : Int32} {x3 : Int32} {v4 : pO} {hp : pH} : dn pg 116 0 [some (.ref o0), some (.int x1), some (.int x2), some (.int x3), v4] [] hp = qr_i (cl pg 109 [.long x1.toInt64, .long (lN 0), .long (lN 5)] hp) (fun y1 hp1 => if ¬ y1 = nI 0 then qr_i (cl pg 109 [.long x2.toInt64, .long (lN 1), .long (lN 9)] hp1) (fun y2 hp2 => if y2 = nI 0 then dn pg 116 20 [some (.ref o0), some (.int x1), some (.int x2), some (.int x3), v4] [] hp2 else qr_i (cl pg 109 [.long x3.toInt64, .long (lN 0), .long (lN 99)] hp2) (fun y3 hp3 => if ¬ y3 = nI 0 then qg_a hp3 o0 9 7 (fun r4 => qa_i hp3 r4 0 x1 (fun y5 => qg_a hp3 o0 9 8 (fun r6 => qa_i hp3 r6 0 x1 (fun y7 => qg_a hp3 o0 9 7 (fun r8 => qx_i hp3 r8 0 x1 x2 (fun hp4 => qg_a hp4 o0 9 8 (fun r9 => qx_i hp4 r9 0 x1 x3 (fun hp5 => q_i (((nI 100) * y5) + y7) hp5)))))))) else dn pg 116 20 [some (.ref o0), some (.int x1), some (.int x2), some (.int x3), v4] [] hp3)) else q_i (-1) hp1) := by
  refine (dc_iload (a := 1) (i := 0) rfl rfl).trans ?_
  refine (dc_i2l (i := 1) rfl _).trans ?_
  refine (dc_lc (x := 0) (i := 2) rfl).trans ?_
  refine (dc_lc (x := 5) (i := 3) rfl).trans ?_
  refine (dn_cS_i (i := 4) (y := 109) (na := 3) rfl (pa_3 _ _ _ _) (Nat.le_of_ble_eq_true rfl) (Nat.le_of_ble_eq_true rfl)).trans (congrArg (qr_i _) (funext fun y1 => funext fun hp1 => ?_))
  refine (dn_if (c := (fun x => decide (¬ x = 0))) (t := 8) (i := 5) rfl _).trans (q_ite ?_ ?_)
  · refine (dc_iload (a := 2) (i := 8) rfl rfl).trans ?_
    refine (dc_i2l (i := 9) rfl _).trans ?_
    refine (dc_lc (x := 1) (i := 10) rfl).trans ?_
    refine (dc_lc (x := 9) (i := 11) rfl).trans ?_
    refine (dn_cS_i (i := 12) (y := 109) (na := 3) rfl (pa_3 _ _ _ _) (Nat.le_of_ble_eq_true rfl) (Nat.le_of_ble_eq_true rfl)).trans (congrArg (qr_i _) (funext fun y2 => funext fun hp2 => ?_))
    refine (dn_if (c := (fun x => decide (x = 0))) (t := 20) (i := 13) rfl _).trans (q_ite ?_ ?_)
    · exact rfl
    · refine (dc_iload (a := 3) (i := 14) rfl rfl).trans ?_
      refine (dc_i2l (i := 15) rfl _).trans ?_
      refine (dc_lc (x := 0) (i := 16) rfl).trans ?_
      refine (dc_lc (x := 99) (i := 17) rfl).trans ?_
      refine (dn_cS_i (i := 18) (y := 109) (na := 3) rfl (pa_3 _ _ _ _) (Nat.le_of_ble_eq_true rfl) (Nat.le_of_ble_eq_true rfl)).trans (congrArg (qr_i _) (funext fun y3 => funext fun hp3 => ?_))
      refine (dn_if (c := (fun x => decide (¬ x = 0))) (t := 22) (i := 19) rfl _).trans (q_ite ?_ ?_)
      · refine (dc_ic (x := 100) (i := 22) rfl).trans ?_
        refine (dc_aload (a := 0) (i := 23) rfl rfl).trans ?_
        refine (dn_getA (ci := 9) (j := 7) (i := 24) rfl _).trans (congrArg (qg_a _ _ _ _) (funext fun r4 => ?_))
        refine (dc_iload (a := 1) (i := 25) rfl rfl).trans ?_
        refine (dn_iald (t := 0) (i := 26) rfl _ _).trans (congrArg (qa_i _ _ _ _) (funext fun y5 => ?_))
        refine (dc_bin (f := (fun x y => x * y)) (i := 27) rfl _ _).trans ?_
        refine (dc_aload (a := 0) (i := 28) rfl rfl).trans ?_
        refine (dn_getA (ci := 9) (j := 8) (i := 29) rfl _).trans (congrArg (qg_a _ _ _ _) (funext fun r6 => ?_))
        refine (dc_iload (a := 1) (i := 30) rfl rfl).trans ?_
        refine (dn_iald (t := 0) (i := 31) rfl _ _).trans (congrArg (qa_i _ _ _ _) (funext fun y7 => ?_))
        refine (dc_bin (f := (fun x y => x + y)) (i := 32) rfl _ _).trans ?_
        refine (dn_istore (a := 4) (i := 33) rfl rfl _).trans ?_
        refine (dc_aload (a := 0) (i := 34) rfl rfl).trans ?_
        refine (dn_getA (ci := 9) (j := 7) (i := 35) rfl _).trans (congrArg (qg_a _ _ _ _) (funext fun r8 => ?_))
        refine (dc_iload (a := 1) (i := 36) rfl rfl).trans ?_
        refine (dc_iload (a := 2) (i := 37) rfl rfl).trans ?_
        refine (dn_iast (i := 38) rfl _ _ _).trans (congrArg (qx_i _ _ _ _ _) (funext fun hp4 => ?_))
        refine (dc_aload (a := 0) (i := 39) rfl rfl).trans ?_
        refine (dn_getA (ci := 9) (j := 8) (i := 40) rfl _).trans (congrArg (qg_a _ _ _ _) (funext fun r9 => ?_))
        refine (dc_iload (a := 1) (i := 41) rfl rfl).trans ?_
        refine (dc_iload (a := 3) (i := 42) rfl rfl).trans ?_
        refine (dn_iast (i := 43) rfl _ _ _).trans (congrArg (qx_i _ _ _ _ _) (funext fun hp5 => ?_))
        refine (dc_iload (a := 4) (i := 44) rfl rfl).trans ?_
        exact dc_ireturn (i := 45) rfl _
      · exact rfl
  · refine (dc_ic (x := (-1)) (i := 6) rfl).trans ?_
    exact dc_ireturn (i := 7) rfl _
theorem B116_20 {v0 : pO} {v1 : pO} {v2 : pO} {v3 : pO} {v4 : pO} {hp : pH} : dn pg 116 20 [v0, v1, v2, v3, v4] [] hp = q_i (-2) hp := by
  refine (dc_ic (x := (-2)) (i := 20) rfl).trans ?_
  exact dc_ireturn (i := 21) rfl _
theorem B117_0 {o0 : Nat} {x1 : Int32} {hp : pH} : dn pg 117 0 [some (.ref o0), some (.int x1)] [] hp = qr_i (cl pg 109 [.long x1.toInt64, .long (lN 33), .long (lN 126)] hp) (fun y1 hp1 => if ¬ y1 = nI 0 then qg_i hp1 o0 9 13 (fun y2 => if ¬ y2 = (nI 60) then qg_a hp1 o0 9 12 (fun r3 => qg_i hp1 o0 9 13 (fun y4 => qx_i hp1 r3 0 y4 x1 (fun hp2 => qg_i hp2 o0 9 13 (fun y5 => qp_v hp2 o0 9 13 (.int (y5 + (nI 1))) (fun hp3 => qg_i hp3 o0 9 13 (fun y6 => q_i y6 hp3)))))) else q_i (-4) hp1) else q_i (-2) hp1) := by
  refine (dc_iload (a := 1) (i := 0) rfl rfl).trans ?_
  refine (dc_i2l (i := 1) rfl _).trans ?_
  refine (dc_lc (x := 33) (i := 2) rfl).trans ?_
  refine (dc_lc (x := 126) (i := 3) rfl).trans ?_
  refine (dn_cS_i (i := 4) (y := 109) (na := 3) rfl (pa_3 _ _ _ _) (Nat.le_of_ble_eq_true rfl) (Nat.le_of_ble_eq_true rfl)).trans (congrArg (qr_i _) (funext fun y1 => funext fun hp1 => ?_))
  refine (dn_if (c := (fun x => decide (¬ x = 0))) (t := 8) (i := 5) rfl _).trans (q_ite ?_ ?_)
  · refine (dc_aload (a := 0) (i := 8) rfl rfl).trans ?_
    refine (dn_getI (ci := 9) (j := 13) (i := 9) rfl _).trans (congrArg (qg_i _ _ _ _) (funext fun y2 => ?_))
    refine (dc_ic (x := 60) (i := 10) rfl).trans ?_
    refine (dn_icmp (c := (fun x y => decide (¬ x = y))) (t := 14) (i := 11) rfl _ _).trans (q_ite ?_ ?_)
    · refine (dc_aload (a := 0) (i := 14) rfl rfl).trans ?_
      refine (dn_getA (ci := 9) (j := 12) (i := 15) rfl _).trans (congrArg (qg_a _ _ _ _) (funext fun r3 => ?_))
      refine (dc_aload (a := 0) (i := 16) rfl rfl).trans ?_
      refine (dn_getI (ci := 9) (j := 13) (i := 17) rfl _).trans (congrArg (qg_i _ _ _ _) (funext fun y4 => ?_))
      refine (dc_iload (a := 1) (i := 18) rfl rfl).trans ?_
      refine (dn_iast (i := 19) rfl _ _ _).trans (congrArg (qx_i _ _ _ _ _) (funext fun hp2 => ?_))
      refine (dc_aload (a := 0) (i := 20) rfl rfl).trans ?_
      refine (dc_dupA (i := 21) rfl _).trans ?_
      refine (dn_getI (ci := 9) (j := 13) (i := 22) rfl _).trans (congrArg (qg_i _ _ _ _) (funext fun y5 => ?_))
      refine (dc_ic (x := 1) (i := 23) rfl).trans ?_
      refine (dc_bin (f := (fun x y => x + y)) (i := 24) rfl _ _).trans ?_
      refine (dn_putI (ci := 9) (j := 13) (i := 25) rfl _ _).trans (congrArg (qp_v _ _ _ _ _) (funext fun hp3 => ?_))
      refine (dc_aload (a := 0) (i := 26) rfl rfl).trans ?_
      refine (dn_getI (ci := 9) (j := 13) (i := 27) rfl _).trans (congrArg (qg_i _ _ _ _) (funext fun y6 => ?_))
      exact dc_ireturn (i := 28) rfl _
    · refine (dc_ic (x := (-4)) (i := 12) rfl).trans ?_
      exact dc_ireturn (i := 13) rfl _
  · refine (dc_ic (x := (-2)) (i := 6) rfl).trans ?_
    exact dc_ireturn (i := 7) rfl _
theorem B118_0 {o0 : Nat} {v1 : pO} {hp : pH} : dn pg 118 0 [some (.ref o0), v1] [] hp = qg_i hp o0 9 13 (fun y1 => qp_v hp o0 9 13 (.int (nI 0)) (fun hp1 => q_i y1 hp1)) := by
  refine (dc_aload (a := 0) (i := 0) rfl rfl).trans ?_
  refine (dn_getI (ci := 9) (j := 13) (i := 1) rfl _).trans (congrArg (qg_i _ _ _ _) (funext fun y1 => ?_))
  refine (dn_istore (a := 1) (i := 2) rfl rfl _).trans ?_
  refine (dc_aload (a := 0) (i := 3) rfl rfl).trans ?_
  refine (dc_ic (x := 0) (i := 4) rfl).trans ?_
  refine (dn_putI (ci := 9) (j := 13) (i := 5) rfl _ _).trans (congrArg (qp_v _ _ _ _ _) (funext fun hp1 => ?_))
  refine (dc_iload (a := 1) (i := 6) rfl rfl).trans ?_
  exact dc_ireturn (i := 7) rfl _
theorem B119_0 {o0 : Nat} {v1 : pO} {v2 : pO} {hp : pH} : dn pg 119 0 [some (.ref o0), v1, v2] [] hp = qp_v hp o0 9 17 (.int (nI 0)) (fun hp1 => dn pg 119 7 [some (.ref o0), some (.int (nI 0)), some (.int (nI 0))] [] hp1) := by
  refine (dc_aload (a := 0) (i := 0) rfl rfl).trans ?_
  refine (dc_ic (x := 0) (i := 1) rfl).trans ?_
  refine (dn_putI (ci := 9) (j := 17) (i := 2) rfl _ _).trans (congrArg (qp_v _ _ _ _ _) (funext fun hp1 => ?_))
  refine (dc_ic (x := 0) (i := 3) rfl).trans ?_
  refine (dn_istore (a := 1) (i := 4) rfl rfl _).trans ?_
  refine (dc_ic (x := 0) (i := 5) rfl).trans ?_
  refine (dn_istore (a := 2) (i := 6) rfl rfl _).trans ?_
  exact rfl
theorem B119_7 {o0 : Nat} {x1 : Int32} {x2 : Int32} {hp : pH} : dn pg 119 7 [some (.ref o0), some (.int x1), some (.int x2)] [] hp = qg_i hp o0 9 13 (fun y1 => if y1 ≤ x2 then if ¬ x1 = nI 0 then qg_i hp o0 9 13 (fun y2 => dn pg 119 31 [some (.ref o0), some (.int x1), some (.int x2)] [.int y2] hp) else dn pg 119 31 [some (.ref o0), some (.int x1), some (.int x2)] [.int (-6)] hp else qg_a hp o0 9 12 (fun r3 => qa_i hp r3 0 x2 (fun y4 => qv hp o0 9 (qr_i (cl pg 120 [.ref o0, .int x1, .int y4] hp) (fun y5 hp1 => if nI 0 ≤ y5 then dn pg 119 7 [some (.ref o0), some (.int y5), some (.int (x2 + nI 1))] [] hp1 else q_i x2 hp1))))) := by
  refine (dc_iload (a := 2) (i := 7) rfl rfl).trans ?_
  refine (dc_aload (a := 0) (i := 8) rfl rfl).trans ?_
  refine (dn_getI (ci := 9) (j := 13) (i := 9) rfl _).trans (congrArg (qg_i _ _ _ _) (funext fun y1 => ?_))
  refine (dn_icmp (c := (fun x y => decide (y ≤ x))) (t := 25) (i := 10) rfl _ _).trans (q_ite ?_ ?_)
  · refine (dc_iload (a := 1) (i := 25) rfl rfl).trans ?_
    refine (dn_if (c := (fun x => decide (¬ x = 0))) (t := 29) (i := 26) rfl _).trans (q_ite ?_ ?_)
    · refine (dc_aload (a := 0) (i := 29) rfl rfl).trans ?_
      refine (dn_getI (ci := 9) (j := 13) (i := 30) rfl _).trans (congrArg (qg_i _ _ _ _) (funext fun y2 => ?_))
      exact rfl
    · refine (dc_ic (x := (-6)) (i := 27) rfl).trans ?_
      refine (dc_goto (t := 31) (i := 28) rfl).trans ?_
      exact rfl
  · refine (dc_aload (a := 0) (i := 11) rfl rfl).trans ?_
    refine (dc_iload (a := 1) (i := 12) rfl rfl).trans ?_
    refine (dc_aload (a := 0) (i := 13) rfl rfl).trans ?_
    refine (dn_getA (ci := 9) (j := 12) (i := 14) rfl _).trans (congrArg (qg_a _ _ _ _) (funext fun r3 => ?_))
    refine (dc_iload (a := 2) (i := 15) rfl rfl).trans ?_
    refine (dn_iald (t := 0) (i := 16) rfl _ _).trans (congrArg (qa_i _ _ _ _) (funext fun y4 => ?_))
    refine (dn_cV_i (i := 17) (y := 120) (na := 3) (ci := 9) rfl (pa_3 _ _ _ _) (Nat.le_of_ble_eq_true rfl) (Nat.le_of_ble_eq_true rfl)).trans (congrArg (fun F => qv _ _ _ (qr_i _ F)) (funext fun y5 => funext fun hp1 => ?_))
    refine (dn_istore (a := 1) (i := 18) rfl rfl _).trans ?_
    refine (dc_iload (a := 1) (i := 19) rfl rfl).trans ?_
    refine (dn_if (c := (fun x => decide (0 ≤ x))) (t := 23) (i := 20) rfl _).trans (q_ite ?_ ?_)
    · refine (dn_iinc (a := 2) (d := 1) (i := 23) rfl rfl rfl).trans ?_
      refine (dc_goto (t := 7) (i := 24) rfl).trans ?_
      exact rfl
    · refine (dc_iload (a := 2) (i := 21) rfl rfl).trans ?_
      exact dc_ireturn (i := 22) rfl _
theorem B119_31 {v0 : pO} {v1 : pO} {v2 : pO} {s0 : Int32} {hp : pH} : dn pg 119 31 [v0, v1, v2] [.int s0] hp = q_i s0 hp := by
  exact dc_ireturn (i := 31) rfl _
theorem B120_0 {o0 : Nat} {x1 : Int32} {x2 : Int32} {hp : pH} : dn pg 120 0 [some (.ref o0), some (.int x1), some (.int x2)] [] hp = if x1 = nI 0 then qv hp o0 9 (qr_i (cl pg 121 [.ref o0, .int x2] hp) (fun y1 hp1 => q_i y1 hp1)) else if x1 = nI 1 then qv hp o0 9 (qr_i (cl pg 124 [.ref o0, .int x2] hp) (fun y2 hp2 => q_i y2 hp2)) else if x1 = nI 4 then qr_i (cl pg 109 [.long x2.toInt64, .long (lN 49), .long (lN 57)] hp) (fun y3 hp3 => if y3 = nI 0 then dn pg 120 24 [some (.ref o0), some (.int x1), some (.int x2)] [.int (-6)] hp3 else qv hp3 o0 9 (qr_i (cl pg 123 [.ref o0, .int (nI 6), .int (x2 - (nI 48))] hp3) (fun y4 hp4 => dn pg 120 24 [some (.ref o0), some (.int x1), some (.int x2)] [.int y4] hp4))) else qr_i (cl pg 122 [.int x2] hp) (fun y5 hp5 => if y5 = nI 0 then dn pg 120 41 [some (.ref o0), some (.int x1), some (.int x2)] [.int (-6)] hp5 else if ¬ x1 = (nI 2) then dn pg 120 35 [some (.ref o0), some (.int x1), some (.int x2)] [.int (nI 3), .ref o0] hp5 else dn pg 120 35 [some (.ref o0), some (.int x1), some (.int x2)] [.int (nI 2), .ref o0] hp5) := by
  refine (dc_iload (a := 1) (i := 0) rfl rfl).trans ?_
  refine (dn_sw2 (d := 25) (l := [(0, 2), (1, 6), (4, 10)]) (i := 1) rfl _).trans ?_
  refine q_swc ?_ ?_
  · refine (dc_aload (a := 0) (i := 2) rfl rfl).trans ?_
    refine (dc_iload (a := 2) (i := 3) rfl rfl).trans ?_
    refine (dn_cV_i (i := 4) (y := 121) (na := 2) (ci := 9) rfl (pa_2 _ _ _) (Nat.le_of_ble_eq_true rfl) (Nat.le_of_ble_eq_true rfl)).trans (congrArg (fun F => qv _ _ _ (qr_i _ F)) (funext fun y1 => funext fun hp1 => ?_))
    exact dc_ireturn (i := 5) rfl _
  refine q_swc ?_ ?_
  · refine (dc_aload (a := 0) (i := 6) rfl rfl).trans ?_
    refine (dc_iload (a := 2) (i := 7) rfl rfl).trans ?_
    refine (dn_cV_i (i := 8) (y := 124) (na := 2) (ci := 9) rfl (pa_2 _ _ _) (Nat.le_of_ble_eq_true rfl) (Nat.le_of_ble_eq_true rfl)).trans (congrArg (fun F => qv _ _ _ (qr_i _ F)) (funext fun y2 => funext fun hp2 => ?_))
    exact dc_ireturn (i := 9) rfl _
  refine q_swc ?_ ?_
  · refine (dc_iload (a := 2) (i := 10) rfl rfl).trans ?_
    refine (dc_i2l (i := 11) rfl _).trans ?_
    refine (dc_lc (x := 49) (i := 12) rfl).trans ?_
    refine (dc_lc (x := 57) (i := 13) rfl).trans ?_
    refine (dn_cS_i (i := 14) (y := 109) (na := 3) rfl (pa_3 _ _ _ _) (Nat.le_of_ble_eq_true rfl) (Nat.le_of_ble_eq_true rfl)).trans (congrArg (qr_i _) (funext fun y3 => funext fun hp3 => ?_))
    refine (dn_if (c := (fun x => decide (x = 0))) (t := 23) (i := 15) rfl _).trans (q_ite ?_ ?_)
    · refine (dc_ic (x := (-6)) (i := 23) rfl).trans ?_
      exact rfl
    · refine (dc_aload (a := 0) (i := 16) rfl rfl).trans ?_
      refine (dc_ic (x := 6) (i := 17) rfl).trans ?_
      refine (dc_iload (a := 2) (i := 18) rfl rfl).trans ?_
      refine (dc_ic (x := 48) (i := 19) rfl).trans ?_
      refine (dc_bin (f := (fun x y => x - y)) (i := 20) rfl _ _).trans ?_
      refine (dn_cV_i (i := 21) (y := 123) (na := 3) (ci := 9) rfl (pa_3 _ _ _ _) (Nat.le_of_ble_eq_true rfl) (Nat.le_of_ble_eq_true rfl)).trans (congrArg (fun F => qv _ _ _ (qr_i _ F)) (funext fun y4 => funext fun hp4 => ?_))
      refine (dc_goto (t := 24) (i := 22) rfl).trans ?_
      exact rfl
  refine q_swn ?_
  refine (dc_iload (a := 2) (i := 25) rfl rfl).trans ?_
  refine (dn_cS_i (i := 26) (y := 122) (na := 1) rfl (pa_1 _ _) (Nat.le_of_ble_eq_true rfl) (Nat.le_of_ble_eq_true rfl)).trans (congrArg (qr_i _) (funext fun y5 => funext fun hp5 => ?_))
  refine (dn_if (c := (fun x => decide (x = 0))) (t := 40) (i := 27) rfl _).trans (q_ite ?_ ?_)
  · refine (dc_ic (x := (-6)) (i := 40) rfl).trans ?_
    exact rfl
  · refine (dc_aload (a := 0) (i := 28) rfl rfl).trans ?_
    refine (dc_iload (a := 1) (i := 29) rfl rfl).trans ?_
    refine (dc_ic (x := 2) (i := 30) rfl).trans ?_
    refine (dn_icmp (c := (fun x y => decide (¬ x = y))) (t := 34) (i := 31) rfl _ _).trans (q_ite ?_ ?_)
    · refine (dc_ic (x := 3) (i := 34) rfl).trans ?_
      exact rfl
    · refine (dc_ic (x := 2) (i := 32) rfl).trans ?_
      refine (dc_goto (t := 35) (i := 33) rfl).trans ?_
      exact rfl
theorem B120_24 {v0 : pO} {v1 : pO} {v2 : pO} {s0 : Int32} {hp : pH} : dn pg 120 24 [v0, v1, v2] [.int s0] hp = q_i s0 hp := by
  exact dc_ireturn (i := 24) rfl _
theorem B120_35 {v0 : pO} {v1 : pO} {x2 : Int32} {s0 : Int32} {s1 : Nat} {hp : pH} : dn pg 120 35 [v0, v1, some (.int x2)] [.int s0, .ref s1] hp = qv hp s1 9 (qr_i (cl pg 123 [.ref s1, .int s0, .int (x2 - (nI 65))] hp) (fun y1 hp1 => dn pg 120 41 [v0, v1, some (.int x2)] [.int y1] hp1)) := by
  refine (dc_iload (a := 2) (i := 35) rfl rfl).trans ?_
  refine (dc_ic (x := 65) (i := 36) rfl).trans ?_
  refine (dc_bin (f := (fun x y => x - y)) (i := 37) rfl _ _).trans ?_
  refine (dn_cV_i (i := 38) (y := 123) (na := 3) (ci := 9) rfl (pa_3 _ _ _ _) (Nat.le_of_ble_eq_true rfl) (Nat.le_of_ble_eq_true rfl)).trans (congrArg (fun F => qv _ _ _ (qr_i _ F)) (funext fun y1 => funext fun hp1 => ?_))
  refine (dc_goto (t := 41) (i := 39) rfl).trans ?_
  exact rfl
theorem B120_41 {v0 : pO} {v1 : pO} {v2 : pO} {s0 : Int32} {hp : pH} : dn pg 120 41 [v0, v1, v2] [.int s0] hp = q_i s0 hp := by
  exact dc_ireturn (i := 41) rfl _
theorem B121_0 {o0 : Nat} {x1 : Int32} {hp : pH} : dn pg 121 0 [some (.ref o0), some (.int x1)] [] hp = qg_a hp o0 9 15 (fun r1 => qg_i hp o0 9 17 (fun y2 => qr_i (cl pg 122 [.int x1] hp) (fun y3 hp1 => if y3 = nI 0 then dn pg 121 12 [some (.ref o0), some (.int x1)] [.int (nI 0), .int y2, .ref r1] hp1 else dn pg 121 12 [some (.ref o0), some (.int x1)] [.int (x1 - (nI 65)), .int y2, .ref r1] hp1))) := by
  refine (dc_aload (a := 0) (i := 0) rfl rfl).trans ?_
  refine (dn_getA (ci := 9) (j := 15) (i := 1) rfl _).trans (congrArg (qg_a _ _ _ _) (funext fun r1 => ?_))
  refine (dc_aload (a := 0) (i := 2) rfl rfl).trans ?_
  refine (dn_getI (ci := 9) (j := 17) (i := 3) rfl _).trans (congrArg (qg_i _ _ _ _) (funext fun y2 => ?_))
  refine (dc_iload (a := 1) (i := 4) rfl rfl).trans ?_
  refine (dn_cS_i (i := 5) (y := 122) (na := 1) rfl (pa_1 _ _) (Nat.le_of_ble_eq_true rfl) (Nat.le_of_ble_eq_true rfl)).trans (congrArg (qr_i _) (funext fun y3 => funext fun hp1 => ?_))
  refine (dn_if (c := (fun x => decide (x = 0))) (t := 11) (i := 6) rfl _).trans (q_ite ?_ ?_)
  · refine (dc_ic (x := 0) (i := 11) rfl).trans ?_
    exact rfl
  · refine (dc_iload (a := 1) (i := 7) rfl rfl).trans ?_
    refine (dc_ic (x := 65) (i := 8) rfl).trans ?_
    refine (dc_bin (f := (fun x y => x - y)) (i := 9) rfl _ _).trans ?_
    refine (dc_goto (t := 12) (i := 10) rfl).trans ?_
    exact rfl
theorem B121_12 {o0 : Nat} {x1 : Int32} {s0 : Int32} {s1 : Int32} {s2 : Nat} {hp : pH} : dn pg 121 12 [some (.ref o0), some (.int x1)] [.int s0, .int s1, .ref s2] hp = qx_i hp s2 0 s1 s0 (fun hp1 => qr_i (cl pg 122 [.int x1] hp1) (fun y1 hp2 => if y1 = nI 0 then if ¬ x1 = (nI 103) then if ¬ x1 = (nI 46) then dn pg 121 32 [some (.ref o0), some (.int x1)] [.int (-6)] hp2 else qv hp2 o0 9 (qr_i (cl pg 123 [.ref o0, .int (nI 7), .int (nI 0)] hp2) (fun y2 hp3 => dn pg 121 32 [some (.ref o0), some (.int x1)] [.int y2] hp3)) else dn pg 121 32 [some (.ref o0), some (.int x1)] [.int (nI 4)] hp2 else dn pg 121 32 [some (.ref o0), some (.int x1)] [.int (nI 1)] hp2)) := by
  refine (dn_iast (i := 12) rfl _ _ _).trans (congrArg (qx_i _ _ _ _ _) (funext fun hp1 => ?_))
  refine (dc_iload (a := 1) (i := 13) rfl rfl).trans ?_
  refine (dn_cS_i (i := 14) (y := 122) (na := 1) rfl (pa_1 _ _) (Nat.le_of_ble_eq_true rfl) (Nat.le_of_ble_eq_true rfl)).trans (congrArg (qr_i _) (funext fun y1 => funext fun hp2 => ?_))
  refine (dn_if (c := (fun x => decide (x = 0))) (t := 18) (i := 15) rfl _).trans (q_ite ?_ ?_)
  · refine (dc_iload (a := 1) (i := 18) rfl rfl).trans ?_
    refine (dc_ic (x := 103) (i := 19) rfl).trans ?_
    refine (dn_icmp (c := (fun x y => decide (¬ x = y))) (t := 23) (i := 20) rfl _ _).trans (q_ite ?_ ?_)
    · refine (dc_iload (a := 1) (i := 23) rfl rfl).trans ?_
      refine (dc_ic (x := 46) (i := 24) rfl).trans ?_
      refine (dn_icmp (c := (fun x y => decide (¬ x = y))) (t := 31) (i := 25) rfl _ _).trans (q_ite ?_ ?_)
      · refine (dc_ic (x := (-6)) (i := 31) rfl).trans ?_
        exact rfl
      · refine (dc_aload (a := 0) (i := 26) rfl rfl).trans ?_
        refine (dc_ic (x := 7) (i := 27) rfl).trans ?_
        refine (dc_ic (x := 0) (i := 28) rfl).trans ?_
        refine (dn_cV_i (i := 29) (y := 123) (na := 3) (ci := 9) rfl (pa_3 _ _ _ _) (Nat.le_of_ble_eq_true rfl) (Nat.le_of_ble_eq_true rfl)).trans (congrArg (fun F => qv _ _ _ (qr_i _ F)) (funext fun y2 => funext fun hp3 => ?_))
        refine (dc_goto (t := 32) (i := 30) rfl).trans ?_
        exact rfl
    · refine (dc_ic (x := 4) (i := 21) rfl).trans ?_
      refine (dc_goto (t := 32) (i := 22) rfl).trans ?_
      exact rfl
  · refine (dc_ic (x := 1) (i := 16) rfl).trans ?_
    refine (dc_goto (t := 32) (i := 17) rfl).trans ?_
    exact rfl
theorem B121_32 {v0 : pO} {v1 : pO} {s0 : Int32} {hp : pH} : dn pg 121 32 [v0, v1] [.int s0] hp = q_i s0 hp := by
  exact dc_ireturn (i := 32) rfl _
theorem B122_0 {x0 : Int32} {hp : pH} : dn pg 122 0 [some (.int x0)] [] hp = qr_i (cl pg 109 [.long x0.toInt64, .long (lN 65), .long (lN 72)] hp) (fun y1 hp1 => qz y1 (q_i y1 hp1)) := by
  refine (dc_iload (a := 0) (i := 0) rfl rfl).trans ?_
  refine (dc_i2l (i := 1) rfl _).trans ?_
  refine (dc_lc (x := 65) (i := 2) rfl).trans ?_
  refine (dc_lc (x := 72) (i := 3) rfl).trans ?_
  refine (dn_cS_i (i := 4) (y := 109) (na := 3) rfl (pa_3 _ _ _ _) (Nat.le_of_ble_eq_true rfl) (Nat.le_of_ble_eq_true rfl)).trans (congrArg (qr_i _) (funext fun y1 => funext fun hp1 => ?_))
  exact dn_zret (i := 5) rfl _
theorem B123_0 {o0 : Nat} {x1 : Int32} {x2 : Int32} {hp : pH} : dn pg 123 0 [some (.ref o0), some (.int x1), some (.int x2)] [] hp = qg_a hp o0 9 14 (fun r1 => qg_i hp o0 9 17 (fun y2 => qx_i hp r1 0 y2 x1 (fun hp1 => qg_a hp1 o0 9 16 (fun r3 => qg_i hp1 o0 9 17 (fun y4 => qx_i hp1 r3 0 y4 x2 (fun hp2 => qg_i hp2 o0 9 17 (fun y5 => qp_v hp2 o0 9 17 (.int (y5 + (nI 1))) (fun hp3 => q_i (nI 0) hp3)))))))) := by
  refine (dc_aload (a := 0) (i := 0) rfl rfl).trans ?_
  refine (dn_getA (ci := 9) (j := 14) (i := 1) rfl _).trans (congrArg (qg_a _ _ _ _) (funext fun r1 => ?_))
  refine (dc_aload (a := 0) (i := 2) rfl rfl).trans ?_
  refine (dn_getI (ci := 9) (j := 17) (i := 3) rfl _).trans (congrArg (qg_i _ _ _ _) (funext fun y2 => ?_))
  refine (dc_iload (a := 1) (i := 4) rfl rfl).trans ?_
  refine (dn_iast (i := 5) rfl _ _ _).trans (congrArg (qx_i _ _ _ _ _) (funext fun hp1 => ?_))
  refine (dc_aload (a := 0) (i := 6) rfl rfl).trans ?_
  refine (dn_getA (ci := 9) (j := 16) (i := 7) rfl _).trans (congrArg (qg_a _ _ _ _) (funext fun r3 => ?_))
  refine (dc_aload (a := 0) (i := 8) rfl rfl).trans ?_
  refine (dn_getI (ci := 9) (j := 17) (i := 9) rfl _).trans (congrArg (qg_i _ _ _ _) (funext fun y4 => ?_))
  refine (dc_iload (a := 2) (i := 10) rfl rfl).trans ?_
  refine (dn_iast (i := 11) rfl _ _ _).trans (congrArg (qx_i _ _ _ _ _) (funext fun hp2 => ?_))
  refine (dc_aload (a := 0) (i := 12) rfl rfl).trans ?_
  refine (dc_dupA (i := 13) rfl _).trans ?_
  refine (dn_getI (ci := 9) (j := 17) (i := 14) rfl _).trans (congrArg (qg_i _ _ _ _) (funext fun y5 => ?_))
  refine (dc_ic (x := 1) (i := 15) rfl).trans ?_
  refine (dc_bin (f := (fun x y => x + y)) (i := 16) rfl _ _).trans ?_
  refine (dn_putI (ci := 9) (j := 17) (i := 17) rfl _ _).trans (congrArg (qp_v _ _ _ _ _) (funext fun hp3 => ?_))
  refine (dc_ic (x := 0) (i := 18) rfl).trans ?_
  exact dc_ireturn (i := 19) rfl _
theorem B124_0 {o0 : Nat} {x1 : Int32} {hp : pH} : dn pg 124 0 [some (.ref o0), some (.int x1)] [] hp = if x1 = nI 37 then qv hp o0 9 (qr_i (cl pg 123 [.ref o0, .int (nI 5), .int (nI 0)] hp) (fun y1 hp1 => q_i y1 hp1)) else if x1 = nI 47 then qv hp o0 9 (qr_i (cl pg 123 [.ref o0, .int (nI 4), .int (nI 0)] hp) (fun y2 hp2 => q_i y2 hp2)) else if x1 = nI 94 then qv hp o0 9 (qr_i (cl pg 123 [.ref o0, .int (nI 1), .int (nI 0)] hp) (fun y3 hp3 => q_i y3 hp3)) else if x1 = nI 95 then qv hp o0 9 (qr_i (cl pg 123 [.ref o0, .int (nI 0), .int (nI 0)] hp) (fun y4 hp4 => q_i y4 hp4)) else if x1 = nI 120 then q_i (nI 2) hp else if x1 = nI 126 then q_i (nI 3) hp else q_i (-6) hp := by
  refine (dc_iload (a := 1) (i := 0) rfl rfl).trans ?_
  refine (dn_sw2 (d := 26) (l := [(37, 17), (47, 12), (94, 7), (95, 2), (120, 22), (126, 24)]) (i := 1) rfl _).trans ?_
  refine q_swc ?_ ?_
  · refine (dc_aload (a := 0) (i := 17) rfl rfl).trans ?_
    refine (dc_ic (x := 5) (i := 18) rfl).trans ?_
    refine (dc_ic (x := 0) (i := 19) rfl).trans ?_
    refine (dn_cV_i (i := 20) (y := 123) (na := 3) (ci := 9) rfl (pa_3 _ _ _ _) (Nat.le_of_ble_eq_true rfl) (Nat.le_of_ble_eq_true rfl)).trans (congrArg (fun F => qv _ _ _ (qr_i _ F)) (funext fun y1 => funext fun hp1 => ?_))
    exact dc_ireturn (i := 21) rfl _
  refine q_swc ?_ ?_
  · refine (dc_aload (a := 0) (i := 12) rfl rfl).trans ?_
    refine (dc_ic (x := 4) (i := 13) rfl).trans ?_
    refine (dc_ic (x := 0) (i := 14) rfl).trans ?_
    refine (dn_cV_i (i := 15) (y := 123) (na := 3) (ci := 9) rfl (pa_3 _ _ _ _) (Nat.le_of_ble_eq_true rfl) (Nat.le_of_ble_eq_true rfl)).trans (congrArg (fun F => qv _ _ _ (qr_i _ F)) (funext fun y2 => funext fun hp2 => ?_))
    exact dc_ireturn (i := 16) rfl _
  refine q_swc ?_ ?_
  · refine (dc_aload (a := 0) (i := 7) rfl rfl).trans ?_
    refine (dc_ic (x := 1) (i := 8) rfl).trans ?_
    refine (dc_ic (x := 0) (i := 9) rfl).trans ?_
    refine (dn_cV_i (i := 10) (y := 123) (na := 3) (ci := 9) rfl (pa_3 _ _ _ _) (Nat.le_of_ble_eq_true rfl) (Nat.le_of_ble_eq_true rfl)).trans (congrArg (fun F => qv _ _ _ (qr_i _ F)) (funext fun y3 => funext fun hp3 => ?_))
    exact dc_ireturn (i := 11) rfl _
  refine q_swc ?_ ?_
  · refine (dc_aload (a := 0) (i := 2) rfl rfl).trans ?_
    refine (dc_ic (x := 0) (i := 3) rfl).trans ?_
    refine (dc_ic (x := 0) (i := 4) rfl).trans ?_
    refine (dn_cV_i (i := 5) (y := 123) (na := 3) (ci := 9) rfl (pa_3 _ _ _ _) (Nat.le_of_ble_eq_true rfl) (Nat.le_of_ble_eq_true rfl)).trans (congrArg (fun F => qv _ _ _ (qr_i _ F)) (funext fun y4 => funext fun hp4 => ?_))
    exact dc_ireturn (i := 6) rfl _
  refine q_swc ?_ ?_
  · refine (dc_ic (x := 2) (i := 22) rfl).trans ?_
    exact dc_ireturn (i := 23) rfl _
  refine q_swc ?_ ?_
  · refine (dc_ic (x := 3) (i := 24) rfl).trans ?_
    exact dc_ireturn (i := 25) rfl _
  refine q_swn ?_
  refine (dc_ic (x := (-6)) (i := 26) rfl).trans ?_
  exact dc_ireturn (i := 27) rfl _
theorem B125_0 {o0 : Nat} {x1 : Int32} {v2 : pO} {hp : pH} : dn pg 125 0 [some (.ref o0), some (.int x1), v2] [] hp = qr_i (cl pg 109 [.long x1.toInt64, .long (lN 0), .long (lN 2)] hp) (fun y1 hp1 => if ¬ y1 = nI 0 then qv hp1 o0 9 (qr_i (cl pg 126 [.ref o0] hp1) (fun y2 hp2 => qv hp2 o0 9 (qr_i (cl pg 139 [.ref o0, .int y2] hp2) (fun y3 hp3 => if y3 = (-5) then dn pg 125 22 [some (.ref o0), some (.int x1), some (.int y3)] [] hp3 else if x1 ≤ (nI 1) then dn pg 125 24 [some (.ref o0), some (.int x1), some (.int y3)] [] hp3 else if ¬ y3 = (-3) then dn pg 125 24 [some (.ref o0), some (.int x1), some (.int y3)] [] hp3 else dn pg 125 22 [some (.ref o0), some (.int x1), some (.int y3)] [] hp3)))) else q_i (-2) hp1) := by
  refine (dc_iload (a := 1) (i := 0) rfl rfl).trans ?_
  refine (dc_i2l (i := 1) rfl _).trans ?_
  refine (dc_lc (x := 0) (i := 2) rfl).trans ?_
  refine (dc_lc (x := 2) (i := 3) rfl).trans ?_
  refine (dn_cS_i (i := 4) (y := 109) (na := 3) rfl (pa_3 _ _ _ _) (Nat.le_of_ble_eq_true rfl) (Nat.le_of_ble_eq_true rfl)).trans (congrArg (qr_i _) (funext fun y1 => funext fun hp1 => ?_))
  refine (dn_if (c := (fun x => decide (¬ x = 0))) (t := 8) (i := 5) rfl _).trans (q_ite ?_ ?_)
  · refine (dc_aload (a := 0) (i := 8) rfl rfl).trans ?_
    refine (dc_aload (a := 0) (i := 9) rfl rfl).trans ?_
    refine (dn_cV_i (i := 10) (y := 126) (na := 1) (ci := 9) rfl (pa_1 _ _) (Nat.le_of_ble_eq_true rfl) (Nat.le_of_ble_eq_true rfl)).trans (congrArg (fun F => qv _ _ _ (qr_i _ F)) (funext fun y2 => funext fun hp2 => ?_))
    refine (dn_cV_i (i := 11) (y := 139) (na := 2) (ci := 9) rfl (pa_2 _ _ _) (Nat.le_of_ble_eq_true rfl) (Nat.le_of_ble_eq_true rfl)).trans (congrArg (fun F => qv _ _ _ (qr_i _ F)) (funext fun y3 => funext fun hp3 => ?_))
    refine (dn_istore (a := 2) (i := 12) rfl rfl _).trans ?_
    refine (dc_iload (a := 2) (i := 13) rfl rfl).trans ?_
    refine (dc_ic (x := (-5)) (i := 14) rfl).trans ?_
    refine (dn_icmp (c := (fun x y => decide (x = y))) (t := 22) (i := 15) rfl _ _).trans (q_ite ?_ ?_)
    · exact rfl
    · refine (dc_iload (a := 1) (i := 16) rfl rfl).trans ?_
      refine (dc_ic (x := 1) (i := 17) rfl).trans ?_
      refine (dn_icmp (c := (fun x y => decide (x ≤ y))) (t := 24) (i := 18) rfl _ _).trans (q_ite ?_ ?_)
      · exact rfl
      · refine (dc_iload (a := 2) (i := 19) rfl rfl).trans ?_
        refine (dc_ic (x := (-3)) (i := 20) rfl).trans ?_
        refine (dn_icmp (c := (fun x y => decide (¬ x = y))) (t := 24) (i := 21) rfl _ _).trans (q_ite ?_ ?_)
        · exact rfl
        · exact rfl
  · refine (dc_ic (x := (-2)) (i := 6) rfl).trans ?_
    exact dc_ireturn (i := 7) rfl _
theorem B125_22 {v0 : pO} {v1 : pO} {x2 : Int32} {hp : pH} : dn pg 125 22 [v0, v1, some (.int x2)] [] hp = q_i x2 hp := by
  refine (dc_iload (a := 2) (i := 22) rfl rfl).trans ?_
  exact dc_ireturn (i := 23) rfl _
theorem B125_24 {o0 : Nat} {x1 : Int32} {v2 : pO} {hp : pH} : dn pg 125 24 [some (.ref o0), some (.int x1), v2] [] hp = if ¬ x1 = nI 0 then if ¬ x1 = (nI 1) then qg_i hp o0 9 22 (fun y1 => dn pg 125 37 [some (.ref o0), some (.int x1), v2] [.int y1] hp) else qg_i hp o0 9 21 (fun y2 => dn pg 125 37 [some (.ref o0), some (.int x1), v2] [.int y2] hp) else qg_i hp o0 9 20 (fun y3 => dn pg 125 37 [some (.ref o0), some (.int x1), v2] [.int y3] hp) := by
  refine (dc_iload (a := 1) (i := 24) rfl rfl).trans ?_
  refine (dn_if (c := (fun x => decide (¬ x = 0))) (t := 29) (i := 25) rfl _).trans (q_ite ?_ ?_)
  · refine (dc_iload (a := 1) (i := 29) rfl rfl).trans ?_
    refine (dc_ic (x := 1) (i := 30) rfl).trans ?_
    refine (dn_icmp (c := (fun x y => decide (¬ x = y))) (t := 35) (i := 31) rfl _ _).trans (q_ite ?_ ?_)
    · refine (dc_aload (a := 0) (i := 35) rfl rfl).trans ?_
      refine (dn_getI (ci := 9) (j := 22) (i := 36) rfl _).trans (congrArg (qg_i _ _ _ _) (funext fun y1 => ?_))
      exact rfl
    · refine (dc_aload (a := 0) (i := 32) rfl rfl).trans ?_
      refine (dn_getI (ci := 9) (j := 21) (i := 33) rfl _).trans (congrArg (qg_i _ _ _ _) (funext fun y2 => ?_))
      refine (dc_goto (t := 37) (i := 34) rfl).trans ?_
      exact rfl
  · refine (dc_aload (a := 0) (i := 26) rfl rfl).trans ?_
    refine (dn_getI (ci := 9) (j := 20) (i := 27) rfl _).trans (congrArg (qg_i _ _ _ _) (funext fun y3 => ?_))
    refine (dc_goto (t := 37) (i := 28) rfl).trans ?_
    exact rfl
theorem B125_37 {v0 : pO} {v1 : pO} {v2 : pO} {s0 : Int32} {hp : pH} : dn pg 125 37 [v0, v1, v2] [.int s0] hp = q_i s0 hp := by
  exact dc_ireturn (i := 37) rfl _
theorem B126_0 {o0 : Nat} {hp : pH} : dn pg 126 0 [some (.ref o0)] [] hp = qv hp o0 9 (qr_v (cl pg 127 [.ref o0] hp) (fun hp1 => qv hp1 o0 9 (qr_i (cl pg 119 [.ref o0] hp1) (fun y1 hp2 => if y1 < nI 0 then qv hp2 o0 9 (qr_v (cl pg 128 [.ref o0] hp2) (fun hp3 => qg_i hp3 o0 9 20 (fun y2 => if y2 < nI 0 then dn pg 126 15 [some (.ref o0)] [.int (-6)] hp3 else dn pg 126 15 [some (.ref o0)] [.int (-3)] hp3))) else q_i (-5) hp2)))) := by
  refine (dc_aload (a := 0) (i := 0) rfl rfl).trans ?_
  refine (dn_cV_v (i := 1) (y := 127) (na := 1) (ci := 9) rfl (pa_1 _ _) (Nat.le_of_ble_eq_true rfl) (Nat.le_of_ble_eq_true rfl)).trans (congrArg (fun F => qv _ _ _ (qr_v _ F)) (funext fun hp1 => ?_))
  refine (dc_aload (a := 0) (i := 2) rfl rfl).trans ?_
  refine (dn_cV_i (i := 3) (y := 119) (na := 1) (ci := 9) rfl (pa_1 _ _) (Nat.le_of_ble_eq_true rfl) (Nat.le_of_ble_eq_true rfl)).trans (congrArg (fun F => qv _ _ _ (qr_i _ F)) (funext fun y1 => funext fun hp2 => ?_))
  refine (dn_if (c := (fun x => decide (x < 0))) (t := 7) (i := 4) rfl _).trans (q_ite ?_ ?_)
  · refine (dc_aload (a := 0) (i := 7) rfl rfl).trans ?_
    refine (dn_cV_v (i := 8) (y := 128) (na := 1) (ci := 9) rfl (pa_1 _ _) (Nat.le_of_ble_eq_true rfl) (Nat.le_of_ble_eq_true rfl)).trans (congrArg (fun F => qv _ _ _ (qr_v _ F)) (funext fun hp3 => ?_))
    refine (dc_aload (a := 0) (i := 9) rfl rfl).trans ?_
    refine (dn_getI (ci := 9) (j := 20) (i := 10) rfl _).trans (congrArg (qg_i _ _ _ _) (funext fun y2 => ?_))
    refine (dn_if (c := (fun x => decide (x < 0))) (t := 14) (i := 11) rfl _).trans (q_ite ?_ ?_)
    · refine (dc_ic (x := (-6)) (i := 14) rfl).trans ?_
      exact rfl
    · refine (dc_ic (x := (-3)) (i := 12) rfl).trans ?_
      refine (dc_goto (t := 15) (i := 13) rfl).trans ?_
      exact rfl
  · refine (dc_ic (x := (-5)) (i := 5) rfl).trans ?_
    exact dc_ireturn (i := 6) rfl _
theorem B126_15 {v0 : pO} {s0 : Int32} {hp : pH} : dn pg 126 15 [v0] [.int s0] hp = q_i s0 hp := by
  exact dc_ireturn (i := 15) rfl _
theorem B127_0 {v0 : pO} {v1 : pO} {hp : pH} (h0 : pm_nl v0 = true) : dn pg 127 0 [v0, v1] [] hp = dn pg 127 2 [v0, some (.int (nI 0))] [] hp := by
  refine (dc_ic (x := 0) (i := 0) rfl).trans ?_
  refine (dn_istore (a := 1) (i := 1) rfl (pm_ok_nl (Nat.le_of_ble_eq_true rfl) rfl h0) _).trans ?_
  exact rfl
theorem B127_2 {o0 : Nat} {x1 : Int32} {hp : pH} : dn pg 127 2 [some (.ref o0), some (.int x1)] [] hp = if (nI 8) ≤ x1 then qg_a hp o0 9 19 (fun r1 => qg_i hp o0 9 4 (fun y2 => qx_i hp r1 0 (nI 24) y2 (fun hp1 => qg_a hp1 o0 9 19 (fun r3 => qg_i hp1 o0 9 5 (fun y4 => qx_i hp1 r3 0 (nI 25) y4 (fun hp2 => qg_a hp2 o0 9 19 (fun r5 => qg_i hp2 o0 9 6 (fun y6 => qx_i hp2 r5 0 (nI 26) y6 (fun hp3 => q_v hp3))))))))) else qg_a hp o0 9 19 (fun r7 => qg_a hp o0 9 0 (fun r8 => qa_i hp r8 0 x1 (fun y9 => qx_i hp r7 0 x1 y9 (fun hp4 => qg_a hp4 o0 9 19 (fun r10 => qg_a hp4 o0 9 2 (fun r11 => qa_i hp4 r11 0 x1 (fun y12 => qx_i hp4 r10 0 ((nI 8) + x1) y12 (fun hp5 => qg_a hp5 o0 9 19 (fun r13 => qg_a hp5 o0 9 3 (fun r14 => qa_i hp5 r14 0 x1 (fun y15 => qx_i hp5 r13 0 ((nI 16) + x1) y15 (fun hp6 => dn pg 127 2 [some (.ref o0), some (.int (x1 + nI 1))] [] hp6)))))))))))) := by
  refine (dc_iload (a := 1) (i := 2) rfl rfl).trans ?_
  refine (dc_ic (x := 8) (i := 3) rfl).trans ?_
  refine (dn_icmp (c := (fun x y => decide (y ≤ x))) (t := 35) (i := 4) rfl _ _).trans (q_ite ?_ ?_)
  · refine (dc_aload (a := 0) (i := 35) rfl rfl).trans ?_
    refine (dn_getA (ci := 9) (j := 19) (i := 36) rfl _).trans (congrArg (qg_a _ _ _ _) (funext fun r1 => ?_))
    refine (dc_ic (x := 24) (i := 37) rfl).trans ?_
    refine (dc_aload (a := 0) (i := 38) rfl rfl).trans ?_
    refine (dn_getI (ci := 9) (j := 4) (i := 39) rfl _).trans (congrArg (qg_i _ _ _ _) (funext fun y2 => ?_))
    refine (dn_iast (i := 40) rfl _ _ _).trans (congrArg (qx_i _ _ _ _ _) (funext fun hp1 => ?_))
    refine (dc_aload (a := 0) (i := 41) rfl rfl).trans ?_
    refine (dn_getA (ci := 9) (j := 19) (i := 42) rfl _).trans (congrArg (qg_a _ _ _ _) (funext fun r3 => ?_))
    refine (dc_ic (x := 25) (i := 43) rfl).trans ?_
    refine (dc_aload (a := 0) (i := 44) rfl rfl).trans ?_
    refine (dn_getI (ci := 9) (j := 5) (i := 45) rfl _).trans (congrArg (qg_i _ _ _ _) (funext fun y4 => ?_))
    refine (dn_iast (i := 46) rfl _ _ _).trans (congrArg (qx_i _ _ _ _ _) (funext fun hp2 => ?_))
    refine (dc_aload (a := 0) (i := 47) rfl rfl).trans ?_
    refine (dn_getA (ci := 9) (j := 19) (i := 48) rfl _).trans (congrArg (qg_a _ _ _ _) (funext fun r5 => ?_))
    refine (dc_ic (x := 26) (i := 49) rfl).trans ?_
    refine (dc_aload (a := 0) (i := 50) rfl rfl).trans ?_
    refine (dn_getI (ci := 9) (j := 6) (i := 51) rfl _).trans (congrArg (qg_i _ _ _ _) (funext fun y6 => ?_))
    refine (dn_iast (i := 52) rfl _ _ _).trans (congrArg (qx_i _ _ _ _ _) (funext fun hp3 => ?_))
    exact dc_return (i := 53) rfl
  · refine (dc_aload (a := 0) (i := 5) rfl rfl).trans ?_
    refine (dn_getA (ci := 9) (j := 19) (i := 6) rfl _).trans (congrArg (qg_a _ _ _ _) (funext fun r7 => ?_))
    refine (dc_iload (a := 1) (i := 7) rfl rfl).trans ?_
    refine (dc_aload (a := 0) (i := 8) rfl rfl).trans ?_
    refine (dn_getA (ci := 9) (j := 0) (i := 9) rfl _).trans (congrArg (qg_a _ _ _ _) (funext fun r8 => ?_))
    refine (dc_iload (a := 1) (i := 10) rfl rfl).trans ?_
    refine (dn_iald (t := 0) (i := 11) rfl _ _).trans (congrArg (qa_i _ _ _ _) (funext fun y9 => ?_))
    refine (dn_iast (i := 12) rfl _ _ _).trans (congrArg (qx_i _ _ _ _ _) (funext fun hp4 => ?_))
    refine (dc_aload (a := 0) (i := 13) rfl rfl).trans ?_
    refine (dn_getA (ci := 9) (j := 19) (i := 14) rfl _).trans (congrArg (qg_a _ _ _ _) (funext fun r10 => ?_))
    refine (dc_ic (x := 8) (i := 15) rfl).trans ?_
    refine (dc_iload (a := 1) (i := 16) rfl rfl).trans ?_
    refine (dc_bin (f := (fun x y => x + y)) (i := 17) rfl _ _).trans ?_
    refine (dc_aload (a := 0) (i := 18) rfl rfl).trans ?_
    refine (dn_getA (ci := 9) (j := 2) (i := 19) rfl _).trans (congrArg (qg_a _ _ _ _) (funext fun r11 => ?_))
    refine (dc_iload (a := 1) (i := 20) rfl rfl).trans ?_
    refine (dn_iald (t := 0) (i := 21) rfl _ _).trans (congrArg (qa_i _ _ _ _) (funext fun y12 => ?_))
    refine (dn_iast (i := 22) rfl _ _ _).trans (congrArg (qx_i _ _ _ _ _) (funext fun hp5 => ?_))
    refine (dc_aload (a := 0) (i := 23) rfl rfl).trans ?_
    refine (dn_getA (ci := 9) (j := 19) (i := 24) rfl _).trans (congrArg (qg_a _ _ _ _) (funext fun r13 => ?_))
    refine (dc_ic (x := 16) (i := 25) rfl).trans ?_
    refine (dc_iload (a := 1) (i := 26) rfl rfl).trans ?_
    refine (dc_bin (f := (fun x y => x + y)) (i := 27) rfl _ _).trans ?_
    refine (dc_aload (a := 0) (i := 28) rfl rfl).trans ?_
    refine (dn_getA (ci := 9) (j := 3) (i := 29) rfl _).trans (congrArg (qg_a _ _ _ _) (funext fun r14 => ?_))
    refine (dc_iload (a := 1) (i := 30) rfl rfl).trans ?_
    refine (dn_iald (t := 0) (i := 31) rfl _ _).trans (congrArg (qa_i _ _ _ _) (funext fun y15 => ?_))
    refine (dn_iast (i := 32) rfl _ _ _).trans (congrArg (qx_i _ _ _ _ _) (funext fun hp6 => ?_))
    refine (dn_iinc (a := 1) (d := 1) (i := 33) rfl rfl rfl).trans ?_
    refine (dc_goto (t := 2) (i := 34) rfl).trans ?_
    exact rfl
theorem B128_0 {o0 : Nat} {v1 : pO} {v2 : pO} {hp : pH} : dn pg 128 0 [some (.ref o0), v1, v2] [] hp = qp_v hp o0 9 20 (.int (-6)) (fun hp1 => qp_v hp1 o0 9 21 (.int (-6)) (fun hp2 => qp_v hp2 o0 9 22 (.int (nI 0)) (fun hp3 => qp_v hp3 o0 9 23 (.int (-6)) (fun hp4 => qp_v hp4 o0 9 24 (.int (-6)) (fun hp5 => dn pg 128 17 [some (.ref o0), some (.int (nI 0)), v2] [] hp5))))) := by
  refine (dc_aload (a := 0) (i := 0) rfl rfl).trans ?_
  refine (dc_ic (x := (-6)) (i := 1) rfl).trans ?_
  refine (dn_putI (ci := 9) (j := 20) (i := 2) rfl _ _).trans (congrArg (qp_v _ _ _ _ _) (funext fun hp1 => ?_))
  refine (dc_aload (a := 0) (i := 3) rfl rfl).trans ?_
  refine (dc_ic (x := (-6)) (i := 4) rfl).trans ?_
  refine (dn_putI (ci := 9) (j := 21) (i := 5) rfl _ _).trans (congrArg (qp_v _ _ _ _ _) (funext fun hp2 => ?_))
  refine (dc_aload (a := 0) (i := 6) rfl rfl).trans ?_
  refine (dc_ic (x := 0) (i := 7) rfl).trans ?_
  refine (dn_putI (ci := 9) (j := 22) (i := 8) rfl _ _).trans (congrArg (qp_v _ _ _ _ _) (funext fun hp3 => ?_))
  refine (dc_aload (a := 0) (i := 9) rfl rfl).trans ?_
  refine (dc_ic (x := (-6)) (i := 10) rfl).trans ?_
  refine (dn_putI (ci := 9) (j := 23) (i := 11) rfl _ _).trans (congrArg (qp_v _ _ _ _ _) (funext fun hp4 => ?_))
  refine (dc_aload (a := 0) (i := 12) rfl rfl).trans ?_
  refine (dc_ic (x := (-6)) (i := 13) rfl).trans ?_
  refine (dn_putI (ci := 9) (j := 24) (i := 14) rfl _ _).trans (congrArg (qp_v _ _ _ _ _) (funext fun hp5 => ?_))
  refine (dc_ic (x := 0) (i := 15) rfl).trans ?_
  refine (dn_istore (a := 1) (i := 16) rfl rfl _).trans ?_
  exact rfl
theorem B128_17 {o0 : Nat} {x1 : Int32} {v2 : pO} {hp : pH} : dn pg 128 17 [some (.ref o0), some (.int x1), v2] [] hp = qg_i hp o0 9 17 (fun y1 => if y1 ≤ x1 then dn pg 128 60 [some (.ref o0), some (.int x1), v2] [] hp else qg_i hp o0 9 20 (fun y2 => if nI 0 ≤ y2 then dn pg 128 60 [some (.ref o0), some (.int x1), v2] [] hp else qg_a hp o0 9 14 (fun r3 => qa_i hp r3 0 x1 (fun y4 => qg_a hp o0 9 15 (fun r5 => qa_i hp r5 0 x1 (fun y6 => qg_a hp o0 9 16 (fun r7 => qa_i hp r7 0 x1 (fun y8 => qv hp o0 9 (qr_i (cl pg 129 [.ref o0, .int y4, .int y6, .int y8] hp) (fun y9 hp1 => if y9 ≤ nI 0 then dn pg 128 45 [some (.ref o0), some (.int x1), some (.int y9)] [.int (-6), .ref o0] hp1 else dn pg 128 45 [some (.ref o0), some (.int x1), some (.int y9)] [.int x1, .ref o0] hp1)))))))))) := by
  refine (dc_iload (a := 1) (i := 17) rfl rfl).trans ?_
  refine (dc_aload (a := 0) (i := 18) rfl rfl).trans ?_
  refine (dn_getI (ci := 9) (j := 17) (i := 19) rfl _).trans (congrArg (qg_i _ _ _ _) (funext fun y1 => ?_))
  refine (dn_icmp (c := (fun x y => decide (y ≤ x))) (t := 60) (i := 20) rfl _ _).trans (q_ite ?_ ?_)
  · exact rfl
  · refine (dc_aload (a := 0) (i := 21) rfl rfl).trans ?_
    refine (dn_getI (ci := 9) (j := 20) (i := 22) rfl _).trans (congrArg (qg_i _ _ _ _) (funext fun y2 => ?_))
    refine (dn_if (c := (fun x => decide (0 ≤ x))) (t := 60) (i := 23) rfl _).trans (q_ite ?_ ?_)
    · exact rfl
    · refine (dc_aload (a := 0) (i := 24) rfl rfl).trans ?_
      refine (dc_aload (a := 0) (i := 25) rfl rfl).trans ?_
      refine (dn_getA (ci := 9) (j := 14) (i := 26) rfl _).trans (congrArg (qg_a _ _ _ _) (funext fun r3 => ?_))
      refine (dc_iload (a := 1) (i := 27) rfl rfl).trans ?_
      refine (dn_iald (t := 0) (i := 28) rfl _ _).trans (congrArg (qa_i _ _ _ _) (funext fun y4 => ?_))
      refine (dc_aload (a := 0) (i := 29) rfl rfl).trans ?_
      refine (dn_getA (ci := 9) (j := 15) (i := 30) rfl _).trans (congrArg (qg_a _ _ _ _) (funext fun r5 => ?_))
      refine (dc_iload (a := 1) (i := 31) rfl rfl).trans ?_
      refine (dn_iald (t := 0) (i := 32) rfl _ _).trans (congrArg (qa_i _ _ _ _) (funext fun y6 => ?_))
      refine (dc_aload (a := 0) (i := 33) rfl rfl).trans ?_
      refine (dn_getA (ci := 9) (j := 16) (i := 34) rfl _).trans (congrArg (qg_a _ _ _ _) (funext fun r7 => ?_))
      refine (dc_iload (a := 1) (i := 35) rfl rfl).trans ?_
      refine (dn_iald (t := 0) (i := 36) rfl _ _).trans (congrArg (qa_i _ _ _ _) (funext fun y8 => ?_))
      refine (dn_cV_i (i := 37) (y := 129) (na := 4) (ci := 9) rfl (pa_4 _ _ _ _ _) (Nat.le_of_ble_eq_true rfl) (Nat.le_of_ble_eq_true rfl)).trans (congrArg (fun F => qv _ _ _ (qr_i _ F)) (funext fun y9 => funext fun hp1 => ?_))
      refine (dn_istore (a := 2) (i := 38) rfl rfl _).trans ?_
      refine (dc_aload (a := 0) (i := 39) rfl rfl).trans ?_
      refine (dc_iload (a := 2) (i := 40) rfl rfl).trans ?_
      refine (dn_if (c := (fun x => decide (x ≤ 0))) (t := 44) (i := 41) rfl _).trans (q_ite ?_ ?_)
      · refine (dc_ic (x := (-6)) (i := 44) rfl).trans ?_
        exact rfl
      · refine (dc_iload (a := 1) (i := 42) rfl rfl).trans ?_
        refine (dc_goto (t := 45) (i := 43) rfl).trans ?_
        exact rfl
theorem B128_45 {o0 : Nat} {v1 : pO} {x2 : Int32} {s0 : Int32} {s1 : Nat} {hp : pH} : dn pg 128 45 [some (.ref o0), v1, some (.int x2)] [.int s0, .ref s1] hp = qp_v hp s1 9 20 (.int s0) (fun hp1 => if x2 ≤ nI 0 then dn pg 128 52 [some (.ref o0), v1, some (.int x2)] [.int (-6), .ref o0] hp1 else dn pg 128 52 [some (.ref o0), v1, some (.int x2)] [.int x2, .ref o0] hp1) := by
  refine (dn_putI (ci := 9) (j := 20) (i := 45) rfl _ _).trans (congrArg (qp_v _ _ _ _ _) (funext fun hp1 => ?_))
  refine (dc_aload (a := 0) (i := 46) rfl rfl).trans ?_
  refine (dc_iload (a := 2) (i := 47) rfl rfl).trans ?_
  refine (dn_if (c := (fun x => decide (x ≤ 0))) (t := 51) (i := 48) rfl _).trans (q_ite ?_ ?_)
  · refine (dc_ic (x := (-6)) (i := 51) rfl).trans ?_
    exact rfl
  · refine (dc_iload (a := 2) (i := 49) rfl rfl).trans ?_
    refine (dc_goto (t := 52) (i := 50) rfl).trans ?_
    exact rfl
theorem B128_52 {o0 : Nat} {x1 : Int32} {x2 : Int32} {s0 : Int32} {s1 : Nat} {hp : pH} : dn pg 128 52 [some (.ref o0), some (.int x1), some (.int x2)] [.int s0, .ref s1] hp = qp_v hp s1 9 21 (.int s0) (fun hp1 => if ¬ x2 = nI 0 then dn pg 128 58 [some (.ref o0), some (.int x1), some (.int x2)] [] hp1 else qv hp1 o0 9 (qr_v (cl pg 132 [.ref o0, .int x1] hp1) (fun hp2 => dn pg 128 58 [some (.ref o0), some (.int x1), some (.int x2)] [] hp2))) := by
  refine (dn_putI (ci := 9) (j := 21) (i := 52) rfl _ _).trans (congrArg (qp_v _ _ _ _ _) (funext fun hp1 => ?_))
  refine (dc_iload (a := 2) (i := 53) rfl rfl).trans ?_
  refine (dn_if (c := (fun x => decide (¬ x = 0))) (t := 58) (i := 54) rfl _).trans (q_ite ?_ ?_)
  · exact rfl
  · refine (dc_aload (a := 0) (i := 55) rfl rfl).trans ?_
    refine (dc_iload (a := 1) (i := 56) rfl rfl).trans ?_
    refine (dn_cV_v (i := 57) (y := 132) (na := 2) (ci := 9) rfl (pa_2 _ _ _) (Nat.le_of_ble_eq_true rfl) (Nat.le_of_ble_eq_true rfl)).trans (congrArg (fun F => qv _ _ _ (qr_v _ F)) (funext fun hp2 => ?_))
    exact rfl
theorem B128_58 {v0 : pO} {x1 : Int32} {v2 : pO} {hp : pH} (h0 : pm_nl v0 = true) : dn pg 128 58 [v0, some (.int x1), v2] [] hp = dn pg 128 17 [v0, some (.int (x1 + nI 1)), v2] [] hp := by
  refine (dn_iinc (a := 1) (d := 1) (i := 58) rfl (pm_ok_nl (Nat.le_of_ble_eq_true rfl) rfl h0) rfl).trans ?_
  refine (dc_goto (t := 17) (i := 59) rfl).trans ?_
  exact rfl
theorem B128_60 {v0 : pO} {v1 : pO} {v2 : pO} {hp : pH} : dn pg 128 60 [v0, v1, v2] [] hp = q_v hp := by
  exact dc_return (i := 60) rfl
