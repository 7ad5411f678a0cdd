/-! Stretches of the code as equations; printed by wip/whole/gen_dn.py. -/
theorem B175_0 {o0 : Nat} {x1 : Int32} {v2 : pO} {hp : pH} : dn pg 175 0 [some (.ref o0), some (.int x1), v2] [] hp = qg_i hp o0 9 33 (fun y1 => if y1 = nI 0 then qg_a hp o0 9 30 (fun r2 => qg_i hp o0 9 32 (fun y3 => qa_i hp r2 0 y3 (fun y4 => dn pg 175 10 [some (.ref o0), some (.int x1), v2] [.int y4] hp))) else dn pg 175 10 [some (.ref o0), some (.int x1), v2] [.int x1] hp) := by
  refine (dc_aload (a := 0) (i := 0) rfl rfl).trans ?_
  refine (dn_getI (ci := 9) (j := 33) (i := 1) rfl _).trans (congrArg (qg_i _ _ _ _) (funext fun y1 => ?_))
  refine (dn_if (c := (fun x => decide (x = 0))) (t := 5) (i := 2) rfl _).trans (q_ite ?_ ?_)
  · refine (dc_aload (a := 0) (i := 5) rfl rfl).trans ?_
    refine (dn_getA (ci := 9) (j := 30) (i := 6) rfl _).trans (congrArg (qg_a _ _ _ _) (funext fun r2 => ?_))
    refine (dc_aload (a := 0) (i := 7) rfl rfl).trans ?_
    refine (dn_getI (ci := 9) (j := 32) (i := 8) rfl _).trans (congrArg (qg_i _ _ _ _) (funext fun y3 => ?_))
    refine (dn_iald (t := 0) (i := 9) rfl _ _).trans (congrArg (qa_i _ _ _ _) (funext fun y4 => ?_))
    exact rfl
  · refine (dc_iload (a := 1) (i := 3) rfl rfl).trans ?_
    refine (dc_goto (t := 10) (i := 4) rfl).trans ?_
    exact rfl
theorem B175_10 {o0 : Nat} {v1 : pO} {v2 : pO} {s0 : Int32} {hp : pH} (h1 : pm_nl v1 = true) : dn pg 175 10 [some (.ref o0), v1, v2] [.int s0] hp = qg_a hp o0 9 30 (fun r1 => qg_i hp o0 9 32 (fun y2 => qx_i hp r1 0 y2 s0 (fun hp1 => qg_i hp1 o0 9 32 (fun y3 => qp_v hp1 o0 9 32 (.int (y3 + (nI 1))) (fun hp2 => q_i s0 hp2))))) := by
  refine (dn_istore (a := 2) (i := 10) rfl (pm_ok_nl (Nat.le_of_ble_eq_true rfl) rfl h1) _).trans ?_
  refine (dc_aload (a := 0) (i := 11) rfl rfl).trans ?_
  refine (dn_getA (ci := 9) (j := 30) (i := 12) rfl _).trans (congrArg (qg_a _ _ _ _) (funext fun r1 => ?_))
  refine (dc_aload (a := 0) (i := 13) rfl rfl).trans ?_
  refine (dn_getI (ci := 9) (j := 32) (i := 14) rfl _).trans (congrArg (qg_i _ _ _ _) (funext fun y2 => ?_))
  refine (dc_iload (a := 2) (i := 15) rfl rfl).trans ?_
  refine (dn_iast (i := 16) rfl _ _ _).trans (congrArg (qx_i _ _ _ _ _) (funext fun hp1 => ?_))
  refine (dc_aload (a := 0) (i := 17) rfl rfl).trans ?_
  refine (dc_dupA (i := 18) rfl _).trans ?_
  refine (dn_getI (ci := 9) (j := 32) (i := 19) rfl _).trans (congrArg (qg_i _ _ _ _) (funext fun y3 => ?_))
  refine (dc_ic (x := 1) (i := 20) rfl).trans ?_
  refine (dc_bin (f := (fun x y => x + y)) (i := 21) rfl _ _).trans ?_
  refine (dn_putI (ci := 9) (j := 32) (i := 22) rfl _ _).trans (congrArg (qp_v _ _ _ _ _) (funext fun hp2 => ?_))
  refine (dc_iload (a := 2) (i := 23) rfl rfl).trans ?_
  exact dc_ireturn (i := 24) rfl _
theorem B176_0 {v0 : pO} {v1 : pO} {v2 : pO} {v3 : pO} {hp : pH} (h2 : pm_nl v2 = true) : dn pg 176 0 [v0, v1, v2, v3] [] hp = dn pg 176 2 [v0, v1, v2, some (.int (nI 0))] [] hp := by
  refine (dc_ic (x := 0) (i := 0) rfl).trans ?_
  refine (dn_istore (a := 3) (i := 1) rfl (pm_ok_nl (Nat.le_of_ble_eq_true rfl) rfl h2) _).trans ?_
  exact rfl
theorem B176_2 {o0 : Nat} {o1 : Nat} {x2 : Int32} {x3 : Int32} {hp : pH} : dn pg 176 2 [some (.ref o0), some (.ref o1), some (.int x2), some (.int x3)] [] hp = if x2 ≤ x3 then q_v hp else qa_i hp o1 0 x3 (fun y1 => qv hp o0 9 (qr_i (cl pg 175 [.ref o0, .int y1] hp) (fun y2 hp1 => qx_i hp1 o1 0 x3 y2 (fun hp2 => dn pg 176 2 [some (.ref o0), some (.ref o1), some (.int x2), some (.int (x3 + nI 1))] [] hp2)))) := by
  refine (dc_iload (a := 3) (i := 2) rfl rfl).trans ?_
  refine (dc_iload (a := 2) (i := 3) rfl rfl).trans ?_
  refine (dn_icmp (c := (fun x y => decide (y ≤ x))) (t := 15) (i := 4) rfl _ _).trans (q_ite ?_ ?_)
  · exact dc_return (i := 15) rfl
  · refine (dc_aload (a := 1) (i := 5) rfl rfl).trans ?_
    refine (dc_iload (a := 3) (i := 6) rfl rfl).trans ?_
    refine (dc_aload (a := 0) (i := 7) rfl rfl).trans ?_
    refine (dc_aload (a := 1) (i := 8) rfl rfl).trans ?_
    refine (dc_iload (a := 3) (i := 9) rfl rfl).trans ?_
    refine (dn_iald (t := 0) (i := 10) rfl _ _).trans (congrArg (qa_i _ _ _ _) (funext fun y1 => ?_))
    refine (dn_cV_i (i := 11) (y := 175) (na := 2) (ci := 9) rfl (pa_2 _ _ _) (Nat.le_of_ble_eq_true rfl) (Nat.le_of_ble_eq_true rfl)).trans (congrArg (fun F => qv _ _ _ (qr_i _ F)) (funext fun y2 => funext fun hp1 => ?_))
    refine (dn_iast (i := 12) rfl _ _ _).trans (congrArg (qx_i _ _ _ _ _) (funext fun hp2 => ?_))
    refine (dn_iinc (a := 3) (d := 1) (i := 13) rfl rfl rfl).trans ?_
    refine (dc_goto (t := 2) (i := 14) rfl).trans ?_
    exact rfl
theorem B177_0 {o0 : Nat} {x1 : Int32} {hp : pH} : dn pg 177 0 [some (.ref o0), some (.int x1)] [] hp = qr_i (cl pg 109 [.long x1.toInt64, .long (lN 0), .long (lN 1)] hp) (fun y1 hp1 => if ¬ y1 = nI 0 then qg_a hp1 o0 9 31 (fun r2 => qa_i hp1 r2 1 x1 (fun y3 => if ¬ y3 = nI 0 then qp_v hp1 o0 9 32 (.int ((nI 80) * x1)) (fun hp2 => qz (nI 0) (qp_v hp2 o0 9 33 (.int (nI 0)) (fun hp3 => qv hp3 o0 9 (qr_v (cl pg 174 [.ref o0] hp3) (fun hp4 => q_i (nI 1) hp4))))) else q_i (-3) hp1)) else q_i (-2) hp1) := by
  refine (dc_iload (a := 1) (i := 0) rfl rfl).trans ?_
  refine (dc_i2l (i := 1) rfl _).trans ?_
  refine (dc_lc (x := 0) (i := 2) rfl).trans ?_
  refine (dc_lc (x := 1) (i := 3) rfl).trans ?_
  refine (dn_cS_i (i := 4) (y := 109) (na := 3) rfl (pa_3 _ _ _ _) (Nat.le_of_ble_eq_true rfl) (Nat.le_of_ble_eq_true rfl)).trans (congrArg (qr_i _) (funext fun y1 => funext fun hp1 => ?_))
  refine (dn_if (c := (fun x => decide (¬ x = 0))) (t := 8) (i := 5) rfl _).trans (q_ite ?_ ?_)
  · refine (dc_aload (a := 0) (i := 8) rfl rfl).trans ?_
    refine (dn_getA (ci := 9) (j := 31) (i := 9) rfl _).trans (congrArg (qg_a _ _ _ _) (funext fun r2 => ?_))
    refine (dc_iload (a := 1) (i := 10) rfl rfl).trans ?_
    refine (dn_iald (t := 1) (i := 11) rfl _ _).trans (congrArg (qa_i _ _ _ _) (funext fun y3 => ?_))
    refine (dn_if (c := (fun x => decide (¬ x = 0))) (t := 15) (i := 12) rfl _).trans (q_ite ?_ ?_)
    · refine (dc_aload (a := 0) (i := 15) rfl rfl).trans ?_
      refine (dc_ic (x := 80) (i := 16) rfl).trans ?_
      refine (dc_iload (a := 1) (i := 17) rfl rfl).trans ?_
      refine (dc_bin (f := (fun x y => x * y)) (i := 18) rfl _ _).trans ?_
      refine (dn_putI (ci := 9) (j := 32) (i := 19) rfl _ _).trans (congrArg (qp_v _ _ _ _ _) (funext fun hp2 => ?_))
      refine (dc_aload (a := 0) (i := 20) rfl rfl).trans ?_
      refine (dc_ic (x := 0) (i := 21) rfl).trans ?_
      refine (dn_putZ (ci := 9) (j := 33) (i := 22) rfl _ _).trans (congrArg (fun F => qz _ (qp_v _ _ _ _ _ F)) (funext fun hp3 => ?_))
      refine (dc_aload (a := 0) (i := 23) rfl rfl).trans ?_
      refine (dn_cV_v (i := 24) (y := 174) (na := 1) (ci := 9) rfl (pa_1 _ _) (Nat.le_of_ble_eq_true rfl) (Nat.le_of_ble_eq_true rfl)).trans (congrArg (fun F => qv _ _ _ (qr_v _ F)) (funext fun hp4 => ?_))
      refine (dc_ic (x := 1) (i := 25) rfl).trans ?_
      exact dc_ireturn (i := 26) rfl _
    · refine (dc_ic (x := (-3)) (i := 13) rfl).trans ?_
      exact dc_ireturn (i := 14) rfl _
  · refine (dc_ic (x := (-2)) (i := 6) rfl).trans ?_
    exact dc_ireturn (i := 7) rfl _
theorem B178_0 {o0 : Nat} {x1 : Int32} {hp : pH} : dn pg 178 0 [some (.ref o0), some (.int x1)] [] hp = qr_i (cl pg 109 [.long x1.toInt64, .long (lN 100), .long (lN 179)] hp) (fun y1 hp1 => if y1 = nI 0 then qr_i (cl pg 109 [.long x1.toInt64, .long (lN 10), .long (lN 17)] hp1) (fun y2 hp2 => if y2 = nI 0 then qr_i (cl pg 109 [.long x1.toInt64, .long (lN 20), .long (lN 25)] hp2) (fun y3 hp3 => if y3 = nI 0 then qr_i (cl pg 109 [.long x1.toInt64, .long (lN 30), .long (lN 35)] hp3) (fun y4 hp4 => if y4 = nI 0 then if x1 = nI 0 then qg_i hp4 o0 9 13 (fun y5 => q_i y5 hp4) else if x1 = nI 1 then qg_i hp4 o0 9 4 (fun y6 => q_i y6 hp4) else if x1 = nI 2 then qg_i hp4 o0 9 5 (fun y7 => q_i y7 hp4) else if x1 = nI 3 then qg_i hp4 o0 9 6 (fun y8 => q_i y8 hp4) else if x1 = nI 4 then qg_i hp4 o0 9 11 (fun y9 => q_i y9 hp4) else q_i (-2) hp4 else qg_a hp4 o0 9 8 (fun r10 => qa_i hp4 r10 0 (x1 - (nI 30)) (fun y11 => q_i y11 hp4))) else qg_a hp3 o0 9 7 (fun r12 => qa_i hp3 r12 0 (x1 - (nI 20)) (fun y13 => q_i y13 hp3))) else qg_a hp2 o0 9 3 (fun r14 => qa_i hp2 r14 0 (x1 - (nI 10)) (fun y15 => q_i y15 hp2))) else qv hp1 o0 9 (qr_i (cl pg 179 [.ref o0, .int ((x1 - (nI 100)) / (nI 10)), .int (x1 % (nI 10))] hp1) (fun y16 hp5 => q_i y16 hp5))) := by
  refine (dc_iload (a := 1) (i := 0) rfl rfl).trans ?_
  refine (dc_i2l (i := 1) rfl _).trans ?_
  refine (dc_lc (x := 100) (i := 2) rfl).trans ?_
  refine (dc_lc (x := 179) (i := 3) rfl).trans ?_
  refine (dn_cS_i (i := 4) (y := 109) (na := 3) rfl (pa_3 _ _ _ _) (Nat.le_of_ble_eq_true rfl) (Nat.le_of_ble_eq_true rfl)).trans (congrArg (qr_i _) (funext fun y1 => funext fun hp1 => ?_))
  refine (dn_if (c := (fun x => decide (x = 0))) (t := 17) (i := 5) rfl _).trans (q_ite ?_ ?_)
  · refine (dc_iload (a := 1) (i := 17) rfl rfl).trans ?_
    refine (dc_i2l (i := 18) rfl _).trans ?_
    refine (dc_lc (x := 10) (i := 19) rfl).trans ?_
    refine (dc_lc (x := 17) (i := 20) rfl).trans ?_
    refine (dn_cS_i (i := 21) (y := 109) (na := 3) rfl (pa_3 _ _ _ _) (Nat.le_of_ble_eq_true rfl) (Nat.le_of_ble_eq_true rfl)).trans (congrArg (qr_i _) (funext fun y2 => funext fun hp2 => ?_))
    refine (dn_if (c := (fun x => decide (x = 0))) (t := 30) (i := 22) rfl _).trans (q_ite ?_ ?_)
    · refine (dc_iload (a := 1) (i := 30) rfl rfl).trans ?_
      refine (dc_i2l (i := 31) rfl _).trans ?_
      refine (dc_lc (x := 20) (i := 32) rfl).trans ?_
      refine (dc_lc (x := 25) (i := 33) rfl).trans ?_
      refine (dn_cS_i (i := 34) (y := 109) (na := 3) rfl (pa_3 _ _ _ _) (Nat.le_of_ble_eq_true rfl) (Nat.le_of_ble_eq_true rfl)).trans (congrArg (qr_i _) (funext fun y3 => funext fun hp3 => ?_))
      refine (dn_if (c := (fun x => decide (x = 0))) (t := 43) (i := 35) rfl _).trans (q_ite ?_ ?_)
      · refine (dc_iload (a := 1) (i := 43) rfl rfl).trans ?_
        refine (dc_i2l (i := 44) rfl _).trans ?_
        refine (dc_lc (x := 30) (i := 45) rfl).trans ?_
        refine (dc_lc (x := 35) (i := 46) rfl).trans ?_
        refine (dn_cS_i (i := 47) (y := 109) (na := 3) rfl (pa_3 _ _ _ _) (Nat.le_of_ble_eq_true rfl) (Nat.le_of_ble_eq_true rfl)).trans (congrArg (qr_i _) (funext fun y4 => funext fun hp4 => ?_))
        refine (dn_if (c := (fun x => decide (x = 0))) (t := 56) (i := 48) rfl _).trans (q_ite ?_ ?_)
        · refine (dc_iload (a := 1) (i := 56) rfl rfl).trans ?_
          refine (dn_sw2 (d := 73) (l := [(0, 58), (1, 61), (2, 64), (3, 67), (4, 70)]) (i := 57) rfl _).trans ?_
          refine q_swc ?_ ?_
          · refine (dc_aload (a := 0) (i := 58) rfl rfl).trans ?_
            refine (dn_getI (ci := 9) (j := 13) (i := 59) rfl _).trans (congrArg (qg_i _ _ _ _) (funext fun y5 => ?_))
            exact dc_ireturn (i := 60) rfl _
          refine q_swc ?_ ?_
          · refine (dc_aload (a := 0) (i := 61) rfl rfl).trans ?_
            refine (dn_getI (ci := 9) (j := 4) (i := 62) rfl _).trans (congrArg (qg_i _ _ _ _) (funext fun y6 => ?_))
            exact dc_ireturn (i := 63) rfl _
          refine q_swc ?_ ?_
          · refine (dc_aload (a := 0) (i := 64) rfl rfl).trans ?_
            refine (dn_getI (ci := 9) (j := 5) (i := 65) rfl _).trans (congrArg (qg_i _ _ _ _) (funext fun y7 => ?_))
            exact dc_ireturn (i := 66) rfl _
          refine q_swc ?_ ?_
          · refine (dc_aload (a := 0) (i := 67) rfl rfl).trans ?_
            refine (dn_getI (ci := 9) (j := 6) (i := 68) rfl _).trans (congrArg (qg_i _ _ _ _) (funext fun y8 => ?_))
            exact dc_ireturn (i := 69) rfl _
          refine q_swc ?_ ?_
          · refine (dc_aload (a := 0) (i := 70) rfl rfl).trans ?_
            refine (dn_getI (ci := 9) (j := 11) (i := 71) rfl _).trans (congrArg (qg_i _ _ _ _) (funext fun y9 => ?_))
            exact dc_ireturn (i := 72) rfl _
          refine q_swn ?_
          refine (dc_ic (x := (-2)) (i := 73) rfl).trans ?_
          exact dc_ireturn (i := 74) rfl _
        · refine (dc_aload (a := 0) (i := 49) rfl rfl).trans ?_
          refine (dn_getA (ci := 9) (j := 8) (i := 50) rfl _).trans (congrArg (qg_a _ _ _ _) (funext fun r10 => ?_))
          refine (dc_iload (a := 1) (i := 51) rfl rfl).trans ?_
          refine (dc_ic (x := 30) (i := 52) rfl).trans ?_
          refine (dc_bin (f := (fun x y => x - y)) (i := 53) rfl _ _).trans ?_
          refine (dn_iald (t := 0) (i := 54) rfl _ _).trans (congrArg (qa_i _ _ _ _) (funext fun y11 => ?_))
          exact dc_ireturn (i := 55) rfl _
      · refine (dc_aload (a := 0) (i := 36) rfl rfl).trans ?_
        refine (dn_getA (ci := 9) (j := 7) (i := 37) rfl _).trans (congrArg (qg_a _ _ _ _) (funext fun r12 => ?_))
        refine (dc_iload (a := 1) (i := 38) rfl rfl).trans ?_
        refine (dc_ic (x := 20) (i := 39) rfl).trans ?_
        refine (dc_bin (f := (fun x y => x - y)) (i := 40) rfl _ _).trans ?_
        refine (dn_iald (t := 0) (i := 41) rfl _ _).trans (congrArg (qa_i _ _ _ _) (funext fun y13 => ?_))
        exact dc_ireturn (i := 42) rfl _
    · refine (dc_aload (a := 0) (i := 23) rfl rfl).trans ?_
      refine (dn_getA (ci := 9) (j := 3) (i := 24) rfl _).trans (congrArg (qg_a _ _ _ _) (funext fun r14 => ?_))
      refine (dc_iload (a := 1) (i := 25) rfl rfl).trans ?_
      refine (dc_ic (x := 10) (i := 26) rfl).trans ?_
      refine (dc_bin (f := (fun x y => x - y)) (i := 27) rfl _ _).trans ?_
      refine (dn_iald (t := 0) (i := 28) rfl _ _).trans (congrArg (qa_i _ _ _ _) (funext fun y15 => ?_))
      exact dc_ireturn (i := 29) rfl _
  · refine (dc_aload (a := 0) (i := 6) rfl rfl).trans ?_
    refine (dc_iload (a := 1) (i := 7) rfl rfl).trans ?_
    refine (dc_ic (x := 100) (i := 8) rfl).trans ?_
    refine (dc_bin (f := (fun x y => x - y)) (i := 9) rfl _ _).trans ?_
    refine (dc_ic (x := 10) (i := 10) rfl).trans ?_
    refine ((dn_div (f := (fun x y => x / y)) (i := 11) rfl _ _).trans (if_neg (by decide))).trans ?_
    refine (dc_iload (a := 1) (i := 12) rfl rfl).trans ?_
    refine (dc_ic (x := 10) (i := 13) rfl).trans ?_
    refine ((dn_div (f := (fun x y => x % y)) (i := 14) rfl _ _).trans (if_neg (by decide))).trans ?_
    refine (dn_cV_i (i := 15) (y := 179) (na := 3) (ci := 9) rfl (pa_3 _ _ _ _) (Nat.le_of_ble_eq_true rfl) (Nat.le_of_ble_eq_true rfl)).trans (congrArg (fun F => qv _ _ _ (qr_i _ F)) (funext fun y16 => funext fun hp5 => ?_))
    exact dc_ireturn (i := 16) rfl _
theorem B179_0 {o0 : Nat} {x1 : Int32} {x2 : Int32} {hp : pH} : dn pg 179 0 [some (.ref o0), some (.int x1), some (.int x2)] [] hp = if ¬ x2 = nI 0 then if ¬ x2 = (nI 1) then if ¬ x2 = (nI 2) then dn pg 179 24 [some (.ref o0), some (.int x1), some (.int x2)] [.int (-2)] hp else qg_a hp o0 9 2 (fun r1 => qa_i hp r1 0 x1 (fun y2 => dn pg 179 24 [some (.ref o0), some (.int x1), some (.int x2)] [.int y2] hp)) else qg_a hp o0 9 1 (fun r3 => qa_i hp r3 0 x1 (fun y4 => dn pg 179 24 [some (.ref o0), some (.int x1), some (.int x2)] [.int y4] hp)) else qg_a hp o0 9 0 (fun r5 => qa_i hp r5 0 x1 (fun y6 => dn pg 179 24 [some (.ref o0), some (.int x1), some (.int x2)] [.int y6] hp)) := by
  refine (dc_iload (a := 2) (i := 0) rfl rfl).trans ?_
  refine (dn_if (c := (fun x => decide (¬ x = 0))) (t := 7) (i := 1) rfl _).trans (q_ite ?_ ?_)
  · refine (dc_iload (a := 2) (i := 7) rfl rfl).trans ?_
    refine (dc_ic (x := 1) (i := 8) rfl).trans ?_
    refine (dn_icmp (c := (fun x y => decide (¬ x = y))) (t := 15) (i := 9) rfl _ _).trans (q_ite ?_ ?_)
    · refine (dc_iload (a := 2) (i := 15) rfl rfl).trans ?_
      refine (dc_ic (x := 2) (i := 16) rfl).trans ?_
      refine (dn_icmp (c := (fun x y => decide (¬ x = y))) (t := 23) (i := 17) rfl _ _).trans (q_ite ?_ ?_)
      · refine (dc_ic (x := (-2)) (i := 23) rfl).trans ?_
        exact rfl
      · refine (dc_aload (a := 0) (i := 18) rfl rfl).trans ?_
        refine (dn_getA (ci := 9) (j := 2) (i := 19) rfl _).trans (congrArg (qg_a _ _ _ _) (funext fun r1 => ?_))
        refine (dc_iload (a := 1) (i := 20) rfl rfl).trans ?_
        refine (dn_iald (t := 0) (i := 21) rfl _ _).trans (congrArg (qa_i _ _ _ _) (funext fun y2 => ?_))
        refine (dc_goto (t := 24) (i := 22) rfl).trans ?_
        exact rfl
    · refine (dc_aload (a := 0) (i := 10) rfl rfl).trans ?_
      refine (dn_getA (ci := 9) (j := 1) (i := 11) rfl _).trans (congrArg (qg_a _ _ _ _) (funext fun r3 => ?_))
      refine (dc_iload (a := 1) (i := 12) rfl rfl).trans ?_
      refine (dn_iald (t := 0) (i := 13) rfl _ _).trans (congrArg (qa_i _ _ _ _) (funext fun y4 => ?_))
      refine (dc_goto (t := 24) (i := 14) rfl).trans ?_
      exact rfl
  · refine (dc_aload (a := 0) (i := 2) rfl rfl).trans ?_
    refine (dn_getA (ci := 9) (j := 0) (i := 3) rfl _).trans (congrArg (qg_a _ _ _ _) (funext fun r5 => ?_))
    refine (dc_iload (a := 1) (i := 4) rfl rfl).trans ?_
    refine (dn_iald (t := 0) (i := 5) rfl _ _).trans (congrArg (qa_i _ _ _ _) (funext fun y6 => ?_))
    refine (dc_goto (t := 24) (i := 6) rfl).trans ?_
    exact rfl
theorem B179_24 {v0 : pO} {v1 : pO} {v2 : pO} {s0 : Int32} {hp : pH} : dn pg 179 24 [v0, v1, v2] [.int s0] hp = q_i s0 hp := by
  exact dc_ireturn (i := 24) rfl _
theorem B180_0 {v0 : pO} {v1 : pO} {v2 : pO} {v3 : pO} {hp : pH} (h0 : pm_nl v0 = true) : dn pg 180 0 [v0, v1, v2, v3] [] hp = qv (hp ++ [Sum.inr (8, [.null, .null, .null, .null, .null, .null, .null, .null])]) hp.length 8 (qr_v (cl pg 0 [.ref hp.length] (hp ++ [Sum.inr (8, [.null, .null, .null, .null, .null, .null, .null, .null])])) (fun hp1 => qv (hp1 ++ [Sum.inr (9, [.null, .null, .null, .null, .int 0, .int 0, .int 0, .null, .null, .null, .null, .int 0, .null, .int 0, .null, .null, .null, .int 0, .null, .null, .int 0, .int 0, .int 0, .int 0, .int 0, .null, .null, .null, .null, .null, .null, .null, .int 0, .int 0])]) hp1.length 9 (qr_v (cl pg 106 [.ref hp1.length] (hp1 ++ [Sum.inr (9, [.null, .null, .null, .null, .int 0, .int 0, .int 0, .null, .null, .null, .null, .int 0, .null, .int 0, .null, .null, .null, .int 0, .null, .null, .int 0, .int 0, .int 0, .int 0, .int 0, .null, .null, .null, .null, .null, .null, .null, .int 0, .int 0])])) (fun hp2 => dn pg 180 10 [v0, some (.ref hp.length), some (.ref hp1.length), some (.int (nI 0))] [] hp2)))) := by
  refine (dc_new (ci := 8) (fs := [.null, .null, .null, .null, .null, .null, .null, .null]) (i := 0) rfl).trans ?_
  refine (dc_dupA (i := 1) rfl _).trans ?_
  refine (dn_cV_v (i := 2) (y := 0) (na := 1) (ci := 8) rfl (pa_1 _ _) (Nat.le_of_ble_eq_true rfl) (Nat.le_of_ble_eq_true rfl)).trans (congrArg (fun F => qv _ _ _ (qr_v _ F)) (funext fun hp1 => ?_))
  refine (dn_astore (a := 1) (i := 3) rfl (pm_ok_nl (Nat.le_of_ble_eq_true rfl) rfl h0) _).trans ?_
  refine (dc_new (ci := 9) (fs := [.null, .null, .null, .null, .int 0, .int 0, .int 0, .null, .null, .null, .null, .int 0, .null, .int 0, .null, .null, .null, .int 0, .null, .null, .int 0, .int 0, .int 0, .int 0, .int 0, .null, .null, .null, .null, .null, .null, .null, .int 0, .int 0]) (i := 4) rfl).trans ?_
  refine (dc_dupA (i := 5) rfl _).trans ?_
  refine (dn_cV_v (i := 6) (y := 106) (na := 1) (ci := 9) rfl (pa_1 _ _) (Nat.le_of_ble_eq_true rfl) (Nat.le_of_ble_eq_true rfl)).trans (congrArg (fun F => qv _ _ _ (qr_v _ F)) (funext fun hp2 => ?_))
  refine (dn_astore (a := 2) (i := 7) rfl rfl _).trans ?_
  refine (dc_ic (x := 0) (i := 8) rfl).trans ?_
  refine (dn_istore (a := 3) (i := 9) rfl rfl _).trans ?_
  exact rfl
theorem B180_10 {o0 : Nat} {o1 : Nat} {o2 : Nat} {x3 : Int32} {hp : pH} : dn pg 180 10 [some (.ref o0), some (.ref o1), some (.ref o2), some (.int x3)] [] hp = qn_a hp o0 3 (fun y1 => if (y1 - (nI 6)) < x3 then qz (nI 1) (q_i (nI 1) hp) else qa_i hp o0 3 x3 (fun y2 => if y2 &&& (nI 31) = nI 0 then qa_i hp o0 3 (x3 + (nI 1)) (fun y3 => qa_i hp o0 3 (x3 + (nI 2)) (fun y4 => qa_i hp o0 3 (x3 + (nI 3)) (fun y5 => qa_i hp o0 3 (x3 + (nI 4)) (fun y6 => qa_i hp o0 3 (x3 + (nI 5)) (fun y7 => qv hp o1 8 (qr_i (cl pg 9 [.ref o1, .int y3, .int y4, .int y5, .int y6, .int y7] hp) (fun y8 hp1 => qa_i hp1 o0 3 (x3 + (nI 1)) (fun y9 => qa_i hp1 o0 3 (x3 + (nI 2)) (fun y10 => qa_i hp1 o0 3 (x3 + (nI 3)) (fun y11 => qa_i hp1 o0 3 (x3 + (nI 4)) (fun y12 => qa_i hp1 o0 3 (x3 + (nI 5)) (fun y13 => qv hp1 o2 9 (qr_i (cl pg 107 [.ref o2, .int y9, .int y10, .int y11, .int y12, .int y13] hp1) (fun y14 hp2 => if y8 = y14 then dn pg 180 641 [some (.ref o0), some (.ref o1), some (.ref o2), some (.int x3)] [] hp2 else qz (nI 0) (q_i (nI 0) hp2))))))))))))))) else if y2 &&& (nI 31) = nI 1 then qa_i hp o0 3 (x3 + (nI 1)) (fun y15 => qa_i hp o0 3 (x3 + (nI 2)) (fun y16 => qa_i hp o0 3 (x3 + (nI 3)) (fun y17 => if y17 = nI 0 then dn pg 180 99 [some (.ref o0), some (.ref o1), some (.ref o2), some (.int x3)] [.int (nI 0), .int y16, .int y15, .ref o1] hp else dn pg 180 99 [some (.ref o0), some (.ref o1), some (.ref o2), some (.int x3)] [.int (nI 1), .int y16, .int y15, .ref o1] hp))) else if y2 &&& (nI 31) = nI 2 then qa_i hp o0 3 (x3 + (nI 1)) (fun y18 => qv hp o1 8 (qr_i (cl pg 19 [.ref o1, .int y18] hp) (fun y19 hp3 => qa_i hp3 o0 3 (x3 + (nI 1)) (fun y20 => qv hp3 o2 9 (qr_i (cl pg 115 [.ref o2, .int y20] hp3) (fun y21 hp4 => if y19 = y21 then dn pg 180 641 [some (.ref o0), some (.ref o1), some (.ref o2), some (.int x3)] [] hp4 else qz (nI 0) (q_i (nI 0) hp4))))))) else if y2 &&& (nI 31) = nI 3 then qa_i hp o0 3 (x3 + (nI 1)) (fun y22 => qa_i hp o0 3 (x3 + (nI 2)) (fun y23 => qa_i hp o0 3 (x3 + (nI 3)) (fun y24 => qv hp o1 8 (qr_i (cl pg 20 [.ref o1, .int y22, .int y23, .int y24] hp) (fun y25 hp5 => qa_i hp5 o0 3 (x3 + (nI 1)) (fun y26 => qa_i hp5 o0 3 (x3 + (nI 2)) (fun y27 => qa_i hp5 o0 3 (x3 + (nI 3)) (fun y28 => qv hp5 o2 9 (qr_i (cl pg 116 [.ref o2, .int y26, .int y27, .int y28] hp5) (fun y29 hp6 => if y25 = y29 then dn pg 180 641 [some (.ref o0), some (.ref o1), some (.ref o2), some (.int x3)] [] hp6 else qz (nI 0) (q_i (nI 0) hp6))))))))))) else if y2 &&& (nI 31) = nI 4 then qa_i hp o0 3 (x3 + (nI 1)) (fun y30 => qv hp o1 8 (qr_i (cl pg 24 [.ref o1, .int y30] hp) (fun y31 hp7 => qa_i hp7 o0 3 (x3 + (nI 1)) (fun y32 => qv hp7 o2 9 (qr_i (cl pg 117 [.ref o2, .int y32] hp7) (fun y33 hp8 => if y31 = y33 then dn pg 180 641 [some (.ref o0), some (.ref o1), some (.ref o2), some (.int x3)] [] hp8 else qz (nI 0) (q_i (nI 0) hp8))))))) else if y2 &&& (nI 31) = nI 5 then qv hp o1 8 (qr_i (cl pg 26 [.ref o1] hp) (fun y34 hp9 => qv hp9 o2 9 (qr_i (cl pg 118 [.ref o2] hp9) (fun y35 hp10 => if y34 = y35 then dn pg 180 641 [some (.ref o0), some (.ref o1), some (.ref o2), some (.int x3)] [] hp10 else qz (nI 0) (q_i (nI 0) hp10))))) else if y2 &&& (nI 31) = nI 6 then qv hp o1 8 (qr_i (cl pg 28 [.ref o1] hp) (fun y36 hp11 => qv hp11 o2 9 (qr_i (cl pg 119 [.ref o2] hp11) (fun y37 hp12 => if y36 = y37 then dn pg 180 641 [some (.ref o0), some (.ref o1), some (.ref o2), some (.int x3)] [] hp12 else qz (nI 0) (q_i (nI 0) hp12))))) else if y2 &&& (nI 31) = nI 7 then qa_i hp o0 3 (x3 + (nI 1)) (fun y38 => qv hp o1 8 (qr_i (cl pg 35 [.ref o1, .int y38] hp) (fun y39 hp13 => qa_i hp13 o0 3 (x3 + (nI 1)) (fun y40 => qv hp13 o2 9 (qr_i (cl pg 125 [.ref o2, .int y40] hp13) (fun y41 hp14 => if y39 = y41 then dn pg 180 641 [some (.ref o0), some (.ref o1), some (.ref o2), some (.int x3)] [] hp14 else qz (nI 0) (q_i (nI 0) hp14))))))) else if y2 &&& (nI 31) = nI 8 then qa_i hp o0 3 (x3 + (nI 1)) (fun y42 => qa_i hp o0 3 (x3 + (nI 2)) (fun y43 => qv hp o1 8 (qr_i (cl pg 57 [.ref o1, .int y42, .int y43] hp) (fun y44 hp15 => qa_i hp15 o0 3 (x3 + (nI 1)) (fun y45 => qa_i hp15 o0 3 (x3 + (nI 2)) (fun y46 => qv hp15 o2 9 (qr_i (cl pg 140 [.ref o2, .int y45, .int y46] hp15) (fun y47 hp16 => if y44 = y47 then dn pg 180 641 [some (.ref o0), some (.ref o1), some (.ref o2), some (.int x3)] [] hp16 else qz (nI 0) (q_i (nI 0) hp16))))))))) else if y2 &&& (nI 31) = nI 9 then qa_i hp o0 3 (x3 + (nI 1)) (fun y48 => qv hp o1 8 (qr_i (cl pg 58 [.ref o1, .int y48] hp) (fun y49 hp17 => qa_i hp17 o0 3 (x3 + (nI 1)) (fun y50 => qv hp17 o2 9 (qr_i (cl pg 142 [.ref o2, .int y50] hp17) (fun y51 hp18 => if y49 = y51 then dn pg 180 641 [some (.ref o0), some (.ref o1), some (.ref o2), some (.int x3)] [] hp18 else qz (nI 0) (q_i (nI 0) hp18))))))) else if y2 &&& (nI 31) = nI 10 then qa_i hp o0 3 (x3 + (nI 1)) (fun y52 => qv hp o1 8 (qr_i (cl pg 60 [.ref o1, .int y52] hp) (fun y53 hp19 => qa_i hp19 o0 3 (x3 + (nI 1)) (fun y54 => qv hp19 o2 9 (qr_i (cl pg 145 [.ref o2, .int y54] hp19) (fun y55 hp20 => if y53 = y55 then dn pg 180 641 [some (.ref o0), some (.ref o1), some (.ref o2), some (.int x3)] [] hp20 else qz (nI 0) (q_i (nI 0) hp20))))))) else if y2 &&& (nI 31) = nI 11 then qv hp o1 8 (qr_i (cl pg 61 [.ref o1] hp) (fun y56 hp21 => qv hp21 o2 9 (qr_i (cl pg 146 [.ref o2] hp21) (fun y57 hp22 => if y56 = y57 then dn pg 180 641 [some (.ref o0), some (.ref o1), some (.ref o2), some (.int x3)] [] hp22 else qz (nI 0) (q_i (nI 0) hp22))))) else if y2 &&& (nI 31) = nI 12 then qa_i hp o0 3 (x3 + (nI 1)) (fun y58 => qa_i hp o0 3 (x3 + (nI 2)) (fun y59 => qv hp o1 8 (qr_i (cl pg 62 [.ref o1, .int y58, .int y59] hp) (fun y60 hp23 => qa_i hp23 o0 3 (x3 + (nI 1)) (fun y61 => qa_i hp23 o0 3 (x3 + (nI 2)) (fun y62 => qv hp23 o2 9 (qr_i (cl pg 147 [.ref o2, .int y61, .int y62] hp23) (fun y63 hp24 => if y60 = y63 then dn pg 180 641 [some (.ref o0), some (.ref o1), some (.ref o2), some (.int x3)] [] hp24 else qz (nI 0) (q_i (nI 0) hp24))))))))) else if y2 &&& (nI 31) = nI 13 then qa_i hp o0 3 (x3 + (nI 1)) (fun y64 => qv hp o1 8 (qr_i (cl pg 64 [.ref o1, .int y64] hp) (fun y65 hp25 => qa_i hp25 o0 3 (x3 + (nI 1)) (fun y66 => qv hp25 o2 9 (qr_i (cl pg 149 [.ref o2, .int y66] hp25) (fun y67 hp26 => if y65 = y67 then dn pg 180 641 [some (.ref o0), some (.ref o1), some (.ref o2), some (.int x3)] [] hp26 else qz (nI 0) (q_i (nI 0) hp26))))))) else if y2 &&& (nI 31) = nI 14 then qa_i hp o0 3 (x3 + (nI 1)) (fun y68 => qv hp o1 8 (qr_i (cl pg 68 [.ref o1, .int y68] hp) (fun y69 hp27 => qa_i hp27 o0 3 (x3 + (nI 1)) (fun y70 => qv hp27 o2 9 (qr_i (cl pg 151 [.ref o2, .int y70] hp27) (fun y71 hp28 => if y69 = y71 then dn pg 180 641 [some (.ref o0), some (.ref o1), some (.ref o2), some (.int x3)] [] hp28 else qz (nI 0) (q_i (nI 0) hp28))))))) else if y2 &&& (nI 31) = nI 15 then qa_i hp o0 3 (x3 + (nI 1)) (fun y72 => qa_i hp o0 3 (x3 + (nI 2)) (fun y73 => qa_i hp o0 3 (x3 + (nI 3)) (fun y74 => qa_i hp o0 3 (x3 + (nI 4)) (fun y75 => qa_i hp o0 3 (x3 + (nI 5)) (fun y76 => qv hp o1 8 (qr_i (cl pg 72 [.ref o1, .int y72, .int y73, .int y74, .int y75, .int y76] hp) (fun y77 hp29 => qa_i hp29 o0 3 (x3 + (nI 1)) (fun y78 => qa_i hp29 o0 3 (x3 + (nI 2)) (fun y79 => qa_i hp29 o0 3 (x3 + (nI 3)) (fun y80 => qa_i hp29 o0 3 (x3 + (nI 4)) (fun y81 => qa_i hp29 o0 3 (x3 + (nI 5)) (fun y82 => qv hp29 o2 9 (qr_i (cl pg 154 [.ref o2, .int y78, .int y79, .int y80, .int y81, .int y82] hp29) (fun y83 hp30 => if y77 = y83 then dn pg 180 641 [some (.ref o0), some (.ref o1), some (.ref o2), some (.int x3)] [] hp30 else qz (nI 0) (q_i (nI 0) hp30))))))))))))))) else if y2 &&& (nI 31) = nI 16 then qa_i hp o0 3 (x3 + (nI 1)) (fun y84 => qa_i hp o0 3 (x3 + (nI 2)) (fun y85 => if y85 = nI 0 then dn pg 180 427 [some (.ref o0), some (.ref o1), some (.ref o2), some (.int x3)] [.int (nI 0), .int y84, .ref o1] hp else dn pg 180 427 [some (.ref o0), some (.ref o1), some (.ref o2), some (.int x3)] [.int (nI 1), .int y84, .ref o1] hp)) else if y2 &&& (nI 31) = nI 17 then qv hp o1 8 (qr_i (cl pg 81 [.ref o1] hp) (fun y86 hp31 => qv hp31 o2 9 (qr_i (cl pg 161 [.ref o2] hp31) (fun y87 hp32 => if y86 = y87 then dn pg 180 641 [some (.ref o0), some (.ref o1), some (.ref o2), some (.int x3)] [] hp32 else qz (nI 0) (q_i (nI 0) hp32))))) else if y2 &&& (nI 31) = nI 18 then qa_i hp o0 3 (x3 + (nI 1)) (fun y88 => qv hp o1 8 (qr_i (cl pg 83 [.ref o1, .int y88] hp) (fun y89 hp33 => qa_i hp33 o0 3 (x3 + (nI 1)) (fun y90 => qv hp33 o2 9 (qr_i (cl pg 162 [.ref o2, .int y90] hp33) (fun y91 hp34 => if y89 = y91 then dn pg 180 641 [some (.ref o0), some (.ref o1), some (.ref o2), some (.int x3)] [] hp34 else qz (nI 0) (q_i (nI 0) hp34))))))) else if y2 &&& (nI 31) = nI 19 then qa_i hp o0 3 (x3 + (nI 1)) (fun y92 => qv hp o1 8 (qr_i (cl pg 89 [.ref o1, .int y92] hp) (fun y93 hp35 => qa_i hp35 o0 3 (x3 + (nI 1)) (fun y94 => qv hp35 o2 9 (qr_i (cl pg 165 [.ref o2, .int y94] hp35) (fun y95 hp36 => if y93 = y95 then dn pg 180 641 [some (.ref o0), some (.ref o1), some (.ref o2), some (.int x3)] [] hp36 else qz (nI 0) (q_i (nI 0) hp36))))))) else if y2 &&& (nI 31) = nI 20 then qa_i hp o0 3 (x3 + (nI 1)) (fun y96 => qv hp o1 8 (qr_i (cl pg 92 [.ref o1, .int y96] hp) (fun y97 hp37 => qa_i hp37 o0 3 (x3 + (nI 1)) (fun y98 => qv hp37 o2 9 (qr_i (cl pg 166 [.ref o2, .int y98] hp37) (fun y99 hp38 => if y97 = y99 then dn pg 180 641 [some (.ref o0), some (.ref o1), some (.ref o2), some (.int x3)] [] hp38 else qz (nI 0) (q_i (nI 0) hp38))))))) else if y2 &&& (nI 31) = nI 21 then qa_i hp o0 3 (x3 + (nI 1)) (fun y100 => qa_i hp o0 3 (x3 + (nI 2)) (fun y101 => qa_i hp o0 3 (x3 + (nI 3)) (fun y102 => qa_i hp o0 3 (x3 + (nI 4)) (fun y103 => qv hp o1 8 (qr_l (cl pg 94 [.ref o1, .int y100, .int y101, .int y102, .int y103] hp) (fun y104 hp39 => qa_i hp39 o0 3 (x3 + (nI 1)) (fun y105 => qa_i hp39 o0 3 (x3 + (nI 2)) (fun y106 => qa_i hp39 o0 3 (x3 + (nI 3)) (fun y107 => qa_i hp39 o0 3 (x3 + (nI 4)) (fun y108 => qv hp39 o2 9 (qr_l (cl pg 168 [.ref o2, .int y105, .int y106, .int y107, .int y108] hp39) (fun y109 hp40 => if (lg_cmp y104 y109) = nI 0 then dn pg 180 641 [some (.ref o0), some (.ref o1), some (.ref o2), some (.int x3)] [] hp40 else qz (nI 0) (q_i (nI 0) hp40))))))))))))) else if y2 &&& (nI 31) = nI 22 then qa_i hp o0 3 (x3 + (nI 1)) (fun y110 => qa_i hp o0 3 (x3 + (nI 2)) (fun y111 => qa_i hp o0 3 (x3 + (nI 3)) (fun y112 => qv hp o1 8 (qr_i (cl pg 96 [.ref o1, .int y110, .int y111, .int y112] hp) (fun y113 hp41 => qa_i hp41 o0 3 (x3 + (nI 1)) (fun y114 => qa_i hp41 o0 3 (x3 + (nI 2)) (fun y115 => qa_i hp41 o0 3 (x3 + (nI 3)) (fun y116 => qv hp41 o2 9 (qr_i (cl pg 171 [.ref o2, .int y114, .int y115, .int y116] hp41) (fun y117 hp42 => if y113 = y117 then dn pg 180 641 [some (.ref o0), some (.ref o1), some (.ref o2), some (.int x3)] [] hp42 else qz (nI 0) (q_i (nI 0) hp42))))))))))) else if y2 &&& (nI 31) = nI 23 then qa_i hp o0 3 (x3 + (nI 1)) (fun y118 => qv hp o1 8 (qr_i (cl pg 98 [.ref o1, .int y118] hp) (fun y119 hp43 => qa_i hp43 o0 3 (x3 + (nI 1)) (fun y120 => qv hp43 o2 9 (qr_i (cl pg 173 [.ref o2, .int y120] hp43) (fun y121 hp44 => if y119 = y121 then dn pg 180 641 [some (.ref o0), some (.ref o1), some (.ref o2), some (.int x3)] [] hp44 else qz (nI 0) (q_i (nI 0) hp44))))))) else if y2 &&& (nI 31) = nI 24 then qa_i hp o0 3 (x3 + (nI 1)) (fun y122 => qv hp o1 8 (qr_i (cl pg 102 [.ref o1, .int y122] hp) (fun y123 hp45 => qa_i hp45 o0 3 (x3 + (nI 1)) (fun y124 => qv hp45 o2 9 (qr_i (cl pg 177 [.ref o2, .int y124] hp45) (fun y125 hp46 => if y123 = y125 then dn pg 180 641 [some (.ref o0), some (.ref o1), some (.ref o2), some (.int x3)] [] hp46 else qz (nI 0) (q_i (nI 0) hp46))))))) else if y2 &&& (nI 31) = nI 25 then qa_i hp o0 3 (x3 + (nI 1)) (fun y126 => qv hp o1 8 (qr_i (cl pg 103 [.ref o1, .int y126] hp) (fun y127 hp47 => qa_i hp47 o0 3 (x3 + (nI 1)) (fun y128 => qv hp47 o2 9 (qr_i (cl pg 178 [.ref o2, .int y128] hp47) (fun y129 hp48 => if y127 = y129 then dn pg 180 641 [some (.ref o0), some (.ref o1), some (.ref o2), some (.int x3)] [] hp48 else qz (nI 0) (q_i (nI 0) hp48))))))) else dn pg 180 641 [some (.ref o0), some (.ref o1), some (.ref o2), some (.int x3)] [] hp)) := by
  refine (dc_iload (a := 3) (i := 10) rfl rfl).trans ?_
  refine (dc_aload (a := 0) (i := 11) rfl rfl).trans ?_
  refine (dn_alen (t := 3) (i := 12) rfl _).trans (congrArg (qn_a _ _ _) (funext fun y1 => ?_))
  refine (dc_ic (x := 6) (i := 13) rfl).trans ?_
  refine (dc_bin (f := (fun x y => x - y)) (i := 14) rfl _ _).trans ?_
  refine (dn_icmp (c := (fun x y => decide (y < x))) (t := 643) (i := 15) rfl _ _).trans (q_ite ?_ ?_)
  · refine (dc_ic (x := 1) (i := 643) rfl).trans ?_
    exact dn_zret (i := 644) rfl _
  · refine (dc_aload (a := 0) (i := 16) rfl rfl).trans ?_
    refine (dc_iload (a := 3) (i := 17) rfl rfl).trans ?_
    refine (dn_iald (t := 3) (i := 18) rfl _ _).trans (congrArg (qa_i _ _ _ _) (funext fun y2 => ?_))
    refine (dc_ic (x := 31) (i := 19) rfl).trans ?_
    refine (dc_bin (f := (fun x y => x &&& y)) (i := 20) rfl _ _).trans ?_
    refine (dn_sw2 (d := 641) (l := [(0, 22), (1, 79), (2, 124), (3, 141), (4, 178), (5, 195), (6, 202), (7, 209), (8, 226), (9, 253), (10, 270), (11, 287), (12, 294), (13, 321), (14, 338), (15, 355), (16, 412), (17, 447), (18, 454), (19, 471), (20, 488), (21, 505), (22, 553), (23, 590), (24, 607), (25, 624)]) (i := 21) rfl _).trans ?_
    refine q_swc ?_ ?_
    · refine (dc_aload (a := 1) (i := 22) rfl rfl).trans ?_
      refine (dc_aload (a := 0) (i := 23) rfl rfl).trans ?_
      refine (dc_iload (a := 3) (i := 24) rfl rfl).trans ?_
      refine (dc_ic (x := 1) (i := 25) rfl).trans ?_
      refine (dc_bin (f := (fun x y => x + y)) (i := 26) rfl _ _).trans ?_
      refine (dn_iald (t := 3) (i := 27) rfl _ _).trans (congrArg (qa_i _ _ _ _) (funext fun y3 => ?_))
      refine (dc_aload (a := 0) (i := 28) rfl rfl).trans ?_
      refine (dc_iload (a := 3) (i := 29) rfl rfl).trans ?_
      refine (dc_ic (x := 2) (i := 30) rfl).trans ?_
      refine (dc_bin (f := (fun x y => x + y)) (i := 31) rfl _ _).trans ?_
      refine (dn_iald (t := 3) (i := 32) rfl _ _).trans (congrArg (qa_i _ _ _ _) (funext fun y4 => ?_))
      refine (dc_aload (a := 0) (i := 33) rfl rfl).trans ?_
      refine (dc_iload (a := 3) (i := 34) rfl rfl).trans ?_
      refine (dc_ic (x := 3) (i := 35) rfl).trans ?_
      refine (dc_bin (f := (fun x y => x + y)) (i := 36) rfl _ _).trans ?_
      refine (dn_iald (t := 3) (i := 37) rfl _ _).trans (congrArg (qa_i _ _ _ _) (funext fun y5 => ?_))
      refine (dc_aload (a := 0) (i := 38) rfl rfl).trans ?_
      refine (dc_iload (a := 3) (i := 39) rfl rfl).trans ?_
      refine (dc_ic (x := 4) (i := 40) rfl).trans ?_
      refine (dc_bin (f := (fun x y => x + y)) (i := 41) rfl _ _).trans ?_
      refine (dn_iald (t := 3) (i := 42) rfl _ _).trans (congrArg (qa_i _ _ _ _) (funext fun y6 => ?_))
      refine (dc_aload (a := 0) (i := 43) rfl rfl).trans ?_
      refine (dc_iload (a := 3) (i := 44) rfl rfl).trans ?_
      refine (dc_ic (x := 5) (i := 45) rfl).trans ?_
      refine (dc_bin (f := (fun x y => x + y)) (i := 46) rfl _ _).trans ?_
      refine (dn_iald (t := 3) (i := 47) rfl _ _).trans (congrArg (qa_i _ _ _ _) (funext fun y7 => ?_))
      refine (dn_cV_i (i := 48) (y := 9) (na := 6) (ci := 8) rfl (pa_6 _ _ _ _ _ _ _) (Nat.le_of_ble_eq_true rfl) (Nat.le_of_ble_eq_true rfl)).trans (congrArg (fun F => qv _ _ _ (qr_i _ F)) (funext fun y8 => funext fun hp1 => ?_))
      refine (dc_aload (a := 2) (i := 49) rfl rfl).trans ?_
      refine (dc_aload (a := 0) (i := 50) rfl rfl).trans ?_
      refine (dc_iload (a := 3) (i := 51) rfl rfl).trans ?_
      refine (dc_ic (x := 1) (i := 52) rfl).trans ?_
      refine (dc_bin (f := (fun x y => x + y)) (i := 53) rfl _ _).trans ?_
      refine (dn_iald (t := 3) (i := 54) rfl _ _).trans (congrArg (qa_i _ _ _ _) (funext fun y9 => ?_))
      refine (dc_aload (a := 0) (i := 55) rfl rfl).trans ?_
      refine (dc_iload (a := 3) (i := 56) rfl rfl).trans ?_
      refine (dc_ic (x := 2) (i := 57) rfl).trans ?_
      refine (dc_bin (f := (fun x y => x + y)) (i := 58) rfl _ _).trans ?_
      refine (dn_iald (t := 3) (i := 59) rfl _ _).trans (congrArg (qa_i _ _ _ _) (funext fun y10 => ?_))
      refine (dc_aload (a := 0) (i := 60) rfl rfl).trans ?_
      refine (dc_iload (a := 3) (i := 61) rfl rfl).trans ?_
      refine (dc_ic (x := 3) (i := 62) rfl).trans ?_
      refine (dc_bin (f := (fun x y => x + y)) (i := 63) rfl _ _).trans ?_
      refine (dn_iald (t := 3) (i := 64) rfl _ _).trans (congrArg (qa_i _ _ _ _) (funext fun y11 => ?_))
      refine (dc_aload (a := 0) (i := 65) rfl rfl).trans ?_
      refine (dc_iload (a := 3) (i := 66) rfl rfl).trans ?_
      refine (dc_ic (x := 4) (i := 67) rfl).trans ?_
      refine (dc_bin (f := (fun x y => x + y)) (i := 68) rfl _ _).trans ?_
      refine (dn_iald (t := 3) (i := 69) rfl _ _).trans (congrArg (qa_i _ _ _ _) (funext fun y12 => ?_))
      refine (dc_aload (a := 0) (i := 70) rfl rfl).trans ?_
      refine (dc_iload (a := 3) (i := 71) rfl rfl).trans ?_
      refine (dc_ic (x := 5) (i := 72) rfl).trans ?_
      refine (dc_bin (f := (fun x y => x + y)) (i := 73) rfl _ _).trans ?_
      refine (dn_iald (t := 3) (i := 74) rfl _ _).trans (congrArg (qa_i _ _ _ _) (funext fun y13 => ?_))
      refine (dn_cV_i (i := 75) (y := 107) (na := 6) (ci := 9) rfl (pa_6 _ _ _ _ _ _ _) (Nat.le_of_ble_eq_true rfl) (Nat.le_of_ble_eq_true rfl)).trans (congrArg (fun F => qv _ _ _ (qr_i _ F)) (funext fun y14 => funext fun hp2 => ?_))
      refine (dn_icmp (c := (fun x y => decide (x = y))) (t := 641) (i := 76) rfl _ _).trans (q_ite ?_ ?_)
      · exact rfl
      · refine (dc_ic (x := 0) (i := 77) rfl).trans ?_
        exact dn_zret (i := 78) rfl _
    refine q_swc ?_ ?_
    · refine (dc_aload (a := 1) (i := 79) rfl rfl).trans ?_
      refine (dc_aload (a := 0) (i := 80) rfl rfl).trans ?_
      refine (dc_iload (a := 3) (i := 81) rfl rfl).trans ?_
      refine (dc_ic (x := 1) (i := 82) rfl).trans ?_
      refine (dc_bin (f := (fun x y => x + y)) (i := 83) rfl _ _).trans ?_
      refine (dn_iald (t := 3) (i := 84) rfl _ _).trans (congrArg (qa_i _ _ _ _) (funext fun y15 => ?_))
      refine (dc_aload (a := 0) (i := 85) rfl rfl).trans ?_
      refine (dc_iload (a := 3) (i := 86) rfl rfl).trans ?_
      refine (dc_ic (x := 2) (i := 87) rfl).trans ?_
      refine (dc_bin (f := (fun x y => x + y)) (i := 88) rfl _ _).trans ?_
      refine (dn_iald (t := 3) (i := 89) rfl _ _).trans (congrArg (qa_i _ _ _ _) (funext fun y16 => ?_))
      refine (dc_aload (a := 0) (i := 90) rfl rfl).trans ?_
      refine (dc_iload (a := 3) (i := 91) rfl rfl).trans ?_
      refine (dc_ic (x := 3) (i := 92) rfl).trans ?_
      refine (dc_bin (f := (fun x y => x + y)) (i := 93) rfl _ _).trans ?_
      refine (dn_iald (t := 3) (i := 94) rfl _ _).trans (congrArg (qa_i _ _ _ _) (funext fun y17 => ?_))
      refine (dn_if (c := (fun x => decide (x = 0))) (t := 98) (i := 95) rfl _).trans (q_ite ?_ ?_)
      · refine (dc_ic (x := 0) (i := 98) rfl).trans ?_
        exact rfl
      · refine (dc_ic (x := 1) (i := 96) rfl).trans ?_
        refine (dc_goto (t := 99) (i := 97) rfl).trans ?_
        exact rfl
    refine q_swc ?_ ?_
    · refine (dc_aload (a := 1) (i := 124) rfl rfl).trans ?_
      refine (dc_aload (a := 0) (i := 125) rfl rfl).trans ?_
      refine (dc_iload (a := 3) (i := 126) rfl rfl).trans ?_
      refine (dc_ic (x := 1) (i := 127) rfl).trans ?_
      refine (dc_bin (f := (fun x y => x + y)) (i := 128) rfl _ _).trans ?_
      refine (dn_iald (t := 3) (i := 129) rfl _ _).trans (congrArg (qa_i _ _ _ _) (funext fun y18 => ?_))
      refine (dn_cV_i (i := 130) (y := 19) (na := 2) (ci := 8) rfl (pa_2 _ _ _) (Nat.le_of_ble_eq_true rfl) (Nat.le_of_ble_eq_true rfl)).trans (congrArg (fun F => qv _ _ _ (qr_i _ F)) (funext fun y19 => funext fun hp3 => ?_))
      refine (dc_aload (a := 2) (i := 131) rfl rfl).trans ?_
      refine (dc_aload (a := 0) (i := 132) rfl rfl).trans ?_
      refine (dc_iload (a := 3) (i := 133) rfl rfl).trans ?_
      refine (dc_ic (x := 1) (i := 134) rfl).trans ?_
      refine (dc_bin (f := (fun x y => x + y)) (i := 135) rfl _ _).trans ?_
      refine (dn_iald (t := 3) (i := 136) rfl _ _).trans (congrArg (qa_i _ _ _ _) (funext fun y20 => ?_))
      refine (dn_cV_i (i := 137) (y := 115) (na := 2) (ci := 9) rfl (pa_2 _ _ _) (Nat.le_of_ble_eq_true rfl) (Nat.le_of_ble_eq_true rfl)).trans (congrArg (fun F => qv _ _ _ (qr_i _ F)) (funext fun y21 => funext fun hp4 => ?_))
      refine (dn_icmp (c := (fun x y => decide (x = y))) (t := 641) (i := 138) rfl _ _).trans (q_ite ?_ ?_)
      · exact rfl
      · refine (dc_ic (x := 0) (i := 139) rfl).trans ?_
        exact dn_zret (i := 140) rfl _
    refine q_swc ?_ ?_
    · refine (dc_aload (a := 1) (i := 141) rfl rfl).trans ?_
      refine (dc_aload (a := 0) (i := 142) rfl rfl).trans ?_
      refine (dc_iload (a := 3) (i := 143) rfl rfl).trans ?_
      refine (dc_ic (x := 1) (i := 144) rfl).trans ?_
      refine (dc_bin (f := (fun x y => x + y)) (i := 145) rfl _ _).trans ?_
      refine (dn_iald (t := 3) (i := 146) rfl _ _).trans (congrArg (qa_i _ _ _ _) (funext fun y22 => ?_))
      refine (dc_aload (a := 0) (i := 147) rfl rfl).trans ?_
      refine (dc_iload (a := 3) (i := 148) rfl rfl).trans ?_
      refine (dc_ic (x := 2) (i := 149) rfl).trans ?_
      refine (dc_bin (f := (fun x y => x + y)) (i := 150) rfl _ _).trans ?_
      refine (dn_iald (t := 3) (i := 151) rfl _ _).trans (congrArg (qa_i _ _ _ _) (funext fun y23 => ?_))
      refine (dc_aload (a := 0) (i := 152) rfl rfl).trans ?_
      refine (dc_iload (a := 3) (i := 153) rfl rfl).trans ?_
      refine (dc_ic (x := 3) (i := 154) rfl).trans ?_
      refine (dc_bin (f := (fun x y => x + y)) (i := 155) rfl _ _).trans ?_
      refine (dn_iald (t := 3) (i := 156) rfl _ _).trans (congrArg (qa_i _ _ _ _) (funext fun y24 => ?_))
      refine (dn_cV_i (i := 157) (y := 20) (na := 4) (ci := 8) rfl (pa_4 _ _ _ _ _) (Nat.le_of_ble_eq_true rfl) (Nat.le_of_ble_eq_true rfl)).trans (congrArg (fun F => qv _ _ _ (qr_i _ F)) (funext fun y25 => funext fun hp5 => ?_))
      refine (dc_aload (a := 2) (i := 158) rfl rfl).trans ?_
      refine (dc_aload (a := 0) (i := 159) rfl rfl).trans ?_
      refine (dc_iload (a := 3) (i := 160) rfl rfl).trans ?_
      refine (dc_ic (x := 1) (i := 161) rfl).trans ?_
      refine (dc_bin (f := (fun x y => x + y)) (i := 162) rfl _ _).trans ?_
      refine (dn_iald (t := 3) (i := 163) rfl _ _).trans (congrArg (qa_i _ _ _ _) (funext fun y26 => ?_))
      refine (dc_aload (a := 0) (i := 164) rfl rfl).trans ?_
      refine (dc_iload (a := 3) (i := 165) rfl rfl).trans ?_
      refine (dc_ic (x := 2) (i := 166) rfl).trans ?_
      refine (dc_bin (f := (fun x y => x + y)) (i := 167) rfl _ _).trans ?_
      refine (dn_iald (t := 3) (i := 168) rfl _ _).trans (congrArg (qa_i _ _ _ _) (funext fun y27 => ?_))
      refine (dc_aload (a := 0) (i := 169) rfl rfl).trans ?_
      refine (dc_iload (a := 3) (i := 170) rfl rfl).trans ?_
      refine (dc_ic (x := 3) (i := 171) rfl).trans ?_
      refine (dc_bin (f := (fun x y => x + y)) (i := 172) rfl _ _).trans ?_
      refine (dn_iald (t := 3) (i := 173) rfl _ _).trans (congrArg (qa_i _ _ _ _) (funext fun y28 => ?_))
      refine (dn_cV_i (i := 174) (y := 116) (na := 4) (ci := 9) rfl (pa_4 _ _ _ _ _) (Nat.le_of_ble_eq_true rfl) (Nat.le_of_ble_eq_true rfl)).trans (congrArg (fun F => qv _ _ _ (qr_i _ F)) (funext fun y29 => funext fun hp6 => ?_))
      refine (dn_icmp (c := (fun x y => decide (x = y))) (t := 641) (i := 175) rfl _ _).trans (q_ite ?_ ?_)
      · exact rfl
      · refine (dc_ic (x := 0) (i := 176) rfl).trans ?_
        exact dn_zret (i := 177) rfl _
    refine q_swc ?_ ?_
    · refine (dc_aload (a := 1) (i := 178) rfl rfl).trans ?_
      refine (dc_aload (a := 0) (i := 179) rfl rfl).trans ?_
      refine (dc_iload (a := 3) (i := 180) rfl rfl).trans ?_
      refine (dc_ic (x := 1) (i := 181) rfl).trans ?_
      refine (dc_bin (f := (fun x y => x + y)) (i := 182) rfl _ _).trans ?_
      refine (dn_iald (t := 3) (i := 183) rfl _ _).trans (congrArg (qa_i _ _ _ _) (funext fun y30 => ?_))
      refine (dn_cV_i (i := 184) (y := 24) (na := 2) (ci := 8) rfl (pa_2 _ _ _) (Nat.le_of_ble_eq_true rfl) (Nat.le_of_ble_eq_true rfl)).trans (congrArg (fun F => qv _ _ _ (qr_i _ F)) (funext fun y31 => funext fun hp7 => ?_))
      refine (dc_aload (a := 2) (i := 185) rfl rfl).trans ?_
      refine (dc_aload (a := 0) (i := 186) rfl rfl).trans ?_
      refine (dc_iload (a := 3) (i := 187) rfl rfl).trans ?_
      refine (dc_ic (x := 1) (i := 188) rfl).trans ?_
      refine (dc_bin (f := (fun x y => x + y)) (i := 189) rfl _ _).trans ?_
      refine (dn_iald (t := 3) (i := 190) rfl _ _).trans (congrArg (qa_i _ _ _ _) (funext fun y32 => ?_))
      refine (dn_cV_i (i := 191) (y := 117) (na := 2) (ci := 9) rfl (pa_2 _ _ _) (Nat.le_of_ble_eq_true rfl) (Nat.le_of_ble_eq_true rfl)).trans (congrArg (fun F => qv _ _ _ (qr_i _ F)) (funext fun y33 => funext fun hp8 => ?_))
      refine (dn_icmp (c := (fun x y => decide (x = y))) (t := 641) (i := 192) rfl _ _).trans (q_ite ?_ ?_)
      · exact rfl
      · refine (dc_ic (x := 0) (i := 193) rfl).trans ?_
        exact dn_zret (i := 194) rfl _
    refine q_swc ?_ ?_
    · refine (dc_aload (a := 1) (i := 195) rfl rfl).trans ?_
      refine (dn_cV_i (i := 196) (y := 26) (na := 1) (ci := 8) rfl (pa_1 _ _) (Nat.le_of_ble_eq_true rfl) (Nat.le_of_ble_eq_true rfl)).trans (congrArg (fun F => qv _ _ _ (qr_i _ F)) (funext fun y34 => funext fun hp9 => ?_))
      refine (dc_aload (a := 2) (i := 197) rfl rfl).trans ?_
      refine (dn_cV_i (i := 198) (y := 118) (na := 1) (ci := 9) rfl (pa_1 _ _) (Nat.le_of_ble_eq_true rfl) (Nat.le_of_ble_eq_true rfl)).trans (congrArg (fun F => qv _ _ _ (qr_i _ F)) (funext fun y35 => funext fun hp10 => ?_))
      refine (dn_icmp (c := (fun x y => decide (x = y))) (t := 641) (i := 199) rfl _ _).trans (q_ite ?_ ?_)
      · exact rfl
      · refine (dc_ic (x := 0) (i := 200) rfl).trans ?_
        exact dn_zret (i := 201) rfl _
    refine q_swc ?_ ?_
    · refine (dc_aload (a := 1) (i := 202) rfl rfl).trans ?_
      refine (dn_cV_i (i := 203) (y := 28) (na := 1) (ci := 8) rfl (pa_1 _ _) (Nat.le_of_ble_eq_true rfl) (Nat.le_of_ble_eq_true rfl)).trans (congrArg (fun F => qv _ _ _ (qr_i _ F)) (funext fun y36 => funext fun hp11 => ?_))
      refine (dc_aload (a := 2) (i := 204) rfl rfl).trans ?_
      refine (dn_cV_i (i := 205) (y := 119) (na := 1) (ci := 9) rfl (pa_1 _ _) (Nat.le_of_ble_eq_true rfl) (Nat.le_of_ble_eq_true rfl)).trans (congrArg (fun F => qv _ _ _ (qr_i _ F)) (funext fun y37 => funext fun hp12 => ?_))
      refine (dn_icmp (c := (fun x y => decide (x = y))) (t := 641) (i := 206) rfl _ _).trans (q_ite ?_ ?_)
      · exact rfl
      · refine (dc_ic (x := 0) (i := 207) rfl).trans ?_
        exact dn_zret (i := 208) rfl _
    refine q_swc ?_ ?_
    · refine (dc_aload (a := 1) (i := 209) rfl rfl).trans ?_
      refine (dc_aload (a := 0) (i := 210) rfl rfl).trans ?_
      refine (dc_iload (a := 3) (i := 211) rfl rfl).trans ?_
      refine (dc_ic (x := 1) (i := 212) rfl).trans ?_
      refine (dc_bin (f := (fun x y => x + y)) (i := 213) rfl _ _).trans ?_
      refine (dn_iald (t := 3) (i := 214) rfl _ _).trans (congrArg (qa_i _ _ _ _) (funext fun y38 => ?_))
      refine (dn_cV_i (i := 215) (y := 35) (na := 2) (ci := 8) rfl (pa_2 _ _ _) (Nat.le_of_ble_eq_true rfl) (Nat.le_of_ble_eq_true rfl)).trans (congrArg (fun F => qv _ _ _ (qr_i _ F)) (funext fun y39 => funext fun hp13 => ?_))
      refine (dc_aload (a := 2) (i := 216) rfl rfl).trans ?_
      refine (dc_aload (a := 0) (i := 217) rfl rfl).trans ?_
      refine (dc_iload (a := 3) (i := 218) rfl rfl).trans ?_
      refine (dc_ic (x := 1) (i := 219) rfl).trans ?_
      refine (dc_bin (f := (fun x y => x + y)) (i := 220) rfl _ _).trans ?_
      refine (dn_iald (t := 3) (i := 221) rfl _ _).trans (congrArg (qa_i _ _ _ _) (funext fun y40 => ?_))
      refine (dn_cV_i (i := 222) (y := 125) (na := 2) (ci := 9) rfl (pa_2 _ _ _) (Nat.le_of_ble_eq_true rfl) (Nat.le_of_ble_eq_true rfl)).trans (congrArg (fun F => qv _ _ _ (qr_i _ F)) (funext fun y41 => funext fun hp14 => ?_))
      refine (dn_icmp (c := (fun x y => decide (x = y))) (t := 641) (i := 223) rfl _ _).trans (q_ite ?_ ?_)
      · exact rfl
      · refine (dc_ic (x := 0) (i := 224) rfl).trans ?_
        exact dn_zret (i := 225) rfl _
    refine q_swc ?_ ?_
    · refine (dc_aload (a := 1) (i := 226) rfl rfl).trans ?_
      refine (dc_aload (a := 0) (i := 227) rfl rfl).trans ?_
      refine (dc_iload (a := 3) (i := 228) rfl rfl).trans ?_
      refine (dc_ic (x := 1) (i := 229) rfl).trans ?_
      refine (dc_bin (f := (fun x y => x + y)) (i := 230) rfl _ _).trans ?_
      refine (dn_iald (t := 3) (i := 231) rfl _ _).trans (congrArg (qa_i _ _ _ _) (funext fun y42 => ?_))
      refine (dc_aload (a := 0) (i := 232) rfl rfl).trans ?_
      refine (dc_iload (a := 3) (i := 233) rfl rfl).trans ?_
      refine (dc_ic (x := 2) (i := 234) rfl).trans ?_
      refine (dc_bin (f := (fun x y => x + y)) (i := 235) rfl _ _).trans ?_
      refine (dn_iald (t := 3) (i := 236) rfl _ _).trans (congrArg (qa_i _ _ _ _) (funext fun y43 => ?_))
      refine (dn_cV_i (i := 237) (y := 57) (na := 3) (ci := 8) rfl (pa_3 _ _ _ _) (Nat.le_of_ble_eq_true rfl) (Nat.le_of_ble_eq_true rfl)).trans (congrArg (fun F => qv _ _ _ (qr_i _ F)) (funext fun y44 => funext fun hp15 => ?_))
      refine (dc_aload (a := 2) (i := 238) rfl rfl).trans ?_
      refine (dc_aload (a := 0) (i := 239) rfl rfl).trans ?_
      refine (dc_iload (a := 3) (i := 240) rfl rfl).trans ?_
      refine (dc_ic (x := 1) (i := 241) rfl).trans ?_
      refine (dc_bin (f := (fun x y => x + y)) (i := 242) rfl _ _).trans ?_
      refine (dn_iald (t := 3) (i := 243) rfl _ _).trans (congrArg (qa_i _ _ _ _) (funext fun y45 => ?_))
      refine (dc_aload (a := 0) (i := 244) rfl rfl).trans ?_
      refine (dc_iload (a := 3) (i := 245) rfl rfl).trans ?_
      refine (dc_ic (x := 2) (i := 246) rfl).trans ?_
      refine (dc_bin (f := (fun x y => x + y)) (i := 247) rfl _ _).trans ?_
      refine (dn_iald (t := 3) (i := 248) rfl _ _).trans (congrArg (qa_i _ _ _ _) (funext fun y46 => ?_))
      refine (dn_cV_i (i := 249) (y := 140) (na := 3) (ci := 9) rfl (pa_3 _ _ _ _) (Nat.le_of_ble_eq_true rfl) (Nat.le_of_ble_eq_true rfl)).trans (congrArg (fun F => qv _ _ _ (qr_i _ F)) (funext fun y47 => funext fun hp16 => ?_))
      refine (dn_icmp (c := (fun x y => decide (x = y))) (t := 641) (i := 250) rfl _ _).trans (q_ite ?_ ?_)
      · exact rfl
      · refine (dc_ic (x := 0) (i := 251) rfl).trans ?_
        exact dn_zret (i := 252) rfl _
    refine q_swc ?_ ?_
    · refine (dc_aload (a := 1) (i := 253) rfl rfl).trans ?_
      refine (dc_aload (a := 0) (i := 254) rfl rfl).trans ?_
      refine (dc_iload (a := 3) (i := 255) rfl rfl).trans ?_
      refine (dc_ic (x := 1) (i := 256) rfl).trans ?_
      refine (dc_bin (f := (fun x y => x + y)) (i := 257) rfl _ _).trans ?_
      refine (dn_iald (t := 3) (i := 258) rfl _ _).trans (congrArg (qa_i _ _ _ _) (funext fun y48 => ?_))
      refine (dn_cV_i (i := 259) (y := 58) (na := 2) (ci := 8) rfl (pa_2 _ _ _) (Nat.le_of_ble_eq_true rfl) (Nat.le_of_ble_eq_true rfl)).trans (congrArg (fun F => qv _ _ _ (qr_i _ F)) (funext fun y49 => funext fun hp17 => ?_))
      refine (dc_aload (a := 2) (i := 260) rfl rfl).trans ?_
      refine (dc_aload (a := 0) (i := 261) rfl rfl).trans ?_
      refine (dc_iload (a := 3) (i := 262) rfl rfl).trans ?_
      refine (dc_ic (x := 1) (i := 263) rfl).trans ?_
      refine (dc_bin (f := (fun x y => x + y)) (i := 264) rfl _ _).trans ?_
      refine (dn_iald (t := 3) (i := 265) rfl _ _).trans (congrArg (qa_i _ _ _ _) (funext fun y50 => ?_))
      refine (dn_cV_i (i := 266) (y := 142) (na := 2) (ci := 9) rfl (pa_2 _ _ _) (Nat.le_of_ble_eq_true rfl) (Nat.le_of_ble_eq_true rfl)).trans (congrArg (fun F => qv _ _ _ (qr_i _ F)) (funext fun y51 => funext fun hp18 => ?_))
      refine (dn_icmp (c := (fun x y => decide (x = y))) (t := 641) (i := 267) rfl _ _).trans (q_ite ?_ ?_)
      · exact rfl
      · refine (dc_ic (x := 0) (i := 268) rfl).trans ?_
        exact dn_zret (i := 269) rfl _
    refine q_swc ?_ ?_
    · refine (dc_aload (a := 1) (i := 270) rfl rfl).trans ?_
      refine (dc_aload (a := 0) (i := 271) rfl rfl).trans ?_
      refine (dc_iload (a := 3) (i := 272) rfl rfl).trans ?_
      refine (dc_ic (x := 1) (i := 273) rfl).trans ?_
      refine (dc_bin (f := (fun x y => x + y)) (i := 274) rfl _ _).trans ?_
      refine (dn_iald (t := 3) (i := 275) rfl _ _).trans (congrArg (qa_i _ _ _ _) (funext fun y52 => ?_))
      refine (dn_cV_i (i := 276) (y := 60) (na := 2) (ci := 8) rfl (pa_2 _ _ _) (Nat.le_of_ble_eq_true rfl) (Nat.le_of_ble_eq_true rfl)).trans (congrArg (fun F => qv _ _ _ (qr_i _ F)) (funext fun y53 => funext fun hp19 => ?_))
      refine (dc_aload (a := 2) (i := 277) rfl rfl).trans ?_
      refine (dc_aload (a := 0) (i := 278) rfl rfl).trans ?_
      refine (dc_iload (a := 3) (i := 279) rfl rfl).trans ?_
      refine (dc_ic (x := 1) (i := 280) rfl).trans ?_
      refine (dc_bin (f := (fun x y => x + y)) (i := 281) rfl _ _).trans ?_
      refine (dn_iald (t := 3) (i := 282) rfl _ _).trans (congrArg (qa_i _ _ _ _) (funext fun y54 => ?_))
      refine (dn_cV_i (i := 283) (y := 145) (na := 2) (ci := 9) rfl (pa_2 _ _ _) (Nat.le_of_ble_eq_true rfl) (Nat.le_of_ble_eq_true rfl)).trans (congrArg (fun F => qv _ _ _ (qr_i _ F)) (funext fun y55 => funext fun hp20 => ?_))
      refine (dn_icmp (c := (fun x y => decide (x = y))) (t := 641) (i := 284) rfl _ _).trans (q_ite ?_ ?_)
      · exact rfl
      · refine (dc_ic (x := 0) (i := 285) rfl).trans ?_
        exact dn_zret (i := 286) rfl _
    refine q_swc ?_ ?_
    · refine (dc_aload (a := 1) (i := 287) rfl rfl).trans ?_
      refine (dn_cV_i (i := 288) (y := 61) (na := 1) (ci := 8) rfl (pa_1 _ _) (Nat.le_of_ble_eq_true rfl) (Nat.le_of_ble_eq_true rfl)).trans (congrArg (fun F => qv _ _ _ (qr_i _ F)) (funext fun y56 => funext fun hp21 => ?_))
      refine (dc_aload (a := 2) (i := 289) rfl rfl).trans ?_
      refine (dn_cV_i (i := 290) (y := 146) (na := 1) (ci := 9) rfl (pa_1 _ _) (Nat.le_of_ble_eq_true rfl) (Nat.le_of_ble_eq_true rfl)).trans (congrArg (fun F => qv _ _ _ (qr_i _ F)) (funext fun y57 => funext fun hp22 => ?_))
      refine (dn_icmp (c := (fun x y => decide (x = y))) (t := 641) (i := 291) rfl _ _).trans (q_ite ?_ ?_)
      · exact rfl
      · refine (dc_ic (x := 0) (i := 292) rfl).trans ?_
        exact dn_zret (i := 293) rfl _
    refine q_swc ?_ ?_
    · refine (dc_aload (a := 1) (i := 294) rfl rfl).trans ?_
      refine (dc_aload (a := 0) (i := 295) rfl rfl).trans ?_
      refine (dc_iload (a := 3) (i := 296) rfl rfl).trans ?_
      refine (dc_ic (x := 1) (i := 297) rfl).trans ?_
      refine (dc_bin (f := (fun x y => x + y)) (i := 298) rfl _ _).trans ?_
      refine (dn_iald (t := 3) (i := 299) rfl _ _).trans (congrArg (qa_i _ _ _ _) (funext fun y58 => ?_))
      refine (dc_aload (a := 0) (i := 300) rfl rfl).trans ?_
      refine (dc_iload (a := 3) (i := 301) rfl rfl).trans ?_
      refine (dc_ic (x := 2) (i := 302) rfl).trans ?_
      refine (dc_bin (f := (fun x y => x + y)) (i := 303) rfl _ _).trans ?_
      refine (dn_iald (t := 3) (i := 304) rfl _ _).trans (congrArg (qa_i _ _ _ _) (funext fun y59 => ?_))
      refine (dn_cV_i (i := 305) (y := 62) (na := 3) (ci := 8) rfl (pa_3 _ _ _ _) (Nat.le_of_ble_eq_true rfl) (Nat.le_of_ble_eq_true rfl)).trans (congrArg (fun F => qv _ _ _ (qr_i _ F)) (funext fun y60 => funext fun hp23 => ?_))
      refine (dc_aload (a := 2) (i := 306) rfl rfl).trans ?_
      refine (dc_aload (a := 0) (i := 307) rfl rfl).trans ?_
      refine (dc_iload (a := 3) (i := 308) rfl rfl).trans ?_
      refine (dc_ic (x := 1) (i := 309) rfl).trans ?_
      refine (dc_bin (f := (fun x y => x + y)) (i := 310) rfl _ _).trans ?_
      refine (dn_iald (t := 3) (i := 311) rfl _ _).trans (congrArg (qa_i _ _ _ _) (funext fun y61 => ?_))
      refine (dc_aload (a := 0) (i := 312) rfl rfl).trans ?_
      refine (dc_iload (a := 3) (i := 313) rfl rfl).trans ?_
      refine (dc_ic (x := 2) (i := 314) rfl).trans ?_
      refine (dc_bin (f := (fun x y => x + y)) (i := 315) rfl _ _).trans ?_
      refine (dn_iald (t := 3) (i := 316) rfl _ _).trans (congrArg (qa_i _ _ _ _) (funext fun y62 => ?_))
      refine (dn_cV_i (i := 317) (y := 147) (na := 3) (ci := 9) rfl (pa_3 _ _ _ _) (Nat.le_of_ble_eq_true rfl) (Nat.le_of_ble_eq_true rfl)).trans (congrArg (fun F => qv _ _ _ (qr_i _ F)) (funext fun y63 => funext fun hp24 => ?_))
      refine (dn_icmp (c := (fun x y => decide (x = y))) (t := 641) (i := 318) rfl _ _).trans (q_ite ?_ ?_)
      · exact rfl
      · refine (dc_ic (x := 0) (i := 319) rfl).trans ?_
        exact dn_zret (i := 320) rfl _
    refine q_swc ?_ ?_
    · refine (dc_aload (a := 1) (i := 321) rfl rfl).trans ?_
      refine (dc_aload (a := 0) (i := 322) rfl rfl).trans ?_
      refine (dc_iload (a := 3) (i := 323) rfl rfl).trans ?_
      refine (dc_ic (x := 1) (i := 324) rfl).trans ?_
      refine (dc_bin (f := (fun x y => x + y)) (i := 325) rfl _ _).trans ?_
      refine (dn_iald (t := 3) (i := 326) rfl _ _).trans (congrArg (qa_i _ _ _ _) (funext fun y64 => ?_))
      refine (dn_cV_i (i := 327) (y := 64) (na := 2) (ci := 8) rfl (pa_2 _ _ _) (Nat.le_of_ble_eq_true rfl) (Nat.le_of_ble_eq_true rfl)).trans (congrArg (fun F => qv _ _ _ (qr_i _ F)) (funext fun y65 => funext fun hp25 => ?_))
      refine (dc_aload (a := 2) (i := 328) rfl rfl).trans ?_
      refine (dc_aload (a := 0) (i := 329) rfl rfl).trans ?_
      refine (dc_iload (a := 3) (i := 330) rfl rfl).trans ?_
      refine (dc_ic (x := 1) (i := 331) rfl).trans ?_
      refine (dc_bin (f := (fun x y => x + y)) (i := 332) rfl _ _).trans ?_
      refine (dn_iald (t := 3) (i := 333) rfl _ _).trans (congrArg (qa_i _ _ _ _) (funext fun y66 => ?_))
      refine (dn_cV_i (i := 334) (y := 149) (na := 2) (ci := 9) rfl (pa_2 _ _ _) (Nat.le_of_ble_eq_true rfl) (Nat.le_of_ble_eq_true rfl)).trans (congrArg (fun F => qv _ _ _ (qr_i _ F)) (funext fun y67 => funext fun hp26 => ?_))
      refine (dn_icmp (c := (fun x y => decide (x = y))) (t := 641) (i := 335) rfl _ _).trans (q_ite ?_ ?_)
      · exact rfl
      · refine (dc_ic (x := 0) (i := 336) rfl).trans ?_
        exact dn_zret (i := 337) rfl _
    refine q_swc ?_ ?_
    · refine (dc_aload (a := 1) (i := 338) rfl rfl).trans ?_
      refine (dc_aload (a := 0) (i := 339) rfl rfl).trans ?_
      refine (dc_iload (a := 3) (i := 340) rfl rfl).trans ?_
      refine (dc_ic (x := 1) (i := 341) rfl).trans ?_
      refine (dc_bin (f := (fun x y => x + y)) (i := 342) rfl _ _).trans ?_
      refine (dn_iald (t := 3) (i := 343) rfl _ _).trans (congrArg (qa_i _ _ _ _) (funext fun y68 => ?_))
      refine (dn_cV_i (i := 344) (y := 68) (na := 2) (ci := 8) rfl (pa_2 _ _ _) (Nat.le_of_ble_eq_true rfl) (Nat.le_of_ble_eq_true rfl)).trans (congrArg (fun F => qv _ _ _ (qr_i _ F)) (funext fun y69 => funext fun hp27 => ?_))
      refine (dc_aload (a := 2) (i := 345) rfl rfl).trans ?_
      refine (dc_aload (a := 0) (i := 346) rfl rfl).trans ?_
      refine (dc_iload (a := 3) (i := 347) rfl rfl).trans ?_
      refine (dc_ic (x := 1) (i := 348) rfl).trans ?_
      refine (dc_bin (f := (fun x y => x + y)) (i := 349) rfl _ _).trans ?_
      refine (dn_iald (t := 3) (i := 350) rfl _ _).trans (congrArg (qa_i _ _ _ _) (funext fun y70 => ?_))
      refine (dn_cV_i (i := 351) (y := 151) (na := 2) (ci := 9) rfl (pa_2 _ _ _) (Nat.le_of_ble_eq_true rfl) (Nat.le_of_ble_eq_true rfl)).trans (congrArg (fun F => qv _ _ _ (qr_i _ F)) (funext fun y71 => funext fun hp28 => ?_))
      refine (dn_icmp (c := (fun x y => decide (x = y))) (t := 641) (i := 352) rfl _ _).trans (q_ite ?_ ?_)
      · exact rfl
      · refine (dc_ic (x := 0) (i := 353) rfl).trans ?_
        exact dn_zret (i := 354) rfl _
    refine q_swc ?_ ?_
    · refine (dc_aload (a := 1) (i := 355) rfl rfl).trans ?_
      refine (dc_aload (a := 0) (i := 356) rfl rfl).trans ?_
      refine (dc_iload (a := 3) (i := 357) rfl rfl).trans ?_
      refine (dc_ic (x := 1) (i := 358) rfl).trans ?_
      refine (dc_bin (f := (fun x y => x + y)) (i := 359) rfl _ _).trans ?_
      refine (dn_iald (t := 3) (i := 360) rfl _ _).trans (congrArg (qa_i _ _ _ _) (funext fun y72 => ?_))
      refine (dc_aload (a := 0) (i := 361) rfl rfl).trans ?_
      refine (dc_iload (a := 3) (i := 362) rfl rfl).trans ?_
      refine (dc_ic (x := 2) (i := 363) rfl).trans ?_
      refine (dc_bin (f := (fun x y => x + y)) (i := 364) rfl _ _).trans ?_
      refine (dn_iald (t := 3) (i := 365) rfl _ _).trans (congrArg (qa_i _ _ _ _) (funext fun y73 => ?_))
      refine (dc_aload (a := 0) (i := 366) rfl rfl).trans ?_
      refine (dc_iload (a := 3) (i := 367) rfl rfl).trans ?_
      refine (dc_ic (x := 3) (i := 368) rfl).trans ?_
      refine (dc_bin (f := (fun x y => x + y)) (i := 369) rfl _ _).trans ?_
      refine (dn_iald (t := 3) (i := 370) rfl _ _).trans (congrArg (qa_i _ _ _ _) (funext fun y74 => ?_))
      refine (dc_aload (a := 0) (i := 371) rfl rfl).trans ?_
      refine (dc_iload (a := 3) (i := 372) rfl rfl).trans ?_
      refine (dc_ic (x := 4) (i := 373) rfl).trans ?_
      refine (dc_bin (f := (fun x y => x + y)) (i := 374) rfl _ _).trans ?_
      refine (dn_iald (t := 3) (i := 375) rfl _ _).trans (congrArg (qa_i _ _ _ _) (funext fun y75 => ?_))
      refine (dc_aload (a := 0) (i := 376) rfl rfl).trans ?_
      refine (dc_iload (a := 3) (i := 377) rfl rfl).trans ?_
      refine (dc_ic (x := 5) (i := 378) rfl).trans ?_
      refine (dc_bin (f := (fun x y => x + y)) (i := 379) rfl _ _).trans ?_
      refine (dn_iald (t := 3) (i := 380) rfl _ _).trans (congrArg (qa_i _ _ _ _) (funext fun y76 => ?_))
      refine (dn_cV_i (i := 381) (y := 72) (na := 6) (ci := 8) rfl (pa_6 _ _ _ _ _ _ _) (Nat.le_of_ble_eq_true rfl) (Nat.le_of_ble_eq_true rfl)).trans (congrArg (fun F => qv _ _ _ (qr_i _ F)) (funext fun y77 => funext fun hp29 => ?_))
      refine (dc_aload (a := 2) (i := 382) rfl rfl).trans ?_
      refine (dc_aload (a := 0) (i := 383) rfl rfl).trans ?_
      refine (dc_iload (a := 3) (i := 384) rfl rfl).trans ?_
      refine (dc_ic (x := 1) (i := 385) rfl).trans ?_
      refine (dc_bin (f := (fun x y => x + y)) (i := 386) rfl _ _).trans ?_
      refine (dn_iald (t := 3) (i := 387) rfl _ _).trans (congrArg (qa_i _ _ _ _) (funext fun y78 => ?_))
      refine (dc_aload (a := 0) (i := 388) rfl rfl).trans ?_
      refine (dc_iload (a := 3) (i := 389) rfl rfl).trans ?_
      refine (dc_ic (x := 2) (i := 390) rfl).trans ?_
      refine (dc_bin (f := (fun x y => x + y)) (i := 391) rfl _ _).trans ?_
      refine (dn_iald (t := 3) (i := 392) rfl _ _).trans (congrArg (qa_i _ _ _ _) (funext fun y79 => ?_))
      refine (dc_aload (a := 0) (i := 393) rfl rfl).trans ?_
      refine (dc_iload (a := 3) (i := 394) rfl rfl).trans ?_
      refine (dc_ic (x := 3) (i := 395) rfl).trans ?_
      refine (dc_bin (f := (fun x y => x + y)) (i := 396) rfl _ _).trans ?_
      refine (dn_iald (t := 3) (i := 397) rfl _ _).trans (congrArg (qa_i _ _ _ _) (funext fun y80 => ?_))
      refine (dc_aload (a := 0) (i := 398) rfl rfl).trans ?_
      refine (dc_iload (a := 3) (i := 399) rfl rfl).trans ?_
      refine (dc_ic (x := 4) (i := 400) rfl).trans ?_
      refine (dc_bin (f := (fun x y => x + y)) (i := 401) rfl _ _).trans ?_
      refine (dn_iald (t := 3) (i := 402) rfl _ _).trans (congrArg (qa_i _ _ _ _) (funext fun y81 => ?_))
      refine (dc_aload (a := 0) (i := 403) rfl rfl).trans ?_
      refine (dc_iload (a := 3) (i := 404) rfl rfl).trans ?_
      refine (dc_ic (x := 5) (i := 405) rfl).trans ?_
      refine (dc_bin (f := (fun x y => x + y)) (i := 406) rfl _ _).trans ?_
      refine (dn_iald (t := 3) (i := 407) rfl _ _).trans (congrArg (qa_i _ _ _ _) (funext fun y82 => ?_))
      refine (dn_cV_i (i := 408) (y := 154) (na := 6) (ci := 9) rfl (pa_6 _ _ _ _ _ _ _) (Nat.le_of_ble_eq_true rfl) (Nat.le_of_ble_eq_true rfl)).trans (congrArg (fun F => qv _ _ _ (qr_i _ F)) (funext fun y83 => funext fun hp30 => ?_))
      refine (dn_icmp (c := (fun x y => decide (x = y))) (t := 641) (i := 409) rfl _ _).trans (q_ite ?_ ?_)
      · exact rfl
      · refine (dc_ic (x := 0) (i := 410) rfl).trans ?_
        exact dn_zret (i := 411) rfl _
    refine q_swc ?_ ?_
    · refine (dc_aload (a := 1) (i := 412) rfl rfl).trans ?_
      refine (dc_aload (a := 0) (i := 413) rfl rfl).trans ?_
      refine (dc_iload (a := 3) (i := 414) rfl rfl).trans ?_
      refine (dc_ic (x := 1) (i := 415) rfl).trans ?_
      refine (dc_bin (f := (fun x y => x + y)) (i := 416) rfl _ _).trans ?_
      refine (dn_iald (t := 3) (i := 417) rfl _ _).trans (congrArg (qa_i _ _ _ _) (funext fun y84 => ?_))
      refine (dc_aload (a := 0) (i := 418) rfl rfl).trans ?_
      refine (dc_iload (a := 3) (i := 419) rfl rfl).trans ?_
      refine (dc_ic (x := 2) (i := 420) rfl).trans ?_
      refine (dc_bin (f := (fun x y => x + y)) (i := 421) rfl _ _).trans ?_
      refine (dn_iald (t := 3) (i := 422) rfl _ _).trans (congrArg (qa_i _ _ _ _) (funext fun y85 => ?_))
      refine (dn_if (c := (fun x => decide (x = 0))) (t := 426) (i := 423) rfl _).trans (q_ite ?_ ?_)
      · refine (dc_ic (x := 0) (i := 426) rfl).trans ?_
        exact rfl
      · refine (dc_ic (x := 1) (i := 424) rfl).trans ?_
        refine (dc_goto (t := 427) (i := 425) rfl).trans ?_
        exact rfl
    refine q_swc ?_ ?_
    · refine (dc_aload (a := 1) (i := 447) rfl rfl).trans ?_
      refine (dn_cV_i (i := 448) (y := 81) (na := 1) (ci := 8) rfl (pa_1 _ _) (Nat.le_of_ble_eq_true rfl) (Nat.le_of_ble_eq_true rfl)).trans (congrArg (fun F => qv _ _ _ (qr_i _ F)) (funext fun y86 => funext fun hp31 => ?_))
      refine (dc_aload (a := 2) (i := 449) rfl rfl).trans ?_
      refine (dn_cV_i (i := 450) (y := 161) (na := 1) (ci := 9) rfl (pa_1 _ _) (Nat.le_of_ble_eq_true rfl) (Nat.le_of_ble_eq_true rfl)).trans (congrArg (fun F => qv _ _ _ (qr_i _ F)) (funext fun y87 => funext fun hp32 => ?_))
      refine (dn_icmp (c := (fun x y => decide (x = y))) (t := 641) (i := 451) rfl _ _).trans (q_ite ?_ ?_)
      · exact rfl
      · refine (dc_ic (x := 0) (i := 452) rfl).trans ?_
        exact dn_zret (i := 453) rfl _
    refine q_swc ?_ ?_
    · refine (dc_aload (a := 1) (i := 454) rfl rfl).trans ?_
      refine (dc_aload (a := 0) (i := 455) rfl rfl).trans ?_
      refine (dc_iload (a := 3) (i := 456) rfl rfl).trans ?_
      refine (dc_ic (x := 1) (i := 457) rfl).trans ?_
      refine (dc_bin (f := (fun x y => x + y)) (i := 458) rfl _ _).trans ?_
      refine (dn_iald (t := 3) (i := 459) rfl _ _).trans (congrArg (qa_i _ _ _ _) (funext fun y88 => ?_))
      refine (dn_cV_i (i := 460) (y := 83) (na := 2) (ci := 8) rfl (pa_2 _ _ _) (Nat.le_of_ble_eq_true rfl) (Nat.le_of_ble_eq_true rfl)).trans (congrArg (fun F => qv _ _ _ (qr_i _ F)) (funext fun y89 => funext fun hp33 => ?_))
      refine (dc_aload (a := 2) (i := 461) rfl rfl).trans ?_
      refine (dc_aload (a := 0) (i := 462) rfl rfl).trans ?_
      refine (dc_iload (a := 3) (i := 463) rfl rfl).trans ?_
      refine (dc_ic (x := 1) (i := 464) rfl).trans ?_
      refine (dc_bin (f := (fun x y => x + y)) (i := 465) rfl _ _).trans ?_
      refine (dn_iald (t := 3) (i := 466) rfl _ _).trans (congrArg (qa_i _ _ _ _) (funext fun y90 => ?_))
      refine (dn_cV_i (i := 467) (y := 162) (na := 2) (ci := 9) rfl (pa_2 _ _ _) (Nat.le_of_ble_eq_true rfl) (Nat.le_of_ble_eq_true rfl)).trans (congrArg (fun F => qv _ _ _ (qr_i _ F)) (funext fun y91 => funext fun hp34 => ?_))
      refine (dn_icmp (c := (fun x y => decide (x = y))) (t := 641) (i := 468) rfl _ _).trans (q_ite ?_ ?_)
      · exact rfl
      · refine (dc_ic (x := 0) (i := 469) rfl).trans ?_
        exact dn_zret (i := 470) rfl _
    refine q_swc ?_ ?_
    · refine (dc_aload (a := 1) (i := 471) rfl rfl).trans ?_
      refine (dc_aload (a := 0) (i := 472) rfl rfl).trans ?_
      refine (dc_iload (a := 3) (i := 473) rfl rfl).trans ?_
      refine (dc_ic (x := 1) (i := 474) rfl).trans ?_
      refine (dc_bin (f := (fun x y => x + y)) (i := 475) rfl _ _).trans ?_
      refine (dn_iald (t := 3) (i := 476) rfl _ _).trans (congrArg (qa_i _ _ _ _) (funext fun y92 => ?_))
      refine (dn_cV_i (i := 477) (y := 89) (na := 2) (ci := 8) rfl (pa_2 _ _ _) (Nat.le_of_ble_eq_true rfl) (Nat.le_of_ble_eq_true rfl)).trans (congrArg (fun F => qv _ _ _ (qr_i _ F)) (funext fun y93 => funext fun hp35 => ?_))
      refine (dc_aload (a := 2) (i := 478) rfl rfl).trans ?_
      refine (dc_aload (a := 0) (i := 479) rfl rfl).trans ?_
      refine (dc_iload (a := 3) (i := 480) rfl rfl).trans ?_
      refine (dc_ic (x := 1) (i := 481) rfl).trans ?_
      refine (dc_bin (f := (fun x y => x + y)) (i := 482) rfl _ _).trans ?_
      refine (dn_iald (t := 3) (i := 483) rfl _ _).trans (congrArg (qa_i _ _ _ _) (funext fun y94 => ?_))
      refine (dn_cV_i (i := 484) (y := 165) (na := 2) (ci := 9) rfl (pa_2 _ _ _) (Nat.le_of_ble_eq_true rfl) (Nat.le_of_ble_eq_true rfl)).trans (congrArg (fun F => qv _ _ _ (qr_i _ F)) (funext fun y95 => funext fun hp36 => ?_))
      refine (dn_icmp (c := (fun x y => decide (x = y))) (t := 641) (i := 485) rfl _ _).trans (q_ite ?_ ?_)
      · exact rfl
      · refine (dc_ic (x := 0) (i := 486) rfl).trans ?_
        exact dn_zret (i := 487) rfl _
    refine q_swc ?_ ?_
    · refine (dc_aload (a := 1) (i := 488) rfl rfl).trans ?_
      refine (dc_aload (a := 0) (i := 489) rfl rfl).trans ?_
      refine (dc_iload (a := 3) (i := 490) rfl rfl).trans ?_
      refine (dc_ic (x := 1) (i := 491) rfl).trans ?_
      refine (dc_bin (f := (fun x y => x + y)) (i := 492) rfl _ _).trans ?_
      refine (dn_iald (t := 3) (i := 493) rfl _ _).trans (congrArg (qa_i _ _ _ _) (funext fun y96 => ?_))
      refine (dn_cV_i (i := 494) (y := 92) (na := 2) (ci := 8) rfl (pa_2 _ _ _) (Nat.le_of_ble_eq_true rfl) (Nat.le_of_ble_eq_true rfl)).trans (congrArg (fun F => qv _ _ _ (qr_i _ F)) (funext fun y97 => funext fun hp37 => ?_))
      refine (dc_aload (a := 2) (i := 495) rfl rfl).trans ?_
      refine (dc_aload (a := 0) (i := 496) rfl rfl).trans ?_
      refine (dc_iload (a := 3) (i := 497) rfl rfl).trans ?_
      refine (dc_ic (x := 1) (i := 498) rfl).trans ?_
      refine (dc_bin (f := (fun x y => x + y)) (i := 499) rfl _ _).trans ?_
      refine (dn_iald (t := 3) (i := 500) rfl _ _).trans (congrArg (qa_i _ _ _ _) (funext fun y98 => ?_))
      refine (dn_cV_i (i := 501) (y := 166) (na := 2) (ci := 9) rfl (pa_2 _ _ _) (Nat.le_of_ble_eq_true rfl) (Nat.le_of_ble_eq_true rfl)).trans (congrArg (fun F => qv _ _ _ (qr_i _ F)) (funext fun y99 => funext fun hp38 => ?_))
      refine (dn_icmp (c := (fun x y => decide (x = y))) (t := 641) (i := 502) rfl _ _).trans (q_ite ?_ ?_)
      · exact rfl
      · refine (dc_ic (x := 0) (i := 503) rfl).trans ?_
        exact dn_zret (i := 504) rfl _
    refine q_swc ?_ ?_
    · refine (dc_aload (a := 1) (i := 505) rfl rfl).trans ?_
      refine (dc_aload (a := 0) (i := 506) rfl rfl).trans ?_
      refine (dc_iload (a := 3) (i := 507) rfl rfl).trans ?_
      refine (dc_ic (x := 1) (i := 508) rfl).trans ?_
      refine (dc_bin (f := (fun x y => x + y)) (i := 509) rfl _ _).trans ?_
      refine (dn_iald (t := 3) (i := 510) rfl _ _).trans (congrArg (qa_i _ _ _ _) (funext fun y100 => ?_))
      refine (dc_aload (a := 0) (i := 511) rfl rfl).trans ?_
      refine (dc_iload (a := 3) (i := 512) rfl rfl).trans ?_
      refine (dc_ic (x := 2) (i := 513) rfl).trans ?_
      refine (dc_bin (f := (fun x y => x + y)) (i := 514) rfl _ _).trans ?_
      refine (dn_iald (t := 3) (i := 515) rfl _ _).trans (congrArg (qa_i _ _ _ _) (funext fun y101 => ?_))
      refine (dc_aload (a := 0) (i := 516) rfl rfl).trans ?_
      refine (dc_iload (a := 3) (i := 517) rfl rfl).trans ?_
      refine (dc_ic (x := 3) (i := 518) rfl).trans ?_
      refine (dc_bin (f := (fun x y => x + y)) (i := 519) rfl _ _).trans ?_
      refine (dn_iald (t := 3) (i := 520) rfl _ _).trans (congrArg (qa_i _ _ _ _) (funext fun y102 => ?_))
      refine (dc_aload (a := 0) (i := 521) rfl rfl).trans ?_
      refine (dc_iload (a := 3) (i := 522) rfl rfl).trans ?_
      refine (dc_ic (x := 4) (i := 523) rfl).trans ?_
      refine (dc_bin (f := (fun x y => x + y)) (i := 524) rfl _ _).trans ?_
      refine (dn_iald (t := 3) (i := 525) rfl _ _).trans (congrArg (qa_i _ _ _ _) (funext fun y103 => ?_))
      refine (dn_cV_l (i := 526) (y := 94) (na := 5) (ci := 8) rfl (pa_5 _ _ _ _ _ _) (Nat.le_of_ble_eq_true rfl) (Nat.le_of_ble_eq_true rfl)).trans (congrArg (fun F => qv _ _ _ (qr_l _ F)) (funext fun y104 => funext fun hp39 => ?_))
      refine (dc_aload (a := 2) (i := 527) rfl rfl).trans ?_
      refine (dc_aload (a := 0) (i := 528) rfl rfl).trans ?_
      refine (dc_iload (a := 3) (i := 529) rfl rfl).trans ?_
      refine (dc_ic (x := 1) (i := 530) rfl).trans ?_
      refine (dc_bin (f := (fun x y => x + y)) (i := 531) rfl _ _).trans ?_
      refine (dn_iald (t := 3) (i := 532) rfl _ _).trans (congrArg (qa_i _ _ _ _) (funext fun y105 => ?_))
      refine (dc_aload (a := 0) (i := 533) rfl rfl).trans ?_
      refine (dc_iload (a := 3) (i := 534) rfl rfl).trans ?_
      refine (dc_ic (x := 2) (i := 535) rfl).trans ?_
      refine (dc_bin (f := (fun x y => x + y)) (i := 536) rfl _ _).trans ?_
      refine (dn_iald (t := 3) (i := 537) rfl _ _).trans (congrArg (qa_i _ _ _ _) (funext fun y106 => ?_))
      refine (dc_aload (a := 0) (i := 538) rfl rfl).trans ?_
      refine (dc_iload (a := 3) (i := 539) rfl rfl).trans ?_
      refine (dc_ic (x := 3) (i := 540) rfl).trans ?_
      refine (dc_bin (f := (fun x y => x + y)) (i := 541) rfl _ _).trans ?_
      refine (dn_iald (t := 3) (i := 542) rfl _ _).trans (congrArg (qa_i _ _ _ _) (funext fun y107 => ?_))
      refine (dc_aload (a := 0) (i := 543) rfl rfl).trans ?_
      refine (dc_iload (a := 3) (i := 544) rfl rfl).trans ?_
      refine (dc_ic (x := 4) (i := 545) rfl).trans ?_
      refine (dc_bin (f := (fun x y => x + y)) (i := 546) rfl _ _).trans ?_
      refine (dn_iald (t := 3) (i := 547) rfl _ _).trans (congrArg (qa_i _ _ _ _) (funext fun y108 => ?_))
      refine (dn_cV_l (i := 548) (y := 168) (na := 5) (ci := 9) rfl (pa_5 _ _ _ _ _ _) (Nat.le_of_ble_eq_true rfl) (Nat.le_of_ble_eq_true rfl)).trans (congrArg (fun F => qv _ _ _ (qr_l _ F)) (funext fun y109 => funext fun hp40 => ?_))
      refine (dc_lcmp (i := 549) rfl _ _).trans ?_
      refine (dn_if (c := (fun x => decide (x = 0))) (t := 641) (i := 550) rfl _).trans (q_ite ?_ ?_)
      · exact rfl
      · refine (dc_ic (x := 0) (i := 551) rfl).trans ?_
        exact dn_zret (i := 552) rfl _
    refine q_swc ?_ ?_
    · refine (dc_aload (a := 1) (i := 553) rfl rfl).trans ?_
      refine (dc_aload (a := 0) (i := 554) rfl rfl).trans ?_
      refine (dc_iload (a := 3) (i := 555) rfl rfl).trans ?_
      refine (dc_ic (x := 1) (i := 556) rfl).trans ?_
      refine (dc_bin (f := (fun x y => x + y)) (i := 557) rfl _ _).trans ?_
      refine (dn_iald (t := 3) (i := 558) rfl _ _).trans (congrArg (qa_i _ _ _ _) (funext fun y110 => ?_))
      refine (dc_aload (a := 0) (i := 559) rfl rfl).trans ?_
      refine (dc_iload (a := 3) (i := 560) rfl rfl).trans ?_
      refine (dc_ic (x := 2) (i := 561) rfl).trans ?_
      refine (dc_bin (f := (fun x y => x + y)) (i := 562) rfl _ _).trans ?_
      refine (dn_iald (t := 3) (i := 563) rfl _ _).trans (congrArg (qa_i _ _ _ _) (funext fun y111 => ?_))
      refine (dc_aload (a := 0) (i := 564) rfl rfl).trans ?_
      refine (dc_iload (a := 3) (i := 565) rfl rfl).trans ?_
      refine (dc_ic (x := 3) (i := 566) rfl).trans ?_
      refine (dc_bin (f := (fun x y => x + y)) (i := 567) rfl _ _).trans ?_
      refine (dn_iald (t := 3) (i := 568) rfl _ _).trans (congrArg (qa_i _ _ _ _) (funext fun y112 => ?_))
      refine (dn_cV_i (i := 569) (y := 96) (na := 4) (ci := 8) rfl (pa_4 _ _ _ _ _) (Nat.le_of_ble_eq_true rfl) (Nat.le_of_ble_eq_true rfl)).trans (congrArg (fun F => qv _ _ _ (qr_i _ F)) (funext fun y113 => funext fun hp41 => ?_))
      refine (dc_aload (a := 2) (i := 570) rfl rfl).trans ?_
      refine (dc_aload (a := 0) (i := 571) rfl rfl).trans ?_
      refine (dc_iload (a := 3) (i := 572) rfl rfl).trans ?_
      refine (dc_ic (x := 1) (i := 573) rfl).trans ?_
      refine (dc_bin (f := (fun x y => x + y)) (i := 574) rfl _ _).trans ?_
      refine (dn_iald (t := 3) (i := 575) rfl _ _).trans (congrArg (qa_i _ _ _ _) (funext fun y114 => ?_))
      refine (dc_aload (a := 0) (i := 576) rfl rfl).trans ?_
      refine (dc_iload (a := 3) (i := 577) rfl rfl).trans ?_
      refine (dc_ic (x := 2) (i := 578) rfl).trans ?_
      refine (dc_bin (f := (fun x y => x + y)) (i := 579) rfl _ _).trans ?_
      refine (dn_iald (t := 3) (i := 580) rfl _ _).trans (congrArg (qa_i _ _ _ _) (funext fun y115 => ?_))
      refine (dc_aload (a := 0) (i := 581) rfl rfl).trans ?_
      refine (dc_iload (a := 3) (i := 582) rfl rfl).trans ?_
      refine (dc_ic (x := 3) (i := 583) rfl).trans ?_
      refine (dc_bin (f := (fun x y => x + y)) (i := 584) rfl _ _).trans ?_
      refine (dn_iald (t := 3) (i := 585) rfl _ _).trans (congrArg (qa_i _ _ _ _) (funext fun y116 => ?_))
      refine (dn_cV_i (i := 586) (y := 171) (na := 4) (ci := 9) rfl (pa_4 _ _ _ _ _) (Nat.le_of_ble_eq_true rfl) (Nat.le_of_ble_eq_true rfl)).trans (congrArg (fun F => qv _ _ _ (qr_i _ F)) (funext fun y117 => funext fun hp42 => ?_))
      refine (dn_icmp (c := (fun x y => decide (x = y))) (t := 641) (i := 587) rfl _ _).trans (q_ite ?_ ?_)
      · exact rfl
      · refine (dc_ic (x := 0) (i := 588) rfl).trans ?_
        exact dn_zret (i := 589) rfl _
    refine q_swc ?_ ?_
    · refine (dc_aload (a := 1) (i := 590) rfl rfl).trans ?_
      refine (dc_aload (a := 0) (i := 591) rfl rfl).trans ?_
      refine (dc_iload (a := 3) (i := 592) rfl rfl).trans ?_
      refine (dc_ic (x := 1) (i := 593) rfl).trans ?_
      refine (dc_bin (f := (fun x y => x + y)) (i := 594) rfl _ _).trans ?_
      refine (dn_iald (t := 3) (i := 595) rfl _ _).trans (congrArg (qa_i _ _ _ _) (funext fun y118 => ?_))
      refine (dn_cV_i (i := 596) (y := 98) (na := 2) (ci := 8) rfl (pa_2 _ _ _) (Nat.le_of_ble_eq_true rfl) (Nat.le_of_ble_eq_true rfl)).trans (congrArg (fun F => qv _ _ _ (qr_i _ F)) (funext fun y119 => funext fun hp43 => ?_))
      refine (dc_aload (a := 2) (i := 597) rfl rfl).trans ?_
      refine (dc_aload (a := 0) (i := 598) rfl rfl).trans ?_
      refine (dc_iload (a := 3) (i := 599) rfl rfl).trans ?_
      refine (dc_ic (x := 1) (i := 600) rfl).trans ?_
      refine (dc_bin (f := (fun x y => x + y)) (i := 601) rfl _ _).trans ?_
      refine (dn_iald (t := 3) (i := 602) rfl _ _).trans (congrArg (qa_i _ _ _ _) (funext fun y120 => ?_))
      refine (dn_cV_i (i := 603) (y := 173) (na := 2) (ci := 9) rfl (pa_2 _ _ _) (Nat.le_of_ble_eq_true rfl) (Nat.le_of_ble_eq_true rfl)).trans (congrArg (fun F => qv _ _ _ (qr_i _ F)) (funext fun y121 => funext fun hp44 => ?_))
      refine (dn_icmp (c := (fun x y => decide (x = y))) (t := 641) (i := 604) rfl _ _).trans (q_ite ?_ ?_)
      · exact rfl
      · refine (dc_ic (x := 0) (i := 605) rfl).trans ?_
        exact dn_zret (i := 606) rfl _
    refine q_swc ?_ ?_
    · refine (dc_aload (a := 1) (i := 607) rfl rfl).trans ?_
      refine (dc_aload (a := 0) (i := 608) rfl rfl).trans ?_
      refine (dc_iload (a := 3) (i := 609) rfl rfl).trans ?_
      refine (dc_ic (x := 1) (i := 610) rfl).trans ?_
      refine (dc_bin (f := (fun x y => x + y)) (i := 611) rfl _ _).trans ?_
      refine (dn_iald (t := 3) (i := 612) rfl _ _).trans (congrArg (qa_i _ _ _ _) (funext fun y122 => ?_))
      refine (dn_cV_i (i := 613) (y := 102) (na := 2) (ci := 8) rfl (pa_2 _ _ _) (Nat.le_of_ble_eq_true rfl) (Nat.le_of_ble_eq_true rfl)).trans (congrArg (fun F => qv _ _ _ (qr_i _ F)) (funext fun y123 => funext fun hp45 => ?_))
      refine (dc_aload (a := 2) (i := 614) rfl rfl).trans ?_
      refine (dc_aload (a := 0) (i := 615) rfl rfl).trans ?_
      refine (dc_iload (a := 3) (i := 616) rfl rfl).trans ?_
      refine (dc_ic (x := 1) (i := 617) rfl).trans ?_
      refine (dc_bin (f := (fun x y => x + y)) (i := 618) rfl _ _).trans ?_
      refine (dn_iald (t := 3) (i := 619) rfl _ _).trans (congrArg (qa_i _ _ _ _) (funext fun y124 => ?_))
      refine (dn_cV_i (i := 620) (y := 177) (na := 2) (ci := 9) rfl (pa_2 _ _ _) (Nat.le_of_ble_eq_true rfl) (Nat.le_of_ble_eq_true rfl)).trans (congrArg (fun F => qv _ _ _ (qr_i _ F)) (funext fun y125 => funext fun hp46 => ?_))
      refine (dn_icmp (c := (fun x y => decide (x = y))) (t := 641) (i := 621) rfl _ _).trans (q_ite ?_ ?_)
      · exact rfl
      · refine (dc_ic (x := 0) (i := 622) rfl).trans ?_
        exact dn_zret (i := 623) rfl _
    refine q_swc ?_ ?_
    · refine (dc_aload (a := 1) (i := 624) rfl rfl).trans ?_
      refine (dc_aload (a := 0) (i := 625) rfl rfl).trans ?_
      refine (dc_iload (a := 3) (i := 626) rfl rfl).trans ?_
      refine (dc_ic (x := 1) (i := 627) rfl).trans ?_
      refine (dc_bin (f := (fun x y => x + y)) (i := 628) rfl _ _).trans ?_
      refine (dn_iald (t := 3) (i := 629) rfl _ _).trans (congrArg (qa_i _ _ _ _) (funext fun y126 => ?_))
      refine (dn_cV_i (i := 630) (y := 103) (na := 2) (ci := 8) rfl (pa_2 _ _ _) (Nat.le_of_ble_eq_true rfl) (Nat.le_of_ble_eq_true rfl)).trans (congrArg (fun F => qv _ _ _ (qr_i _ F)) (funext fun y127 => funext fun hp47 => ?_))
      refine (dc_aload (a := 2) (i := 631) rfl rfl).trans ?_
      refine (dc_aload (a := 0) (i := 632) rfl rfl).trans ?_
      refine (dc_iload (a := 3) (i := 633) rfl rfl).trans ?_
      refine (dc_ic (x := 1) (i := 634) rfl).trans ?_
      refine (dc_bin (f := (fun x y => x + y)) (i := 635) rfl _ _).trans ?_
      refine (dn_iald (t := 3) (i := 636) rfl _ _).trans (congrArg (qa_i _ _ _ _) (funext fun y128 => ?_))
      refine (dn_cV_i (i := 637) (y := 178) (na := 2) (ci := 9) rfl (pa_2 _ _ _) (Nat.le_of_ble_eq_true rfl) (Nat.le_of_ble_eq_true rfl)).trans (congrArg (fun F => qv _ _ _ (qr_i _ F)) (funext fun y129 => funext fun hp48 => ?_))
      refine (dn_icmp (c := (fun x y => decide (x = y))) (t := 641) (i := 638) rfl _ _).trans (q_ite ?_ ?_)
      · exact rfl
      · refine (dc_ic (x := 0) (i := 639) rfl).trans ?_
        exact dn_zret (i := 640) rfl _
    refine q_swn ?_
    exact rfl
theorem B180_99 {o0 : Nat} {v1 : pO} {o2 : Nat} {x3 : Int32} {s0 : Int32} {s1 : Int32} {s2 : Int32} {s3 : Nat} {hp : pH} : dn pg 180 99 [some (.ref o0), v1, some (.ref o2), some (.int x3)] [.int s0, .int s1, .int s2, .ref s3] hp = qv hp s3 8 (qr_i (cl pg 15 [.ref s3, .int s2, .int s1, .int s0] hp) (fun y1 hp1 => qa_i hp1 o0 3 (x3 + (nI 1)) (fun y2 => qa_i hp1 o0 3 (x3 + (nI 2)) (fun y3 => qa_i hp1 o0 3 (x3 + (nI 3)) (fun y4 => if y4 = nI 0 then dn pg 180 120 [some (.ref o0), v1, some (.ref o2), some (.int x3)] [.int (nI 0), .int y3, .int y2, .ref o2, .int y1] hp1 else dn pg 180 120 [some (.ref o0), v1, some (.ref o2), some (.int x3)] [.int (nI 1), .int y3, .int y2, .ref o2, .int y1] hp1))))) := by
  refine (dn_cV_i (i := 99) (y := 15) (na := 4) (ci := 8) rfl (pa_4 _ _ _ _ _) (Nat.le_of_ble_eq_true rfl) (Nat.le_of_ble_eq_true rfl)).trans (congrArg (fun F => qv _ _ _ (qr_i _ F)) (funext fun y1 => funext fun hp1 => ?_))
  refine (dc_aload (a := 2) (i := 100) rfl rfl).trans ?_
  refine (dc_aload (a := 0) (i := 101) rfl rfl).trans ?_
  refine (dc_iload (a := 3) (i := 102) rfl rfl).trans ?_
  refine (dc_ic (x := 1) (i := 103) rfl).trans ?_
  refine (dc_bin (f := (fun x y => x + y)) (i := 104) rfl _ _).trans ?_
  refine (dn_iald (t := 3) (i := 105) rfl _ _).trans (congrArg (qa_i _ _ _ _) (funext fun y2 => ?_))
  refine (dc_aload (a := 0) (i := 106) rfl rfl).trans ?_
  refine (dc_iload (a := 3) (i := 107) rfl rfl).trans ?_
  refine (dc_ic (x := 2) (i := 108) rfl).trans ?_
  refine (dc_bin (f := (fun x y => x + y)) (i := 109) rfl _ _).trans ?_
  refine (dn_iald (t := 3) (i := 110) rfl _ _).trans (congrArg (qa_i _ _ _ _) (funext fun y3 => ?_))
  refine (dc_aload (a := 0) (i := 111) rfl rfl).trans ?_
  refine (dc_iload (a := 3) (i := 112) rfl rfl).trans ?_
  refine (dc_ic (x := 3) (i := 113) rfl).trans ?_
  refine (dc_bin (f := (fun x y => x + y)) (i := 114) rfl _ _).trans ?_
  refine (dn_iald (t := 3) (i := 115) rfl _ _).trans (congrArg (qa_i _ _ _ _) (funext fun y4 => ?_))
  refine (dn_if (c := (fun x => decide (x = 0))) (t := 119) (i := 116) rfl _).trans (q_ite ?_ ?_)
  · refine (dc_ic (x := 0) (i := 119) rfl).trans ?_
    exact rfl
  · refine (dc_ic (x := 1) (i := 117) rfl).trans ?_
    refine (dc_goto (t := 120) (i := 118) rfl).trans ?_
    exact rfl
theorem B180_120 {v0 : pO} {v1 : pO} {v2 : pO} {v3 : pO} {s0 : Int32} {s1 : Int32} {s2 : Int32} {s3 : Nat} {s4 : Int32} {hp : pH} : dn pg 180 120 [v0, v1, v2, v3] [.int s0, .int s1, .int s2, .ref s3, .int s4] hp = qv hp s3 9 (qr_i (cl pg 111 [.ref s3, .int s2, .int s1, .int s0] hp) (fun y1 hp1 => if s4 = y1 then dn pg 180 641 [v0, v1, v2, v3] [] hp1 else qz (nI 0) (q_i (nI 0) hp1))) := by
  refine (dn_cV_i (i := 120) (y := 111) (na := 4) (ci := 9) rfl (pa_4 _ _ _ _ _) (Nat.le_of_ble_eq_true rfl) (Nat.le_of_ble_eq_true rfl)).trans (congrArg (fun F => qv _ _ _ (qr_i _ F)) (funext fun y1 => funext fun hp1 => ?_))
  refine (dn_icmp (c := (fun x y => decide (x = y))) (t := 641) (i := 121) rfl _ _).trans (q_ite ?_ ?_)
  · exact rfl
  · refine (dc_ic (x := 0) (i := 122) rfl).trans ?_
    exact dn_zret (i := 123) rfl _
theorem B180_427 {o0 : Nat} {v1 : pO} {o2 : Nat} {x3 : Int32} {s0 : Int32} {s1 : Int32} {s2 : Nat} {hp : pH} : dn pg 180 427 [some (.ref o0), v1, some (.ref o2), some (.int x3)] [.int s0, .int s1, .ref s2] hp = qv hp s2 8 (qr_i (cl pg 79 [.ref s2, .int s1, .int s0] hp) (fun y1 hp1 => qa_i hp1 o0 3 (x3 + (nI 1)) (fun y2 => qa_i hp1 o0 3 (x3 + (nI 2)) (fun y3 => if y3 = nI 0 then dn pg 180 443 [some (.ref o0), v1, some (.ref o2), some (.int x3)] [.int (nI 0), .int y2, .ref o2, .int y1] hp1 else dn pg 180 443 [some (.ref o0), v1, some (.ref o2), some (.int x3)] [.int (nI 1), .int y2, .ref o2, .int y1] hp1)))) := by
  refine (dn_cV_i (i := 427) (y := 79) (na := 3) (ci := 8) rfl (pa_3 _ _ _ _) (Nat.le_of_ble_eq_true rfl) (Nat.le_of_ble_eq_true rfl)).trans (congrArg (fun F => qv _ _ _ (qr_i _ F)) (funext fun y1 => funext fun hp1 => ?_))
  refine (dc_aload (a := 2) (i := 428) rfl rfl).trans ?_
  refine (dc_aload (a := 0) (i := 429) rfl rfl).trans ?_
  refine (dc_iload (a := 3) (i := 430) rfl rfl).trans ?_
  refine (dc_ic (x := 1) (i := 431) rfl).trans ?_
  refine (dc_bin (f := (fun x y => x + y)) (i := 432) rfl _ _).trans ?_
  refine (dn_iald (t := 3) (i := 433) rfl _ _).trans (congrArg (qa_i _ _ _ _) (funext fun y2 => ?_))
  refine (dc_aload (a := 0) (i := 434) rfl rfl).trans ?_
  refine (dc_iload (a := 3) (i := 435) rfl rfl).trans ?_
  refine (dc_ic (x := 2) (i := 436) rfl).trans ?_
  refine (dc_bin (f := (fun x y => x + y)) (i := 437) rfl _ _).trans ?_
  refine (dn_iald (t := 3) (i := 438) rfl _ _).trans (congrArg (qa_i _ _ _ _) (funext fun y3 => ?_))
  refine (dn_if (c := (fun x => decide (x = 0))) (t := 442) (i := 439) rfl _).trans (q_ite ?_ ?_)
  · refine (dc_ic (x := 0) (i := 442) rfl).trans ?_
    exact rfl
  · refine (dc_ic (x := 1) (i := 440) rfl).trans ?_
    refine (dc_goto (t := 443) (i := 441) rfl).trans ?_
    exact rfl
theorem B180_443 {v0 : pO} {v1 : pO} {v2 : pO} {v3 : pO} {s0 : Int32} {s1 : Int32} {s2 : Nat} {s3 : Int32} {hp : pH} : dn pg 180 443 [v0, v1, v2, v3] [.int s0, .int s1, .ref s2, .int s3] hp = qv hp s2 9 (qr_i (cl pg 160 [.ref s2, .int s1, .int s0] hp) (fun y1 hp1 => if s3 = y1 then dn pg 180 641 [v0, v1, v2, v3] [] hp1 else qz (nI 0) (q_i (nI 0) hp1))) := by
  refine (dn_cV_i (i := 443) (y := 160) (na := 3) (ci := 9) rfl (pa_3 _ _ _ _) (Nat.le_of_ble_eq_true rfl) (Nat.le_of_ble_eq_true rfl)).trans (congrArg (fun F => qv _ _ _ (qr_i _ F)) (funext fun y1 => funext fun hp1 => ?_))
  refine (dn_icmp (c := (fun x y => decide (x = y))) (t := 641) (i := 444) rfl _ _).trans (q_ite ?_ ?_)
  · exact rfl
  · refine (dc_ic (x := 0) (i := 445) rfl).trans ?_
    exact dn_zret (i := 446) rfl _
theorem B180_641 {v0 : pO} {v1 : pO} {v2 : pO} {x3 : Int32} {hp : pH} (h2 : pm_nl v2 = true) : dn pg 180 641 [v0, v1, v2, some (.int x3)] [] hp = dn pg 180 10 [v0, v1, v2, some (.int (x3 + nI 6))] [] hp := by
  refine (dn_iinc (a := 3) (d := 6) (i := 641) rfl (pm_ok_nl (Nat.le_of_ble_eq_true rfl) rfl h2) rfl).trans ?_
  refine (dc_goto (t := 10) (i := 642) rfl).trans ?_
  exact rfl
