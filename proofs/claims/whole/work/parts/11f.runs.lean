/-! Stretches of the code as equations; printed by wip/whole/gen_dn.py. -/
theorem B129_0 {o0 : Nat} {x1 : Int32} {x2 : Int32} {x3 : Int32} {hp : pH} : dn pg 129 0 [some (.ref o0), some (.int x1), some (.int x2), some (.int x3)] [] hp = if x1 = nI 0 then qg_i hp o0 9 4 (fun y1 => qr_i (cl pg 130 [.int y1, .int x2] hp) (fun y2 hp1 => if y2 = nI 0 then dn pg 129 10 [some (.ref o0), some (.int x1), some (.int x2), some (.int x3)] [.int (nI 0)] hp1 else dn pg 129 10 [some (.ref o0), some (.int x1), some (.int x2), some (.int x3)] [.int (nI 1)] hp1)) else if x1 = nI 1 then qg_i hp o0 9 4 (fun y3 => qr_i (cl pg 130 [.int y3, .int x2] hp) (fun y4 hp2 => if y4 = nI 0 then dn pg 129 19 [some (.ref o0), some (.int x1), some (.int x2), some (.int x3)] [.int (nI 1)] hp2 else dn pg 129 19 [some (.ref o0), some (.int x1), some (.int x2), some (.int x3)] [.int (nI 0)] hp2)) else if x1 = nI 2 then qg_i hp o0 9 4 (fun y5 => qr_i (cl pg 130 [.int y5, .int x3] hp) (fun y6 hp3 => if ¬ y6 = nI 0 then if ¬ x2 = x3 then dn pg 129 33 [some (.ref o0), some (.int x1), some (.int x2), some (.int x3)] [.int (nI 0)] hp3 else dn pg 129 33 [some (.ref o0), some (.int x1), some (.int x2), some (.int x3)] [.int (nI 2)] hp3 else dn pg 129 33 [some (.ref o0), some (.int x1), some (.int x2), some (.int x3)] [.int (nI 1)] hp3)) else if x1 = nI 3 then qv hp o0 9 (qr_i (cl pg 131 [.ref o0, .int x2, .int x3] hp) (fun y7 hp4 => q_i y7 hp4)) else if x1 = nI 4 then qg_a hp o0 9 2 (fun r8 => qa_i hp r8 0 x2 (fun y9 => if ¬ y9 = (nI 9) then dn pg 129 48 [some (.ref o0), some (.int x1), some (.int x2), some (.int x3)] [.int (nI 0)] hp else dn pg 129 48 [some (.ref o0), some (.int x1), some (.int x2), some (.int x3)] [.int (nI 5)] hp)) else if x1 = nI 5 then qg_a hp o0 9 2 (fun r10 => qa_i hp r10 0 x2 (fun y11 => if y11 = nI 0 then dn pg 129 57 [some (.ref o0), some (.int x1), some (.int x2), some (.int x3)] [] hp else qg_i hp o0 9 5 (fun y12 => if ¬ y12 = nI 0 then dn pg 129 60 [some (.ref o0), some (.int x1), some (.int x2), some (.int x3)] [.int (nI 0)] hp else dn pg 129 57 [some (.ref o0), some (.int x1), some (.int x2), some (.int x3)] [] hp))) else if x1 = nI 7 then qg_i hp o0 9 6 (fun y13 => if ¬ y13 = (nI 99) then dn pg 129 68 [some (.ref o0), some (.int x1), some (.int x2), some (.int x3)] [.int (nI 0)] hp else dn pg 129 68 [some (.ref o0), some (.int x1), some (.int x2), some (.int x3)] [.int (nI 6)] hp) else q_i (nI 0) hp := by
  refine (dc_iload (a := 1) (i := 0) rfl rfl).trans ?_
  refine (dn_sw2 (d := 69) (l := [(0, 2), (1, 11), (2, 20), (3, 34), (4, 39), (5, 49), (7, 61)]) (i := 1) rfl _).trans ?_
  refine q_swc ?_ ?_
  · refine (dc_aload (a := 0) (i := 2) rfl rfl).trans ?_
    refine (dn_getI (ci := 9) (j := 4) (i := 3) rfl _).trans (congrArg (qg_i _ _ _ _) (funext fun y1 => ?_))
    refine (dc_iload (a := 2) (i := 4) rfl rfl).trans ?_
    refine (dn_cS_i (i := 5) (y := 130) (na := 2) rfl (pa_2 _ _ _) (Nat.le_of_ble_eq_true rfl) (Nat.le_of_ble_eq_true rfl)).trans (congrArg (qr_i _) (funext fun y2 => funext fun hp1 => ?_))
    refine (dn_if (c := (fun x => decide (x = 0))) (t := 9) (i := 6) rfl _).trans (q_ite ?_ ?_)
    · refine (dc_ic (x := 0) (i := 9) rfl).trans ?_
      exact rfl
    · refine (dc_ic (x := 1) (i := 7) rfl).trans ?_
      refine (dc_goto (t := 10) (i := 8) rfl).trans ?_
      exact rfl
  refine q_swc ?_ ?_
  · refine (dc_aload (a := 0) (i := 11) rfl rfl).trans ?_
    refine (dn_getI (ci := 9) (j := 4) (i := 12) rfl _).trans (congrArg (qg_i _ _ _ _) (funext fun y3 => ?_))
    refine (dc_iload (a := 2) (i := 13) rfl rfl).trans ?_
    refine (dn_cS_i (i := 14) (y := 130) (na := 2) rfl (pa_2 _ _ _) (Nat.le_of_ble_eq_true rfl) (Nat.le_of_ble_eq_true rfl)).trans (congrArg (qr_i _) (funext fun y4 => funext fun hp2 => ?_))
    refine (dn_if (c := (fun x => decide (x = 0))) (t := 18) (i := 15) rfl _).trans (q_ite ?_ ?_)
    · refine (dc_ic (x := 1) (i := 18) rfl).trans ?_
      exact rfl
    · refine (dc_ic (x := 0) (i := 16) rfl).trans ?_
      refine (dc_goto (t := 19) (i := 17) rfl).trans ?_
      exact rfl
  refine q_swc ?_ ?_
  · refine (dc_aload (a := 0) (i := 20) rfl rfl).trans ?_
    refine (dn_getI (ci := 9) (j := 4) (i := 21) rfl _).trans (congrArg (qg_i _ _ _ _) (funext fun y5 => ?_))
    refine (dc_iload (a := 3) (i := 22) rfl rfl).trans ?_
    refine (dn_cS_i (i := 23) (y := 130) (na := 2) rfl (pa_2 _ _ _) (Nat.le_of_ble_eq_true rfl) (Nat.le_of_ble_eq_true rfl)).trans (congrArg (qr_i _) (funext fun y6 => funext fun hp3 => ?_))
    refine (dn_if (c := (fun x => decide (¬ x = 0))) (t := 27) (i := 24) rfl _).trans (q_ite ?_ ?_)
    · refine (dc_iload (a := 2) (i := 27) rfl rfl).trans ?_
      refine (dc_iload (a := 3) (i := 28) rfl rfl).trans ?_
      refine (dn_icmp (c := (fun x y => decide (¬ x = y))) (t := 32) (i := 29) rfl _ _).trans (q_ite ?_ ?_)
      · refine (dc_ic (x := 0) (i := 32) rfl).trans ?_
        exact rfl
      · refine (dc_ic (x := 2) (i := 30) rfl).trans ?_
        refine (dc_goto (t := 33) (i := 31) rfl).trans ?_
        exact rfl
    · refine (dc_ic (x := 1) (i := 25) rfl).trans ?_
      refine (dc_goto (t := 33) (i := 26) rfl).trans ?_
      exact rfl
  refine q_swc ?_ ?_
  · refine (dc_aload (a := 0) (i := 34) rfl rfl).trans ?_
    refine (dc_iload (a := 2) (i := 35) rfl rfl).trans ?_
    refine (dc_iload (a := 3) (i := 36) rfl rfl).trans ?_
    refine (dn_cV_i (i := 37) (y := 131) (na := 3) (ci := 9) rfl (pa_3 _ _ _ _) (Nat.le_of_ble_eq_true rfl) (Nat.le_of_ble_eq_true rfl)).trans (congrArg (fun F => qv _ _ _ (qr_i _ F)) (funext fun y7 => funext fun hp4 => ?_))
    exact dc_ireturn (i := 38) rfl _
  refine q_swc ?_ ?_
  · refine (dc_aload (a := 0) (i := 39) rfl rfl).trans ?_
    refine (dn_getA (ci := 9) (j := 2) (i := 40) rfl _).trans (congrArg (qg_a _ _ _ _) (funext fun r8 => ?_))
    refine (dc_iload (a := 2) (i := 41) rfl rfl).trans ?_
    refine (dn_iald (t := 0) (i := 42) rfl _ _).trans (congrArg (qa_i _ _ _ _) (funext fun y9 => ?_))
    refine (dc_ic (x := 9) (i := 43) rfl).trans ?_
    refine (dn_icmp (c := (fun x y => decide (¬ x = y))) (t := 47) (i := 44) rfl _ _).trans (q_ite ?_ ?_)
    · refine (dc_ic (x := 0) (i := 47) rfl).trans ?_
      exact rfl
    · refine (dc_ic (x := 5) (i := 45) rfl).trans ?_
      refine (dc_goto (t := 48) (i := 46) rfl).trans ?_
      exact rfl
  refine q_swc ?_ ?_
  · refine (dc_aload (a := 0) (i := 49) rfl rfl).trans ?_
    refine (dn_getA (ci := 9) (j := 2) (i := 50) rfl _).trans (congrArg (qg_a _ _ _ _) (funext fun r10 => ?_))
    refine (dc_iload (a := 2) (i := 51) rfl rfl).trans ?_
    refine (dn_iald (t := 0) (i := 52) rfl _ _).trans (congrArg (qa_i _ _ _ _) (funext fun y11 => ?_))
    refine (dn_if (c := (fun x => decide (x = 0))) (t := 57) (i := 53) rfl _).trans (q_ite ?_ ?_)
    · exact rfl
    · refine (dc_aload (a := 0) (i := 54) rfl rfl).trans ?_
      refine (dn_getI (ci := 9) (j := 5) (i := 55) rfl _).trans (congrArg (qg_i _ _ _ _) (funext fun y12 => ?_))
      refine (dn_if (c := (fun x => decide (¬ x = 0))) (t := 59) (i := 56) rfl _).trans (q_ite ?_ ?_)
      · refine (dc_ic (x := 0) (i := 59) rfl).trans ?_
        exact rfl
      · exact rfl
  refine q_swc ?_ ?_
  · refine (dc_aload (a := 0) (i := 61) rfl rfl).trans ?_
    refine (dn_getI (ci := 9) (j := 6) (i := 62) rfl _).trans (congrArg (qg_i _ _ _ _) (funext fun y13 => ?_))
    refine (dc_ic (x := 99) (i := 63) rfl).trans ?_
    refine (dn_icmp (c := (fun x y => decide (¬ x = y))) (t := 67) (i := 64) rfl _ _).trans (q_ite ?_ ?_)
    · refine (dc_ic (x := 0) (i := 67) rfl).trans ?_
      exact rfl
    · refine (dc_ic (x := 6) (i := 65) rfl).trans ?_
      refine (dc_goto (t := 68) (i := 66) rfl).trans ?_
      exact rfl
  refine q_swn ?_
  refine (dc_ic (x := 0) (i := 69) rfl).trans ?_
  exact dc_ireturn (i := 70) rfl _
theorem B129_10 {v0 : pO} {v1 : pO} {v2 : pO} {v3 : pO} {s0 : Int32} {hp : pH} : dn pg 129 10 [v0, v1, v2, v3] [.int s0] hp = q_i s0 hp := by
  exact dc_ireturn (i := 10) rfl _
theorem B129_19 {v0 : pO} {v1 : pO} {v2 : pO} {v3 : pO} {s0 : Int32} {hp : pH} : dn pg 129 19 [v0, v1, v2, v3] [.int s0] hp = q_i s0 hp := by
  exact dc_ireturn (i := 19) rfl _
theorem B129_33 {v0 : pO} {v1 : pO} {v2 : pO} {v3 : pO} {s0 : Int32} {hp : pH} : dn pg 129 33 [v0, v1, v2, v3] [.int s0] hp = q_i s0 hp := by
  exact dc_ireturn (i := 33) rfl _
theorem B129_48 {v0 : pO} {v1 : pO} {v2 : pO} {v3 : pO} {s0 : Int32} {hp : pH} : dn pg 129 48 [v0, v1, v2, v3] [.int s0] hp = q_i s0 hp := by
  exact dc_ireturn (i := 48) rfl _
theorem B129_57 {v0 : pO} {v1 : pO} {v2 : pO} {v3 : pO} {hp : pH} : dn pg 129 57 [v0, v1, v2, v3] [] hp = dn pg 129 60 [v0, v1, v2, v3] [.int (nI 5)] hp := by
  refine (dc_ic (x := 5) (i := 57) rfl).trans ?_
  refine (dc_goto (t := 60) (i := 58) rfl).trans ?_
  exact rfl
theorem B129_60 {v0 : pO} {v1 : pO} {v2 : pO} {v3 : pO} {s0 : Int32} {hp : pH} : dn pg 129 60 [v0, v1, v2, v3] [.int s0] hp = q_i s0 hp := by
  exact dc_ireturn (i := 60) rfl _
theorem B129_68 {v0 : pO} {v1 : pO} {v2 : pO} {v3 : pO} {s0 : Int32} {hp : pH} : dn pg 129 68 [v0, v1, v2, v3] [.int s0] hp = q_i s0 hp := by
  exact dc_ireturn (i := 68) rfl _
theorem B130_0 {x0 : Int32} {x1 : Int32} {hp : pH} : dn pg 130 0 [some (.int x0), some (.int x1)] [] hp = if ¬ ((x0 >>> (x1 &&& nI 31)) &&& (nI 1)) = (nI 1) then dn pg 130 10 [some (.int x0), some (.int x1)] [.int (nI 0)] hp else dn pg 130 10 [some (.int x0), some (.int x1)] [.int (nI 1)] hp := by
  refine (dc_iload (a := 0) (i := 0) rfl rfl).trans ?_
  refine (dc_iload (a := 1) (i := 1) rfl rfl).trans ?_
  refine (dc_bin (f := (fun x y => x >>> (y &&& 31))) (i := 2) rfl _ _).trans ?_
  refine (dc_ic (x := 1) (i := 3) rfl).trans ?_
  refine (dc_bin (f := (fun x y => x &&& y)) (i := 4) rfl _ _).trans ?_
  refine (dc_ic (x := 1) (i := 5) rfl).trans ?_
  refine (dn_icmp (c := (fun x y => decide (¬ x = y))) (t := 9) (i := 6) rfl _ _).trans (q_ite ?_ ?_)
  · refine (dc_ic (x := 0) (i := 9) rfl).trans ?_
    exact rfl
  · refine (dc_ic (x := 1) (i := 7) rfl).trans ?_
    refine (dc_goto (t := 10) (i := 8) rfl).trans ?_
    exact rfl
theorem B130_10 {v0 : pO} {v1 : pO} {s0 : Int32} {hp : pH} : dn pg 130 10 [v0, v1] [.int s0] hp = qz s0 (q_i s0 hp) := by
  exact dn_zret (i := 10) rfl _
theorem B131_0 {o0 : Nat} {x1 : Int32} {x2 : Int32} {v3 : pO} {hp : pH} : dn pg 131 0 [some (.ref o0), some (.int x1), some (.int x2), v3] [] hp = qg_a hp o0 9 0 (fun r1 => qa_i hp r1 0 x1 (fun y2 => qg_a hp o0 9 0 (fun r3 => qa_i hp r3 0 x2 (fun y4 => if y2 = y4 then dn pg 131 21 [some (.ref o0), some (.int x1), some (.int x2), v3] [] hp else qg_i hp o0 9 4 (fun y5 => qr_i (cl pg 130 [.int y5, .int x1] hp) (fun y6 hp1 => if ¬ y6 = nI 0 then dn pg 131 19 [some (.ref o0), some (.int x1), some (.int x2), v3] [] hp1 else qg_i hp1 o0 9 4 (fun y7 => qr_i (cl pg 130 [.int y7, .int x2] hp1) (fun y8 hp2 => if y8 = nI 0 then dn pg 131 21 [some (.ref o0), some (.int x1), some (.int x2), v3] [] hp2 else dn pg 131 19 [some (.ref o0), some (.int x1), some (.int x2), v3] [] hp2)))))))) := by
  refine (dc_aload (a := 0) (i := 0) rfl rfl).trans ?_
  refine (dn_getA (ci := 9) (j := 0) (i := 1) rfl _).trans (congrArg (qg_a _ _ _ _) (funext fun r1 => ?_))
  refine (dc_iload (a := 1) (i := 2) rfl rfl).trans ?_
  refine (dn_iald (t := 0) (i := 3) rfl _ _).trans (congrArg (qa_i _ _ _ _) (funext fun y2 => ?_))
  refine (dc_aload (a := 0) (i := 4) rfl rfl).trans ?_
  refine (dn_getA (ci := 9) (j := 0) (i := 5) rfl _).trans (congrArg (qg_a _ _ _ _) (funext fun r3 => ?_))
  refine (dc_iload (a := 2) (i := 6) rfl rfl).trans ?_
  refine (dn_iald (t := 0) (i := 7) rfl _ _).trans (congrArg (qa_i _ _ _ _) (funext fun y4 => ?_))
  refine (dn_icmp (c := (fun x y => decide (x = y))) (t := 21) (i := 8) rfl _ _).trans (q_ite ?_ ?_)
  · exact rfl
  · refine (dc_aload (a := 0) (i := 9) rfl rfl).trans ?_
    refine (dn_getI (ci := 9) (j := 4) (i := 10) rfl _).trans (congrArg (qg_i _ _ _ _) (funext fun y5 => ?_))
    refine (dc_iload (a := 1) (i := 11) rfl rfl).trans ?_
    refine (dn_cS_i (i := 12) (y := 130) (na := 2) rfl (pa_2 _ _ _) (Nat.le_of_ble_eq_true rfl) (Nat.le_of_ble_eq_true rfl)).trans (congrArg (qr_i _) (funext fun y6 => funext fun hp1 => ?_))
    refine (dn_if (c := (fun x => decide (¬ x = 0))) (t := 19) (i := 13) rfl _).trans (q_ite ?_ ?_)
    · exact rfl
    · refine (dc_aload (a := 0) (i := 14) rfl rfl).trans ?_
      refine (dn_getI (ci := 9) (j := 4) (i := 15) rfl _).trans (congrArg (qg_i _ _ _ _) (funext fun y7 => ?_))
      refine (dc_iload (a := 2) (i := 16) rfl rfl).trans ?_
      refine (dn_cS_i (i := 17) (y := 130) (na := 2) rfl (pa_2 _ _ _) (Nat.le_of_ble_eq_true rfl) (Nat.le_of_ble_eq_true rfl)).trans (congrArg (qr_i _) (funext fun y8 => funext fun hp2 => ?_))
      refine (dn_if (c := (fun x => decide (x = 0))) (t := 21) (i := 18) rfl _).trans (q_ite ?_ ?_)
      · exact rfl
      · exact rfl
theorem B131_19 {v0 : pO} {v1 : pO} {v2 : pO} {v3 : pO} {hp : pH} : dn pg 131 19 [v0, v1, v2, v3] [] hp = dn pg 131 22 [v0, v1, v2, v3] [.int (nI 1)] hp := by
  refine (dc_ic (x := 1) (i := 19) rfl).trans ?_
  refine (dc_goto (t := 22) (i := 20) rfl).trans ?_
  exact rfl
theorem B131_21 {v0 : pO} {v1 : pO} {v2 : pO} {v3 : pO} {hp : pH} : dn pg 131 21 [v0, v1, v2, v3] [] hp = dn pg 131 22 [v0, v1, v2, v3] [.int (nI 0)] hp := by
  refine (dc_ic (x := 0) (i := 21) rfl).trans ?_
  exact rfl
theorem B131_22 {o0 : Nat} {x1 : Int32} {x2 : Int32} {v3 : pO} {s0 : Int32} {hp : pH} : dn pg 131 22 [some (.ref o0), some (.int x1), some (.int x2), v3] [.int s0] hp = if ¬ x1 = x2 then if s0 = nI 0 then qg_a hp o0 9 3 (fun r1 => qa_i hp r1 0 x1 (fun y2 => qr_i (cl pg 130 [.int y2, .int x2] hp) (fun y3 hp1 => if y3 = nI 0 then dn pg 131 42 [some (.ref o0), some (.int x1), some (.int x2), some (.int s0)] [.int (nI 0)] hp1 else dn pg 131 42 [some (.ref o0), some (.int x1), some (.int x2), some (.int s0)] [.int (nI 4)] hp1))) else dn pg 131 42 [some (.ref o0), some (.int x1), some (.int x2), some (.int s0)] [.int (nI 3)] hp else dn pg 131 42 [some (.ref o0), some (.int x1), some (.int x2), some (.int s0)] [.int (nI 2)] hp := by
  refine (dn_istore (a := 3) (i := 22) rfl rfl _).trans ?_
  refine (dc_iload (a := 1) (i := 23) rfl rfl).trans ?_
  refine (dc_iload (a := 2) (i := 24) rfl rfl).trans ?_
  refine (dn_icmp (c := (fun x y => decide (¬ x = y))) (t := 28) (i := 25) rfl _ _).trans (q_ite ?_ ?_)
  · refine (dc_iload (a := 3) (i := 28) rfl rfl).trans ?_
    refine (dn_if (c := (fun x => decide (x = 0))) (t := 32) (i := 29) rfl _).trans (q_ite ?_ ?_)
    · refine (dc_aload (a := 0) (i := 32) rfl rfl).trans ?_
      refine (dn_getA (ci := 9) (j := 3) (i := 33) rfl _).trans (congrArg (qg_a _ _ _ _) (funext fun r1 => ?_))
      refine (dc_iload (a := 1) (i := 34) rfl rfl).trans ?_
      refine (dn_iald (t := 0) (i := 35) rfl _ _).trans (congrArg (qa_i _ _ _ _) (funext fun y2 => ?_))
      refine (dc_iload (a := 2) (i := 36) rfl rfl).trans ?_
      refine (dn_cS_i (i := 37) (y := 130) (na := 2) rfl (pa_2 _ _ _) (Nat.le_of_ble_eq_true rfl) (Nat.le_of_ble_eq_true rfl)).trans (congrArg (qr_i _) (funext fun y3 => funext fun hp1 => ?_))
      refine (dn_if (c := (fun x => decide (x = 0))) (t := 41) (i := 38) rfl _).trans (q_ite ?_ ?_)
      · refine (dc_ic (x := 0) (i := 41) rfl).trans ?_
        exact rfl
      · refine (dc_ic (x := 4) (i := 39) rfl).trans ?_
        refine (dc_goto (t := 42) (i := 40) rfl).trans ?_
        exact rfl
    · refine (dc_ic (x := 3) (i := 30) rfl).trans ?_
      refine (dc_goto (t := 42) (i := 31) rfl).trans ?_
      exact rfl
  · refine (dc_ic (x := 2) (i := 26) rfl).trans ?_
    refine (dc_goto (t := 42) (i := 27) rfl).trans ?_
    exact rfl
theorem B131_42 {v0 : pO} {v1 : pO} {v2 : pO} {v3 : pO} {s0 : Int32} {hp : pH} : dn pg 131 42 [v0, v1, v2, v3] [.int s0] hp = q_i s0 hp := by
  exact dc_ireturn (i := 42) rfl _
theorem B132_0 {v0 : pO} {v1 : pO} {v2 : pO} {v3 : pO} {hp : pH} (h1 : pm_nl v1 = true) : dn pg 132 0 [v0, v1, v2, v3] [] hp = dn pg 132 2 [v0, v1, some (.int (nI 0)), v3] [] hp := by
  refine (dc_ic (x := 0) (i := 0) rfl).trans ?_
  refine (dn_istore (a := 2) (i := 1) rfl (pm_ok_nl (Nat.le_of_ble_eq_true rfl) rfl h1) _).trans ?_
  exact rfl
theorem B132_2 {o0 : Nat} {x1 : Int32} {x2 : Int32} {v3 : pO} {hp : pH} : dn pg 132 2 [some (.ref o0), some (.int x1), some (.int x2), v3] [] hp = if (nI 8) ≤ x2 then qg_a hp o0 9 14 (fun r1 => qa_i hp r1 0 x1 (fun y2 => qg_a hp o0 9 15 (fun r3 => qa_i hp r3 0 x1 (fun y4 => qg_a hp o0 9 16 (fun r5 => qa_i hp r5 0 x1 (fun y6 => qv hp o0 9 (qr_v (cl pg 133 [.ref o0, .int y2, .int y4, .int y6] hp) (fun hp1 => dn pg 132 31 [some (.ref o0), some (.int x1), some (.int (nI 0)), v3] [] hp1)))))))) else qg_a hp o0 9 25 (fun r7 => qg_a hp o0 9 0 (fun r8 => qa_i hp r8 0 x2 (fun y9 => qx_i hp r7 0 x2 y9 (fun hp2 => dn pg 132 2 [some (.ref o0), some (.int x1), some (.int (x2 + nI 1)), v3] [] hp2)))) := by
  refine (dc_iload (a := 2) (i := 2) rfl rfl).trans ?_
  refine (dc_ic (x := 8) (i := 3) rfl).trans ?_
  refine (dn_icmp (c := (fun x y => decide (y ≤ x))) (t := 15) (i := 4) rfl _ _).trans (q_ite ?_ ?_)
  · refine (dc_aload (a := 0) (i := 15) rfl rfl).trans ?_
    refine (dc_aload (a := 0) (i := 16) rfl rfl).trans ?_
    refine (dn_getA (ci := 9) (j := 14) (i := 17) rfl _).trans (congrArg (qg_a _ _ _ _) (funext fun r1 => ?_))
    refine (dc_iload (a := 1) (i := 18) rfl rfl).trans ?_
    refine (dn_iald (t := 0) (i := 19) rfl _ _).trans (congrArg (qa_i _ _ _ _) (funext fun y2 => ?_))
    refine (dc_aload (a := 0) (i := 20) rfl rfl).trans ?_
    refine (dn_getA (ci := 9) (j := 15) (i := 21) rfl _).trans (congrArg (qg_a _ _ _ _) (funext fun r3 => ?_))
    refine (dc_iload (a := 1) (i := 22) rfl rfl).trans ?_
    refine (dn_iald (t := 0) (i := 23) rfl _ _).trans (congrArg (qa_i _ _ _ _) (funext fun y4 => ?_))
    refine (dc_aload (a := 0) (i := 24) rfl rfl).trans ?_
    refine (dn_getA (ci := 9) (j := 16) (i := 25) rfl _).trans (congrArg (qg_a _ _ _ _) (funext fun r5 => ?_))
    refine (dc_iload (a := 1) (i := 26) rfl rfl).trans ?_
    refine (dn_iald (t := 0) (i := 27) rfl _ _).trans (congrArg (qa_i _ _ _ _) (funext fun y6 => ?_))
    refine (dn_cV_v (i := 28) (y := 133) (na := 4) (ci := 9) rfl (pa_4 _ _ _ _ _) (Nat.le_of_ble_eq_true rfl) (Nat.le_of_ble_eq_true rfl)).trans (congrArg (fun F => qv _ _ _ (qr_v _ F)) (funext fun hp1 => ?_))
    refine (dc_ic (x := 0) (i := 29) rfl).trans ?_
    refine (dn_istore (a := 2) (i := 30) rfl rfl _).trans ?_
    exact rfl
  · refine (dc_aload (a := 0) (i := 5) rfl rfl).trans ?_
    refine (dn_getA (ci := 9) (j := 25) (i := 6) rfl _).trans (congrArg (qg_a _ _ _ _) (funext fun r7 => ?_))
    refine (dc_iload (a := 2) (i := 7) rfl rfl).trans ?_
    refine (dc_aload (a := 0) (i := 8) rfl rfl).trans ?_
    refine (dn_getA (ci := 9) (j := 0) (i := 9) rfl _).trans (congrArg (qg_a _ _ _ _) (funext fun r8 => ?_))
    refine (dc_iload (a := 2) (i := 10) rfl rfl).trans ?_
    refine (dn_iald (t := 0) (i := 11) rfl _ _).trans (congrArg (qa_i _ _ _ _) (funext fun y9 => ?_))
    refine (dn_iast (i := 12) rfl _ _ _).trans (congrArg (qx_i _ _ _ _ _) (funext fun hp2 => ?_))
    refine (dn_iinc (a := 2) (d := 1) (i := 13) rfl rfl rfl).trans ?_
    refine (dc_goto (t := 2) (i := 14) rfl).trans ?_
    exact rfl
theorem B132_31 {o0 : Nat} {v1 : pO} {x2 : Int32} {v3 : pO} {hp : pH} : dn pg 132 31 [some (.ref o0), v1, some (.int x2), v3] [] hp = if (nI 8) ≤ x2 then q_v hp else qg_a hp o0 9 0 (fun r1 => qa_i hp r1 0 x2 (fun y2 => qg_a hp o0 9 25 (fun r3 => qa_i hp r3 0 x2 (fun y4 => if y2 = y4 then dn pg 132 46 [some (.ref o0), v1, some (.int x2), v3] [.int (nI 0)] hp else dn pg 132 46 [some (.ref o0), v1, some (.int x2), v3] [.int (nI 1)] hp)))) := by
  refine (dc_iload (a := 2) (i := 31) rfl rfl).trans ?_
  refine (dc_ic (x := 8) (i := 32) rfl).trans ?_
  refine (dn_icmp (c := (fun x y => decide (y ≤ x))) (t := 81) (i := 33) rfl _ _).trans (q_ite ?_ ?_)
  · exact dc_return (i := 81) rfl
  · refine (dc_aload (a := 0) (i := 34) rfl rfl).trans ?_
    refine (dn_getA (ci := 9) (j := 0) (i := 35) rfl _).trans (congrArg (qg_a _ _ _ _) (funext fun r1 => ?_))
    refine (dc_iload (a := 2) (i := 36) rfl rfl).trans ?_
    refine (dn_iald (t := 0) (i := 37) rfl _ _).trans (congrArg (qa_i _ _ _ _) (funext fun y2 => ?_))
    refine (dc_aload (a := 0) (i := 38) rfl rfl).trans ?_
    refine (dn_getA (ci := 9) (j := 25) (i := 39) rfl _).trans (congrArg (qg_a _ _ _ _) (funext fun r3 => ?_))
    refine (dc_iload (a := 2) (i := 40) rfl rfl).trans ?_
    refine (dn_iald (t := 0) (i := 41) rfl _ _).trans (congrArg (qa_i _ _ _ _) (funext fun y4 => ?_))
    refine (dn_icmp (c := (fun x y => decide (x = y))) (t := 45) (i := 42) rfl _ _).trans (q_ite ?_ ?_)
    · refine (dc_ic (x := 0) (i := 45) rfl).trans ?_
      exact rfl
    · refine (dc_ic (x := 1) (i := 43) rfl).trans ?_
      refine (dc_goto (t := 46) (i := 44) rfl).trans ?_
      exact rfl
theorem B132_46 {o0 : Nat} {v1 : pO} {v2 : pO} {v3 : pO} {s0 : Int32} {hp : pH} (h2 : pm_nl v2 = true) : dn pg 132 46 [some (.ref o0), v1, v2, v3] [.int s0] hp = qg_i hp o0 9 22 (fun y1 => if s0 = nI 0 then dn pg 132 55 [some (.ref o0), v1, v2, some (.int s0)] [.int (nI 0), .int y1, .ref o0] hp else dn pg 132 55 [some (.ref o0), v1, v2, some (.int s0)] [.int (nI 1), .int y1, .ref o0] hp) := by
  refine (dn_istore (a := 3) (i := 46) rfl (pm_ok_nl (Nat.le_of_ble_eq_true rfl) rfl h2) _).trans ?_
  refine (dc_aload (a := 0) (i := 47) rfl rfl).trans ?_
  refine (dc_dupA (i := 48) rfl _).trans ?_
  refine (dn_getI (ci := 9) (j := 22) (i := 49) rfl _).trans (congrArg (qg_i _ _ _ _) (funext fun y1 => ?_))
  refine (dc_iload (a := 3) (i := 50) rfl rfl).trans ?_
  refine (dn_if (c := (fun x => decide (x = 0))) (t := 54) (i := 51) rfl _).trans (q_ite ?_ ?_)
  · refine (dc_ic (x := 0) (i := 54) rfl).trans ?_
    exact rfl
  · refine (dc_ic (x := 1) (i := 52) rfl).trans ?_
    refine (dc_goto (t := 55) (i := 53) rfl).trans ?_
    exact rfl
theorem B132_55 {o0 : Nat} {v1 : pO} {x2 : Int32} {x3 : Int32} {s0 : Int32} {s1 : Int32} {s2 : Nat} {hp : pH} : dn pg 132 55 [some (.ref o0), v1, some (.int x2), some (.int x3)] [.int s0, .int s1, .ref s2] hp = qp_v hp s2 9 22 (.int (s1 + s0)) (fun hp1 => if x3 = nI 0 then dn pg 132 65 [some (.ref o0), v1, some (.int x2), some (.int x3)] [.ref o0] hp1 else qg_i hp1 o0 9 23 (fun y1 => if nI 0 ≤ y1 then dn pg 132 65 [some (.ref o0), v1, some (.int x2), some (.int x3)] [.ref o0] hp1 else dn pg 132 67 [some (.ref o0), v1, some (.int x2), some (.int x3)] [.int x2, .ref o0] hp1)) := by
  refine (dc_bin (f := (fun x y => x + y)) (i := 55) rfl _ _).trans ?_
  refine (dn_putI (ci := 9) (j := 22) (i := 56) rfl _ _).trans (congrArg (qp_v _ _ _ _ _) (funext fun hp1 => ?_))
  refine (dc_aload (a := 0) (i := 57) rfl rfl).trans ?_
  refine (dc_iload (a := 3) (i := 58) rfl rfl).trans ?_
  refine (dn_if (c := (fun x => decide (x = 0))) (t := 65) (i := 59) rfl _).trans (q_ite ?_ ?_)
  · exact rfl
  · refine (dc_aload (a := 0) (i := 60) rfl rfl).trans ?_
    refine (dn_getI (ci := 9) (j := 23) (i := 61) rfl _).trans (congrArg (qg_i _ _ _ _) (funext fun y1 => ?_))
    refine (dn_if (c := (fun x => decide (0 ≤ x))) (t := 65) (i := 62) rfl _).trans (q_ite ?_ ?_)
    · exact rfl
    · refine (dc_iload (a := 2) (i := 63) rfl rfl).trans ?_
      refine (dc_goto (t := 67) (i := 64) rfl).trans ?_
      exact rfl
theorem B132_65 {o0 : Nat} {v1 : pO} {v2 : pO} {v3 : pO} {s0 : Nat} {hp : pH} : dn pg 132 65 [some (.ref o0), v1, v2, v3] [.ref s0] hp = qg_i hp o0 9 24 (fun y1 => dn pg 132 67 [some (.ref o0), v1, v2, v3] [.int y1, .ref s0] hp) := by
  refine (dc_aload (a := 0) (i := 65) rfl rfl).trans ?_
  refine (dn_getI (ci := 9) (j := 24) (i := 66) rfl _).trans (congrArg (qg_i _ _ _ _) (funext fun y1 => ?_))
  exact rfl
theorem B132_67 {o0 : Nat} {x1 : Int32} {v2 : pO} {x3 : Int32} {s0 : Int32} {s1 : Nat} {hp : pH} : dn pg 132 67 [some (.ref o0), some (.int x1), v2, some (.int x3)] [.int s0, .ref s1] hp = qp_v hp s1 9 24 (.int s0) (fun hp1 => if x3 = nI 0 then dn pg 132 76 [some (.ref o0), some (.int x1), v2, some (.int x3)] [.ref o0] hp1 else qg_i hp1 o0 9 23 (fun y1 => if nI 0 ≤ y1 then dn pg 132 76 [some (.ref o0), some (.int x1), v2, some (.int x3)] [.ref o0] hp1 else dn pg 132 78 [some (.ref o0), some (.int x1), v2, some (.int x3)] [.int x1, .ref o0] hp1)) := by
  refine (dn_putI (ci := 9) (j := 24) (i := 67) rfl _ _).trans (congrArg (qp_v _ _ _ _ _) (funext fun hp1 => ?_))
  refine (dc_aload (a := 0) (i := 68) rfl rfl).trans ?_
  refine (dc_iload (a := 3) (i := 69) rfl rfl).trans ?_
  refine (dn_if (c := (fun x => decide (x = 0))) (t := 76) (i := 70) rfl _).trans (q_ite ?_ ?_)
  · exact rfl
  · refine (dc_aload (a := 0) (i := 71) rfl rfl).trans ?_
    refine (dn_getI (ci := 9) (j := 23) (i := 72) rfl _).trans (congrArg (qg_i _ _ _ _) (funext fun y1 => ?_))
    refine (dn_if (c := (fun x => decide (0 ≤ x))) (t := 76) (i := 73) rfl _).trans (q_ite ?_ ?_)
    · exact rfl
    · refine (dc_iload (a := 1) (i := 74) rfl rfl).trans ?_
      refine (dc_goto (t := 78) (i := 75) rfl).trans ?_
      exact rfl
theorem B132_76 {o0 : Nat} {v1 : pO} {v2 : pO} {v3 : pO} {s0 : Nat} {hp : pH} : dn pg 132 76 [some (.ref o0), v1, v2, v3] [.ref s0] hp = qg_i hp o0 9 23 (fun y1 => dn pg 132 78 [some (.ref o0), v1, v2, v3] [.int y1, .ref s0] hp) := by
  refine (dc_aload (a := 0) (i := 76) rfl rfl).trans ?_
  refine (dn_getI (ci := 9) (j := 23) (i := 77) rfl _).trans (congrArg (qg_i _ _ _ _) (funext fun y1 => ?_))
  exact rfl
theorem B132_78 {v0 : pO} {v1 : pO} {x2 : Int32} {v3 : pO} {s0 : Int32} {s1 : Nat} {hp : pH} (h1 : pm_nl v1 = true) : dn pg 132 78 [v0, v1, some (.int x2), v3] [.int s0, .ref s1] hp = qp_v hp s1 9 23 (.int s0) (fun hp1 => dn pg 132 31 [v0, v1, some (.int (x2 + nI 1)), v3] [] hp1) := by
  refine (dn_putI (ci := 9) (j := 23) (i := 78) rfl _ _).trans (congrArg (qp_v _ _ _ _ _) (funext fun hp1 => ?_))
  refine (dn_iinc (a := 2) (d := 1) (i := 79) rfl (pm_ok_nl (Nat.le_of_ble_eq_true rfl) rfl h1) rfl).trans ?_
  refine (dc_goto (t := 31) (i := 80) rfl).trans ?_
  exact rfl
theorem B133_0 {o0 : Nat} {x1 : Int32} {x2 : Int32} {x3 : Int32} {hp : pH} : dn pg 133 0 [some (.ref o0), some (.int x1), some (.int x2), some (.int x3)] [] hp = if x1 = nI 0 then qg_i hp o0 9 4 (fun y1 => qp_v hp o0 9 4 (.int (y1 ||| ((nI 1) <<< (x2 &&& nI 31)))) (fun hp1 => dn pg 133 52 [some (.ref o0), some (.int x1), some (.int x2), some (.int x3)] [] hp1)) else if x1 = nI 1 then qg_i hp o0 9 4 (fun y2 => qp_v hp o0 9 4 (.int (y2 &&& (((nI 1) <<< (x2 &&& nI 31)) ^^^ (-1)))) (fun hp2 => dn pg 133 52 [some (.ref o0), some (.int x1), some (.int x2), some (.int x3)] [] hp2)) else if x1 = nI 2 then qv hp o0 9 (qr_v (cl pg 134 [.ref o0, .int x2, .int x3] hp) (fun hp3 => dn pg 133 52 [some (.ref o0), some (.int x1), some (.int x2), some (.int x3)] [] hp3)) else if x1 = nI 3 then qv hp o0 9 (qr_v (cl pg 112 [.ref o0, .int x2, .int x3, .int (nI 1)] hp) (fun hp4 => dn pg 133 52 [some (.ref o0), some (.int x1), some (.int x2), some (.int x3)] [] hp4)) else if x1 = nI 4 then qg_a hp o0 9 2 (fun r3 => qa_i hp r3 0 x2 (fun y4 => qx_i hp r3 0 x2 (y4 + (nI 1)) (fun hp5 => dn pg 133 52 [some (.ref o0), some (.int x1), some (.int x2), some (.int x3)] [] hp5))) else if x1 = nI 5 then qv hp o0 9 (qr_v (cl pg 135 [.ref o0, .int x2] hp) (fun hp6 => dn pg 133 52 [some (.ref o0), some (.int x1), some (.int x2), some (.int x3)] [] hp6)) else if x1 = nI 6 then qv hp o0 9 (qr_v (cl pg 136 [.ref o0, .int x3] hp) (fun hp7 => dn pg 133 52 [some (.ref o0), some (.int x1), some (.int x2), some (.int x3)] [] hp7)) else qv hp o0 9 (qr_v (cl pg 138 [.ref o0] hp) (fun hp8 => dn pg 133 52 [some (.ref o0), some (.int x1), some (.int x2), some (.int x3)] [] hp8)) := by
  refine (dc_iload (a := 1) (i := 0) rfl rfl).trans ?_
  refine (dn_sw2 (d := 50) (l := [(0, 2), (1, 11), (2, 22), (3, 27), (4, 33), (5, 42), (6, 46)]) (i := 1) rfl _).trans ?_
  refine q_swc ?_ ?_
  · refine (dc_aload (a := 0) (i := 2) rfl rfl).trans ?_
    refine (dc_dupA (i := 3) rfl _).trans ?_
    refine (dn_getI (ci := 9) (j := 4) (i := 4) rfl _).trans (congrArg (qg_i _ _ _ _) (funext fun y1 => ?_))
    refine (dc_ic (x := 1) (i := 5) rfl).trans ?_
    refine (dc_iload (a := 2) (i := 6) rfl rfl).trans ?_
    refine (dc_bin (f := (fun x y => x <<< (y &&& 31))) (i := 7) rfl _ _).trans ?_
    refine (dc_bin (f := (fun x y => x ||| y)) (i := 8) rfl _ _).trans ?_
    refine (dn_putI (ci := 9) (j := 4) (i := 9) rfl _ _).trans (congrArg (qp_v _ _ _ _ _) (funext fun hp1 => ?_))
    refine (dc_goto (t := 52) (i := 10) rfl).trans ?_
    exact rfl
  refine q_swc ?_ ?_
  · refine (dc_aload (a := 0) (i := 11) rfl rfl).trans ?_
    refine (dc_dupA (i := 12) rfl _).trans ?_
    refine (dn_getI (ci := 9) (j := 4) (i := 13) rfl _).trans (congrArg (qg_i _ _ _ _) (funext fun y2 => ?_))
    refine (dc_ic (x := 1) (i := 14) rfl).trans ?_
    refine (dc_iload (a := 2) (i := 15) rfl rfl).trans ?_
    refine (dc_bin (f := (fun x y => x <<< (y &&& 31))) (i := 16) rfl _ _).trans ?_
    refine (dc_ic (x := (-1)) (i := 17) rfl).trans ?_
    refine (dc_bin (f := (fun x y => x ^^^ y)) (i := 18) rfl _ _).trans ?_
    refine (dc_bin (f := (fun x y => x &&& y)) (i := 19) rfl _ _).trans ?_
    refine (dn_putI (ci := 9) (j := 4) (i := 20) rfl _ _).trans (congrArg (qp_v _ _ _ _ _) (funext fun hp2 => ?_))
    refine (dc_goto (t := 52) (i := 21) rfl).trans ?_
    exact rfl
  refine q_swc ?_ ?_
  · refine (dc_aload (a := 0) (i := 22) rfl rfl).trans ?_
    refine (dc_iload (a := 2) (i := 23) rfl rfl).trans ?_
    refine (dc_iload (a := 3) (i := 24) rfl rfl).trans ?_
    refine (dn_cV_v (i := 25) (y := 134) (na := 3) (ci := 9) rfl (pa_3 _ _ _ _) (Nat.le_of_ble_eq_true rfl) (Nat.le_of_ble_eq_true rfl)).trans (congrArg (fun F => qv _ _ _ (qr_v _ F)) (funext fun hp3 => ?_))
    refine (dc_goto (t := 52) (i := 26) rfl).trans ?_
    exact rfl
  refine q_swc ?_ ?_
  · refine (dc_aload (a := 0) (i := 27) rfl rfl).trans ?_
    refine (dc_iload (a := 2) (i := 28) rfl rfl).trans ?_
    refine (dc_iload (a := 3) (i := 29) rfl rfl).trans ?_
    refine (dc_ic (x := 1) (i := 30) rfl).trans ?_
    refine (dn_cV_v (i := 31) (y := 112) (na := 4) (ci := 9) rfl (pa_4 _ _ _ _ _) (Nat.le_of_ble_eq_true rfl) (Nat.le_of_ble_eq_true rfl)).trans (congrArg (fun F => qv _ _ _ (qr_v _ F)) (funext fun hp4 => ?_))
    refine (dc_goto (t := 52) (i := 32) rfl).trans ?_
    exact rfl
  refine q_swc ?_ ?_
  · refine (dc_aload (a := 0) (i := 33) rfl rfl).trans ?_
    refine (dn_getA (ci := 9) (j := 2) (i := 34) rfl _).trans (congrArg (qg_a _ _ _ _) (funext fun r3 => ?_))
    refine (dc_iload (a := 2) (i := 35) rfl rfl).trans ?_
    refine (dc_dup2 (i := 36) rfl _ _).trans ?_
    refine (dn_iald (t := 0) (i := 37) rfl _ _).trans (congrArg (qa_i _ _ _ _) (funext fun y4 => ?_))
    refine (dc_ic (x := 1) (i := 38) rfl).trans ?_
    refine (dc_bin (f := (fun x y => x + y)) (i := 39) rfl _ _).trans ?_
    refine (dn_iast (i := 40) rfl _ _ _).trans (congrArg (qx_i _ _ _ _ _) (funext fun hp5 => ?_))
    refine (dc_goto (t := 52) (i := 41) rfl).trans ?_
    exact rfl
  refine q_swc ?_ ?_
  · refine (dc_aload (a := 0) (i := 42) rfl rfl).trans ?_
    refine (dc_iload (a := 2) (i := 43) rfl rfl).trans ?_
    refine (dn_cV_v (i := 44) (y := 135) (na := 2) (ci := 9) rfl (pa_2 _ _ _) (Nat.le_of_ble_eq_true rfl) (Nat.le_of_ble_eq_true rfl)).trans (congrArg (fun F => qv _ _ _ (qr_v _ F)) (funext fun hp6 => ?_))
    refine (dc_goto (t := 52) (i := 45) rfl).trans ?_
    exact rfl
  refine q_swc ?_ ?_
  · refine (dc_aload (a := 0) (i := 46) rfl rfl).trans ?_
    refine (dc_iload (a := 3) (i := 47) rfl rfl).trans ?_
    refine (dn_cV_v (i := 48) (y := 136) (na := 2) (ci := 9) rfl (pa_2 _ _ _) (Nat.le_of_ble_eq_true rfl) (Nat.le_of_ble_eq_true rfl)).trans (congrArg (fun F => qv _ _ _ (qr_v _ F)) (funext fun hp7 => ?_))
    refine (dc_goto (t := 52) (i := 49) rfl).trans ?_
    exact rfl
  refine q_swn ?_
  refine (dc_aload (a := 0) (i := 50) rfl rfl).trans ?_
  refine (dn_cV_v (i := 51) (y := 138) (na := 1) (ci := 9) rfl (pa_1 _ _) (Nat.le_of_ble_eq_true rfl) (Nat.le_of_ble_eq_true rfl)).trans (congrArg (fun F => qv _ _ _ (qr_v _ F)) (funext fun hp8 => ?_))
  exact rfl
theorem B133_52 {v0 : pO} {v1 : pO} {v2 : pO} {v3 : pO} {hp : pH} : dn pg 133 52 [v0, v1, v2, v3] [] hp = q_v hp := by
  exact dc_return (i := 52) rfl
theorem B134_0 {o0 : Nat} {x1 : Int32} {x2 : Int32} {hp : pH} : dn pg 134 0 [some (.ref o0), some (.int x1), some (.int x2)] [] hp = qg_i hp o0 9 4 (fun y1 => qp_v hp o0 9 4 (.int (y1 &&& (((nI 1) <<< (x2 &&& nI 31)) ^^^ (-1)))) (fun hp1 => qg_a hp1 o0 9 0 (fun r2 => qg_a hp1 o0 9 0 (fun r3 => qa_i hp1 r3 0 x1 (fun y4 => qx_i hp1 r2 0 x2 y4 (fun hp2 => q_v hp2)))))) := by
  refine (dc_aload (a := 0) (i := 0) rfl rfl).trans ?_
  refine (dc_dupA (i := 1) rfl _).trans ?_
  refine (dn_getI (ci := 9) (j := 4) (i := 2) rfl _).trans (congrArg (qg_i _ _ _ _) (funext fun y1 => ?_))
  refine (dc_ic (x := 1) (i := 3) rfl).trans ?_
  refine (dc_iload (a := 2) (i := 4) rfl rfl).trans ?_
  refine (dc_bin (f := (fun x y => x <<< (y &&& 31))) (i := 5) rfl _ _).trans ?_
  refine (dc_ic (x := (-1)) (i := 6) rfl).trans ?_
  refine (dc_bin (f := (fun x y => x ^^^ y)) (i := 7) rfl _ _).trans ?_
  refine (dc_bin (f := (fun x y => x &&& y)) (i := 8) rfl _ _).trans ?_
  refine (dn_putI (ci := 9) (j := 4) (i := 9) rfl _ _).trans (congrArg (qp_v _ _ _ _ _) (funext fun hp1 => ?_))
  refine (dc_aload (a := 0) (i := 10) rfl rfl).trans ?_
  refine (dn_getA (ci := 9) (j := 0) (i := 11) rfl _).trans (congrArg (qg_a _ _ _ _) (funext fun r2 => ?_))
  refine (dc_iload (a := 2) (i := 12) rfl rfl).trans ?_
  refine (dc_aload (a := 0) (i := 13) rfl rfl).trans ?_
  refine (dn_getA (ci := 9) (j := 0) (i := 14) rfl _).trans (congrArg (qg_a _ _ _ _) (funext fun r3 => ?_))
  refine (dc_iload (a := 1) (i := 15) rfl rfl).trans ?_
  refine (dn_iald (t := 0) (i := 16) rfl _ _).trans (congrArg (qa_i _ _ _ _) (funext fun y4 => ?_))
  refine (dn_iast (i := 17) rfl _ _ _).trans (congrArg (qx_i _ _ _ _ _) (funext fun hp2 => ?_))
  exact dc_return (i := 18) rfl
theorem B135_0 {o0 : Nat} {x1 : Int32} {hp : pH} : dn pg 135 0 [some (.ref o0), some (.int x1)] [] hp = qg_a hp o0 9 2 (fun r1 => qa_i hp r1 0 x1 (fun y2 => qx_i hp r1 0 x1 (y2 - (nI 1)) (fun hp1 => qg_i hp1 o0 9 5 (fun y3 => qp_v hp1 o0 9 5 (.int (y3 - (nI 1))) (fun hp2 => q_v hp2))))) := by
  refine (dc_aload (a := 0) (i := 0) rfl rfl).trans ?_
  refine (dn_getA (ci := 9) (j := 2) (i := 1) rfl _).trans (congrArg (qg_a _ _ _ _) (funext fun r1 => ?_))
  refine (dc_iload (a := 1) (i := 2) rfl rfl).trans ?_
  refine (dc_dup2 (i := 3) rfl _ _).trans ?_
  refine (dn_iald (t := 0) (i := 4) rfl _ _).trans (congrArg (qa_i _ _ _ _) (funext fun y2 => ?_))
  refine (dc_ic (x := 1) (i := 5) rfl).trans ?_
  refine (dc_bin (f := (fun x y => x - y)) (i := 6) rfl _ _).trans ?_
  refine (dn_iast (i := 7) rfl _ _ _).trans (congrArg (qx_i _ _ _ _ _) (funext fun hp1 => ?_))
  refine (dc_aload (a := 0) (i := 8) rfl rfl).trans ?_
  refine (dc_dupA (i := 9) rfl _).trans ?_
  refine (dn_getI (ci := 9) (j := 5) (i := 10) rfl _).trans (congrArg (qg_i _ _ _ _) (funext fun y3 => ?_))
  refine (dc_ic (x := 1) (i := 11) rfl).trans ?_
  refine (dc_bin (f := (fun x y => x - y)) (i := 12) rfl _ _).trans ?_
  refine (dn_putI (ci := 9) (j := 5) (i := 13) rfl _ _).trans (congrArg (qp_v _ _ _ _ _) (funext fun hp2 => ?_))
  exact dc_return (i := 14) rfl
theorem B136_0 {v0 : pO} {v1 : pO} {v2 : pO} {v3 : pO} {hp : pH} (h1 : pm_nl v1 = true) : dn pg 136 0 [v0, v1, v2, v3] [] hp = dn pg 136 4 [v0, v1, some (.int (nI 0)), some (.int (nI 0))] [] hp := by
  refine (dc_ic (x := 0) (i := 0) rfl).trans ?_
  refine (dn_istore (a := 2) (i := 1) rfl (pm_ok_nl (Nat.le_of_ble_eq_true rfl) rfl h1) _).trans ?_
  refine (dc_ic (x := 0) (i := 2) rfl).trans ?_
  refine (dn_istore (a := 3) (i := 3) rfl rfl _).trans ?_
  exact rfl
theorem B136_4 {o0 : Nat} {x1 : Int32} {x2 : Int32} {x3 : Int32} {hp : pH} : dn pg 136 4 [some (.ref o0), some (.int x1), some (.int x2), some (.int x3)] [] hp = if (nI 8) ≤ x3 then qg_i hp o0 9 4 (fun y1 => qp_v hp o0 9 4 (.int (y1 &&& (x2 ^^^ (-1)))) (fun hp1 => q_v hp1)) else qv hp o0 9 (qr_i (cl pg 137 [.ref o0, .int x3] hp) (fun y2 hp2 => if x1 ≤ y2 then dn pg 136 18 [some (.ref o0), some (.int x1), some (.int x2), some (.int x3)] [.int (nI 0), .int x2] hp2 else dn pg 136 18 [some (.ref o0), some (.int x1), some (.int x2), some (.int x3)] [.int ((nI 1) <<< (x3 &&& nI 31)), .int x2] hp2)) := by
  refine (dc_iload (a := 3) (i := 4) rfl rfl).trans ?_
  refine (dc_ic (x := 8) (i := 5) rfl).trans ?_
  refine (dn_icmp (c := (fun x y => decide (y ≤ x))) (t := 22) (i := 6) rfl _ _).trans (q_ite ?_ ?_)
  · refine (dc_aload (a := 0) (i := 22) rfl rfl).trans ?_
    refine (dc_dupA (i := 23) rfl _).trans ?_
    refine (dn_getI (ci := 9) (j := 4) (i := 24) rfl _).trans (congrArg (qg_i _ _ _ _) (funext fun y1 => ?_))
    refine (dc_iload (a := 2) (i := 25) rfl rfl).trans ?_
    refine (dc_ic (x := (-1)) (i := 26) rfl).trans ?_
    refine (dc_bin (f := (fun x y => x ^^^ y)) (i := 27) rfl _ _).trans ?_
    refine (dc_bin (f := (fun x y => x &&& y)) (i := 28) rfl _ _).trans ?_
    refine (dn_putI (ci := 9) (j := 4) (i := 29) rfl _ _).trans (congrArg (qp_v _ _ _ _ _) (funext fun hp1 => ?_))
    exact dc_return (i := 30) rfl
  · refine (dc_iload (a := 2) (i := 7) rfl rfl).trans ?_
    refine (dc_aload (a := 0) (i := 8) rfl rfl).trans ?_
    refine (dc_iload (a := 3) (i := 9) rfl rfl).trans ?_
    refine (dn_cV_i (i := 10) (y := 137) (na := 2) (ci := 9) rfl (pa_2 _ _ _) (Nat.le_of_ble_eq_true rfl) (Nat.le_of_ble_eq_true rfl)).trans (congrArg (fun F => qv _ _ _ (qr_i _ F)) (funext fun y2 => funext fun hp2 => ?_))
    refine (dc_iload (a := 1) (i := 11) rfl rfl).trans ?_
    refine (dn_icmp (c := (fun x y => decide (y ≤ x))) (t := 17) (i := 12) rfl _ _).trans (q_ite ?_ ?_)
    · refine (dc_ic (x := 0) (i := 17) rfl).trans ?_
      exact rfl
    · refine (dc_ic (x := 1) (i := 13) rfl).trans ?_
      refine (dc_iload (a := 3) (i := 14) rfl rfl).trans ?_
      refine (dc_bin (f := (fun x y => x <<< (y &&& 31))) (i := 15) rfl _ _).trans ?_
      refine (dc_goto (t := 18) (i := 16) rfl).trans ?_
      exact rfl
theorem B136_18 {v0 : pO} {v1 : pO} {v2 : pO} {x3 : Int32} {s0 : Int32} {s1 : Int32} {hp : pH} (h1 : pm_nl v1 = true) : dn pg 136 18 [v0, v1, v2, some (.int x3)] [.int s0, .int s1] hp = dn pg 136 4 [v0, v1, some (.int (s1 ||| s0)), some (.int (x3 + nI 1))] [] hp := by
  refine (dc_bin (f := (fun x y => x ||| y)) (i := 18) rfl _ _).trans ?_
  refine (dn_istore (a := 2) (i := 19) rfl (pm_ok_nl (Nat.le_of_ble_eq_true rfl) rfl h1) _).trans ?_
  refine (dn_iinc (a := 3) (d := 1) (i := 20) rfl rfl rfl).trans ?_
  refine (dc_goto (t := 4) (i := 21) rfl).trans ?_
  exact rfl
theorem B137_0 {o0 : Nat} {x1 : Int32} {hp : pH} : dn pg 137 0 [some (.ref o0), some (.int x1)] [] hp = qg_i hp o0 9 4 (fun y1 => qr_i (cl pg 130 [.int y1, .int x1] hp) (fun y2 hp1 => if y2 = nI 0 then dn pg 137 24 [some (.ref o0), some (.int x1)] [] hp1 else qg_a hp1 o0 9 1 (fun r3 => qa_i hp1 r3 0 x1 (fun y4 => qg_a hp1 o0 9 2 (fun r5 => qa_i hp1 r5 0 x1 (fun y6 => if y4 ≤ y6 then dn pg 137 24 [some (.ref o0), some (.int x1)] [] hp1 else qg_a hp1 o0 9 1 (fun r7 => qa_i hp1 r7 0 x1 (fun y8 => qg_a hp1 o0 9 2 (fun r9 => qa_i hp1 r9 0 x1 (fun y10 => dn pg 137 25 [some (.ref o0), some (.int x1)] [.int (y8 - y10)] hp1)))))))))) := by
  refine (dc_aload (a := 0) (i := 0) rfl rfl).trans ?_
  refine (dn_getI (ci := 9) (j := 4) (i := 1) rfl _).trans (congrArg (qg_i _ _ _ _) (funext fun y1 => ?_))
  refine (dc_iload (a := 1) (i := 2) rfl rfl).trans ?_
  refine (dn_cS_i (i := 3) (y := 130) (na := 2) rfl (pa_2 _ _ _) (Nat.le_of_ble_eq_true rfl) (Nat.le_of_ble_eq_true rfl)).trans (congrArg (qr_i _) (funext fun y2 => funext fun hp1 => ?_))
  refine (dn_if (c := (fun x => decide (x = 0))) (t := 24) (i := 4) rfl _).trans (q_ite ?_ ?_)
  · exact rfl
  · refine (dc_aload (a := 0) (i := 5) rfl rfl).trans ?_
    refine (dn_getA (ci := 9) (j := 1) (i := 6) rfl _).trans (congrArg (qg_a _ _ _ _) (funext fun r3 => ?_))
    refine (dc_iload (a := 1) (i := 7) rfl rfl).trans ?_
    refine (dn_iald (t := 0) (i := 8) rfl _ _).trans (congrArg (qa_i _ _ _ _) (funext fun y4 => ?_))
    refine (dc_aload (a := 0) (i := 9) rfl rfl).trans ?_
    refine (dn_getA (ci := 9) (j := 2) (i := 10) rfl _).trans (congrArg (qg_a _ _ _ _) (funext fun r5 => ?_))
    refine (dc_iload (a := 1) (i := 11) rfl rfl).trans ?_
    refine (dn_iald (t := 0) (i := 12) rfl _ _).trans (congrArg (qa_i _ _ _ _) (funext fun y6 => ?_))
    refine (dn_icmp (c := (fun x y => decide (x ≤ y))) (t := 24) (i := 13) rfl _ _).trans (q_ite ?_ ?_)
    · exact rfl
    · refine (dc_aload (a := 0) (i := 14) rfl rfl).trans ?_
      refine (dn_getA (ci := 9) (j := 1) (i := 15) rfl _).trans (congrArg (qg_a _ _ _ _) (funext fun r7 => ?_))
      refine (dc_iload (a := 1) (i := 16) rfl rfl).trans ?_
      refine (dn_iald (t := 0) (i := 17) rfl _ _).trans (congrArg (qa_i _ _ _ _) (funext fun y8 => ?_))
      refine (dc_aload (a := 0) (i := 18) rfl rfl).trans ?_
      refine (dn_getA (ci := 9) (j := 2) (i := 19) rfl _).trans (congrArg (qg_a _ _ _ _) (funext fun r9 => ?_))
      refine (dc_iload (a := 1) (i := 20) rfl rfl).trans ?_
      refine (dn_iald (t := 0) (i := 21) rfl _ _).trans (congrArg (qa_i _ _ _ _) (funext fun y10 => ?_))
      refine (dc_bin (f := (fun x y => x - y)) (i := 22) rfl _ _).trans ?_
      refine (dc_goto (t := 25) (i := 23) rfl).trans ?_
      exact rfl
theorem B137_24 {v0 : pO} {v1 : pO} {hp : pH} : dn pg 137 24 [v0, v1] [] hp = dn pg 137 25 [v0, v1] [.int (nI 0)] hp := by
  refine (dc_ic (x := 0) (i := 24) rfl).trans ?_
  exact rfl
theorem B137_25 {v0 : pO} {v1 : pO} {s0 : Int32} {hp : pH} : dn pg 137 25 [v0, v1] [.int s0] hp = q_i s0 hp := by
  exact dc_ireturn (i := 25) rfl _
theorem B138_0 {v0 : pO} {v1 : pO} {v2 : pO} {v3 : pO} {v4 : pO} {hp : pH} (h0 : pm_nl v0 = true) : dn pg 138 0 [v0, v1, v2, v3, v4] [] hp = dn pg 138 2 [v0, some (.int (nI 0)), v2, v3, v4] [] hp := by
  refine (dc_ic (x := 0) (i := 0) rfl).trans ?_
  refine (dn_istore (a := 1) (i := 1) rfl (pm_ok_nl (Nat.le_of_ble_eq_true rfl) rfl h0) _).trans ?_
  exact rfl
theorem B138_2 {o0 : Nat} {x1 : Int32} {v2 : pO} {v3 : pO} {v4 : pO} {hp : pH} : dn pg 138 2 [some (.ref o0), some (.int x1), v2, v3, v4] [] hp = if (nI 8) ≤ x1 then dn pg 138 66 [some (.ref o0), some (.int (nI 0)), v2, v3, v4] [] hp else qg_i hp o0 9 4 (fun y1 => qr_i (cl pg 130 [.int y1, .int (((x1 + (nI 8)) - (nI 1)) % (nI 8))] hp) (fun y2 hp1 => if ¬ y2 = nI 0 then dn pg 138 40 [some (.ref o0), some (.int x1), some (.int (((x1 + (nI 8)) - (nI 1)) % (nI 8))), some (.int ((x1 + (nI 1)) % (nI 8))), v4] [] hp1 else qg_i hp1 o0 9 4 (fun y3 => qr_i (cl pg 130 [.int y3, .int ((x1 + (nI 1)) % (nI 8))] hp1) (fun y4 hp2 => if ¬ y4 = nI 0 then dn pg 138 40 [some (.ref o0), some (.int x1), some (.int (((x1 + (nI 8)) - (nI 1)) % (nI 8))), some (.int ((x1 + (nI 1)) % (nI 8))), v4] [] hp2 else qg_a hp2 o0 9 0 (fun r5 => qa_i hp2 r5 0 (((x1 + (nI 8)) - (nI 1)) % (nI 8)) (fun y6 => qg_a hp2 o0 9 0 (fun r7 => qa_i hp2 r7 0 ((x1 + (nI 1)) % (nI 8)) (fun y8 => if ¬ y6 = y8 then dn pg 138 40 [some (.ref o0), some (.int x1), some (.int (((x1 + (nI 8)) - (nI 1)) % (nI 8))), some (.int ((x1 + (nI 1)) % (nI 8))), v4] [] hp2 else dn pg 138 41 [some (.ref o0), some (.int x1), some (.int (((x1 + (nI 8)) - (nI 1)) % (nI 8))), some (.int ((x1 + (nI 1)) % (nI 8))), v4] [.int (nI 1)] hp2)))))))) := by
  refine (dc_iload (a := 1) (i := 2) rfl rfl).trans ?_
  refine (dc_ic (x := 8) (i := 3) rfl).trans ?_
  refine (dn_icmp (c := (fun x y => decide (y ≤ x))) (t := 64) (i := 4) rfl _ _).trans (q_ite ?_ ?_)
  · refine (dc_ic (x := 0) (i := 64) rfl).trans ?_
    refine (dn_istore (a := 1) (i := 65) rfl rfl _).trans ?_
    exact rfl
  · refine (dc_iload (a := 1) (i := 5) rfl rfl).trans ?_
    refine (dc_ic (x := 8) (i := 6) rfl).trans ?_
    refine (dc_bin (f := (fun x y => x + y)) (i := 7) rfl _ _).trans ?_
    refine (dc_ic (x := 1) (i := 8) rfl).trans ?_
    refine (dc_bin (f := (fun x y => x - y)) (i := 9) rfl _ _).trans ?_
    refine (dc_ic (x := 8) (i := 10) rfl).trans ?_
    refine ((dn_div (f := (fun x y => x % y)) (i := 11) rfl _ _).trans (if_neg (by decide))).trans ?_
    refine (dn_istore (a := 2) (i := 12) rfl rfl _).trans ?_
    refine (dc_iload (a := 1) (i := 13) rfl rfl).trans ?_
    refine (dc_ic (x := 1) (i := 14) rfl).trans ?_
    refine (dc_bin (f := (fun x y => x + y)) (i := 15) rfl _ _).trans ?_
    refine (dc_ic (x := 8) (i := 16) rfl).trans ?_
    refine ((dn_div (f := (fun x y => x % y)) (i := 17) rfl _ _).trans (if_neg (by decide))).trans ?_
    refine (dn_istore (a := 3) (i := 18) rfl rfl _).trans ?_
    refine (dc_aload (a := 0) (i := 19) rfl rfl).trans ?_
    refine (dn_getI (ci := 9) (j := 4) (i := 20) rfl _).trans (congrArg (qg_i _ _ _ _) (funext fun y1 => ?_))
    refine (dc_iload (a := 2) (i := 21) rfl rfl).trans ?_
    refine (dn_cS_i (i := 22) (y := 130) (na := 2) rfl (pa_2 _ _ _) (Nat.le_of_ble_eq_true rfl) (Nat.le_of_ble_eq_true rfl)).trans (congrArg (qr_i _) (funext fun y2 => funext fun hp1 => ?_))
    refine (dn_if (c := (fun x => decide (¬ x = 0))) (t := 40) (i := 23) rfl _).trans (q_ite ?_ ?_)
    · exact rfl
    · refine (dc_aload (a := 0) (i := 24) rfl rfl).trans ?_
      refine (dn_getI (ci := 9) (j := 4) (i := 25) rfl _).trans (congrArg (qg_i _ _ _ _) (funext fun y3 => ?_))
      refine (dc_iload (a := 3) (i := 26) rfl rfl).trans ?_
      refine (dn_cS_i (i := 27) (y := 130) (na := 2) rfl (pa_2 _ _ _) (Nat.le_of_ble_eq_true rfl) (Nat.le_of_ble_eq_true rfl)).trans (congrArg (qr_i _) (funext fun y4 => funext fun hp2 => ?_))
      refine (dn_if (c := (fun x => decide (¬ x = 0))) (t := 40) (i := 28) rfl _).trans (q_ite ?_ ?_)
      · exact rfl
      · refine (dc_aload (a := 0) (i := 29) rfl rfl).trans ?_
        refine (dn_getA (ci := 9) (j := 0) (i := 30) rfl _).trans (congrArg (qg_a _ _ _ _) (funext fun r5 => ?_))
        refine (dc_iload (a := 2) (i := 31) rfl rfl).trans ?_
        refine (dn_iald (t := 0) (i := 32) rfl _ _).trans (congrArg (qa_i _ _ _ _) (funext fun y6 => ?_))
        refine (dc_aload (a := 0) (i := 33) rfl rfl).trans ?_
        refine (dn_getA (ci := 9) (j := 0) (i := 34) rfl _).trans (congrArg (qg_a _ _ _ _) (funext fun r7 => ?_))
        refine (dc_iload (a := 3) (i := 35) rfl rfl).trans ?_
        refine (dn_iald (t := 0) (i := 36) rfl _ _).trans (congrArg (qa_i _ _ _ _) (funext fun y8 => ?_))
        refine (dn_icmp (c := (fun x y => decide (¬ x = y))) (t := 40) (i := 37) rfl _ _).trans (q_ite ?_ ?_)
        · exact rfl
        · refine (dc_ic (x := 1) (i := 38) rfl).trans ?_
          refine (dc_goto (t := 41) (i := 39) rfl).trans ?_
          exact rfl
theorem B138_40 {v0 : pO} {v1 : pO} {v2 : pO} {v3 : pO} {v4 : pO} {hp : pH} : dn pg 138 40 [v0, v1, v2, v3, v4] [] hp = dn pg 138 41 [v0, v1, v2, v3, v4] [.int (nI 0)] hp := by
  refine (dc_ic (x := 0) (i := 40) rfl).trans ?_
  exact rfl
theorem B138_41 {o0 : Nat} {x1 : Int32} {x2 : Int32} {v3 : pO} {v4 : pO} {s0 : Int32} {hp : pH} (h3 : pm_nl v3 = true) : dn pg 138 41 [some (.ref o0), some (.int x1), some (.int x2), v3, v4] [.int s0] hp = qg_a hp o0 9 18 (fun r1 => qg_i hp o0 9 4 (fun y2 => qr_i (cl pg 130 [.int y2, .int x1] hp) (fun y3 hp1 => if y3 = nI 0 then dn pg 138 57 [some (.ref o0), some (.int x1), some (.int x2), v3, some (.int s0)] [.int x1, .ref r1] hp1 else if s0 = nI 0 then dn pg 138 57 [some (.ref o0), some (.int x1), some (.int x2), v3, some (.int s0)] [.int x1, .ref r1] hp1 else qg_a hp1 o0 9 0 (fun r4 => qa_i hp1 r4 0 x2 (fun y5 => dn pg 138 61 [some (.ref o0), some (.int x1), some (.int x2), v3, some (.int s0)] [.int y5, .int x1, .ref r1] hp1))))) := by
  refine (dn_istore (a := 4) (i := 41) rfl (pm_ok_nl (Nat.le_of_ble_eq_true rfl) rfl h3) _).trans ?_
  refine (dc_aload (a := 0) (i := 42) rfl rfl).trans ?_
  refine (dn_getA (ci := 9) (j := 18) (i := 43) rfl _).trans (congrArg (qg_a _ _ _ _) (funext fun r1 => ?_))
  refine (dc_iload (a := 1) (i := 44) rfl rfl).trans ?_
  refine (dc_aload (a := 0) (i := 45) rfl rfl).trans ?_
  refine (dn_getI (ci := 9) (j := 4) (i := 46) rfl _).trans (congrArg (qg_i _ _ _ _) (funext fun y2 => ?_))
  refine (dc_iload (a := 1) (i := 47) rfl rfl).trans ?_
  refine (dn_cS_i (i := 48) (y := 130) (na := 2) rfl (pa_2 _ _ _) (Nat.le_of_ble_eq_true rfl) (Nat.le_of_ble_eq_true rfl)).trans (congrArg (qr_i _) (funext fun y3 => funext fun hp1 => ?_))
  refine (dn_if (c := (fun x => decide (x = 0))) (t := 57) (i := 49) rfl _).trans (q_ite ?_ ?_)
  · exact rfl
  · refine (dc_iload (a := 4) (i := 50) rfl rfl).trans ?_
    refine (dn_if (c := (fun x => decide (x = 0))) (t := 57) (i := 51) rfl _).trans (q_ite ?_ ?_)
    · exact rfl
    · refine (dc_aload (a := 0) (i := 52) rfl rfl).trans ?_
      refine (dn_getA (ci := 9) (j := 0) (i := 53) rfl _).trans (congrArg (qg_a _ _ _ _) (funext fun r4 => ?_))
      refine (dc_iload (a := 2) (i := 54) rfl rfl).trans ?_
      refine (dn_iald (t := 0) (i := 55) rfl _ _).trans (congrArg (qa_i _ _ _ _) (funext fun y5 => ?_))
      refine (dc_goto (t := 61) (i := 56) rfl).trans ?_
      exact rfl
theorem B138_57 {o0 : Nat} {x1 : Int32} {v2 : pO} {v3 : pO} {v4 : pO} {s0 : Int32} {s1 : Nat} {hp : pH} : dn pg 138 57 [some (.ref o0), some (.int x1), v2, v3, v4] [.int s0, .ref s1] hp = qg_a hp o0 9 0 (fun r1 => qa_i hp r1 0 x1 (fun y2 => dn pg 138 61 [some (.ref o0), some (.int x1), v2, v3, v4] [.int y2, .int s0, .ref s1] hp)) := by
  refine (dc_aload (a := 0) (i := 57) rfl rfl).trans ?_
  refine (dn_getA (ci := 9) (j := 0) (i := 58) rfl _).trans (congrArg (qg_a _ _ _ _) (funext fun r1 => ?_))
  refine (dc_iload (a := 1) (i := 59) rfl rfl).trans ?_
  refine (dn_iald (t := 0) (i := 60) rfl _ _).trans (congrArg (qa_i _ _ _ _) (funext fun y2 => ?_))
  exact rfl
theorem B138_61 {v0 : pO} {x1 : Int32} {v2 : pO} {v3 : pO} {v4 : pO} {s0 : Int32} {s1 : Int32} {s2 : Nat} {hp : pH} (h0 : pm_nl v0 = true) : dn pg 138 61 [v0, some (.int x1), v2, v3, v4] [.int s0, .int s1, .ref s2] hp = qx_i hp s2 0 s1 s0 (fun hp1 => dn pg 138 2 [v0, some (.int (x1 + nI 1)), v2, v3, v4] [] hp1) := by
  refine (dn_iast (i := 61) rfl _ _ _).trans (congrArg (qx_i _ _ _ _ _) (funext fun hp1 => ?_))
  refine (dn_iinc (a := 1) (d := 1) (i := 62) rfl (pm_ok_nl (Nat.le_of_ble_eq_true rfl) rfl h0) rfl).trans ?_
  refine (dc_goto (t := 2) (i := 63) rfl).trans ?_
  exact rfl
theorem B138_66 {o0 : Nat} {x1 : Int32} {v2 : pO} {v3 : pO} {v4 : pO} {hp : pH} : dn pg 138 66 [some (.ref o0), some (.int x1), v2, v3, v4] [] hp = if (nI 8) ≤ x1 then qg_i hp o0 9 6 (fun y1 => qp_v hp o0 9 6 (.int (y1 + (nI 1))) (fun hp1 => q_v hp1)) else qg_a hp o0 9 0 (fun r2 => qg_a hp o0 9 18 (fun r3 => qa_i hp r3 0 x1 (fun y4 => qx_i hp r2 0 x1 y4 (fun hp2 => dn pg 138 66 [some (.ref o0), some (.int (x1 + nI 1)), v2, v3, v4] [] hp2)))) := by
  refine (dc_iload (a := 1) (i := 66) rfl rfl).trans ?_
  refine (dc_ic (x := 8) (i := 67) rfl).trans ?_
  refine (dn_icmp (c := (fun x y => decide (y ≤ x))) (t := 79) (i := 68) rfl _ _).trans (q_ite ?_ ?_)
  · refine (dc_aload (a := 0) (i := 79) rfl rfl).trans ?_
    refine (dc_dupA (i := 80) rfl _).trans ?_
    refine (dn_getI (ci := 9) (j := 6) (i := 81) rfl _).trans (congrArg (qg_i _ _ _ _) (funext fun y1 => ?_))
    refine (dc_ic (x := 1) (i := 82) rfl).trans ?_
    refine (dc_bin (f := (fun x y => x + y)) (i := 83) rfl _ _).trans ?_
    refine (dn_putI (ci := 9) (j := 6) (i := 84) rfl _ _).trans (congrArg (qp_v _ _ _ _ _) (funext fun hp1 => ?_))
    exact dc_return (i := 85) rfl
  · refine (dc_aload (a := 0) (i := 69) rfl rfl).trans ?_
    refine (dn_getA (ci := 9) (j := 0) (i := 70) rfl _).trans (congrArg (qg_a _ _ _ _) (funext fun r2 => ?_))
    refine (dc_iload (a := 1) (i := 71) rfl rfl).trans ?_
    refine (dc_aload (a := 0) (i := 72) rfl rfl).trans ?_
    refine (dn_getA (ci := 9) (j := 18) (i := 73) rfl _).trans (congrArg (qg_a _ _ _ _) (funext fun r3 => ?_))
    refine (dc_iload (a := 1) (i := 74) rfl rfl).trans ?_
    refine (dn_iald (t := 0) (i := 75) rfl _ _).trans (congrArg (qa_i _ _ _ _) (funext fun y4 => ?_))
    refine (dn_iast (i := 76) rfl _ _ _).trans (congrArg (qx_i _ _ _ _ _) (funext fun hp2 => ?_))
    refine (dn_iinc (a := 1) (d := 1) (i := 77) rfl rfl rfl).trans ?_
    refine (dc_goto (t := 66) (i := 78) rfl).trans ?_
    exact rfl
theorem B139_0 {v0 : pO} {v1 : pO} {v2 : pO} {hp : pH} (h1 : pm_nl v1 = true) : dn pg 139 0 [v0, v1, v2] [] hp = dn pg 139 2 [v0, v1, some (.int (nI 0))] [] hp := by
  refine (dc_ic (x := 0) (i := 0) rfl).trans ?_
  refine (dn_istore (a := 2) (i := 1) rfl (pm_ok_nl (Nat.le_of_ble_eq_true rfl) rfl h1) _).trans ?_
  exact rfl
theorem B139_2 {o0 : Nat} {x1 : Int32} {x2 : Int32} {hp : pH} : dn pg 139 2 [some (.ref o0), some (.int x1), some (.int x2)] [] hp = if (nI 8) ≤ x2 then qg_a hp o0 9 19 (fun r1 => qa_i hp r1 0 (nI 24) (fun y2 => qp_v hp o0 9 4 (.int y2) (fun hp1 => qg_a hp1 o0 9 19 (fun r3 => qa_i hp1 r3 0 (nI 25) (fun y4 => qp_v hp1 o0 9 5 (.int y4) (fun hp2 => qg_a hp2 o0 9 19 (fun r5 => qa_i hp2 r5 0 (nI 26) (fun y6 => qp_v hp2 o0 9 6 (.int y6) (fun hp3 => q_i x1 hp3))))))))) else qg_a hp o0 9 0 (fun r7 => qg_a hp o0 9 19 (fun r8 => qa_i hp r8 0 x2 (fun y9 => qx_i hp r7 0 x2 y9 (fun hp4 => qg_a hp4 o0 9 2 (fun r10 => qg_a hp4 o0 9 19 (fun r11 => qa_i hp4 r11 0 ((nI 8) + x2) (fun y12 => qx_i hp4 r10 0 x2 y12 (fun hp5 => qg_a hp5 o0 9 3 (fun r13 => qg_a hp5 o0 9 19 (fun r14 => qa_i hp5 r14 0 ((nI 16) + x2) (fun y15 => qx_i hp5 r13 0 x2 y15 (fun hp6 => dn pg 139 2 [some (.ref o0), some (.int x1), some (.int (x2 + nI 1))] [] hp6)))))))))))) := by
  refine (dc_iload (a := 2) (i := 2) rfl rfl).trans ?_
  refine (dc_ic (x := 8) (i := 3) rfl).trans ?_
  refine (dn_icmp (c := (fun x y => decide (y ≤ x))) (t := 35) (i := 4) rfl _ _).trans (q_ite ?_ ?_)
  · refine (dc_aload (a := 0) (i := 35) rfl rfl).trans ?_
    refine (dc_aload (a := 0) (i := 36) rfl rfl).trans ?_
    refine (dn_getA (ci := 9) (j := 19) (i := 37) rfl _).trans (congrArg (qg_a _ _ _ _) (funext fun r1 => ?_))
    refine (dc_ic (x := 24) (i := 38) rfl).trans ?_
    refine (dn_iald (t := 0) (i := 39) rfl _ _).trans (congrArg (qa_i _ _ _ _) (funext fun y2 => ?_))
    refine (dn_putI (ci := 9) (j := 4) (i := 40) rfl _ _).trans (congrArg (qp_v _ _ _ _ _) (funext fun hp1 => ?_))
    refine (dc_aload (a := 0) (i := 41) rfl rfl).trans ?_
    refine (dc_aload (a := 0) (i := 42) rfl rfl).trans ?_
    refine (dn_getA (ci := 9) (j := 19) (i := 43) rfl _).trans (congrArg (qg_a _ _ _ _) (funext fun r3 => ?_))
    refine (dc_ic (x := 25) (i := 44) rfl).trans ?_
    refine (dn_iald (t := 0) (i := 45) rfl _ _).trans (congrArg (qa_i _ _ _ _) (funext fun y4 => ?_))
    refine (dn_putI (ci := 9) (j := 5) (i := 46) rfl _ _).trans (congrArg (qp_v _ _ _ _ _) (funext fun hp2 => ?_))
    refine (dc_aload (a := 0) (i := 47) rfl rfl).trans ?_
    refine (dc_aload (a := 0) (i := 48) rfl rfl).trans ?_
    refine (dn_getA (ci := 9) (j := 19) (i := 49) rfl _).trans (congrArg (qg_a _ _ _ _) (funext fun r5 => ?_))
    refine (dc_ic (x := 26) (i := 50) rfl).trans ?_
    refine (dn_iald (t := 0) (i := 51) rfl _ _).trans (congrArg (qa_i _ _ _ _) (funext fun y6 => ?_))
    refine (dn_putI (ci := 9) (j := 6) (i := 52) rfl _ _).trans (congrArg (qp_v _ _ _ _ _) (funext fun hp3 => ?_))
    refine (dc_iload (a := 1) (i := 53) rfl rfl).trans ?_
    exact dc_ireturn (i := 54) rfl _
  · refine (dc_aload (a := 0) (i := 5) rfl rfl).trans ?_
    refine (dn_getA (ci := 9) (j := 0) (i := 6) rfl _).trans (congrArg (qg_a _ _ _ _) (funext fun r7 => ?_))
    refine (dc_iload (a := 2) (i := 7) rfl rfl).trans ?_
    refine (dc_aload (a := 0) (i := 8) rfl rfl).trans ?_
    refine (dn_getA (ci := 9) (j := 19) (i := 9) rfl _).trans (congrArg (qg_a _ _ _ _) (funext fun r8 => ?_))
    refine (dc_iload (a := 2) (i := 10) rfl rfl).trans ?_
    refine (dn_iald (t := 0) (i := 11) rfl _ _).trans (congrArg (qa_i _ _ _ _) (funext fun y9 => ?_))
    refine (dn_iast (i := 12) rfl _ _ _).trans (congrArg (qx_i _ _ _ _ _) (funext fun hp4 => ?_))
    refine (dc_aload (a := 0) (i := 13) rfl rfl).trans ?_
    refine (dn_getA (ci := 9) (j := 2) (i := 14) rfl _).trans (congrArg (qg_a _ _ _ _) (funext fun r10 => ?_))
    refine (dc_iload (a := 2) (i := 15) rfl rfl).trans ?_
    refine (dc_aload (a := 0) (i := 16) rfl rfl).trans ?_
    refine (dn_getA (ci := 9) (j := 19) (i := 17) rfl _).trans (congrArg (qg_a _ _ _ _) (funext fun r11 => ?_))
    refine (dc_ic (x := 8) (i := 18) rfl).trans ?_
    refine (dc_iload (a := 2) (i := 19) rfl rfl).trans ?_
    refine (dc_bin (f := (fun x y => x + y)) (i := 20) rfl _ _).trans ?_
    refine (dn_iald (t := 0) (i := 21) rfl _ _).trans (congrArg (qa_i _ _ _ _) (funext fun y12 => ?_))
    refine (dn_iast (i := 22) rfl _ _ _).trans (congrArg (qx_i _ _ _ _ _) (funext fun hp5 => ?_))
    refine (dc_aload (a := 0) (i := 23) rfl rfl).trans ?_
    refine (dn_getA (ci := 9) (j := 3) (i := 24) rfl _).trans (congrArg (qg_a _ _ _ _) (funext fun r13 => ?_))
    refine (dc_iload (a := 2) (i := 25) rfl rfl).trans ?_
    refine (dc_aload (a := 0) (i := 26) rfl rfl).trans ?_
    refine (dn_getA (ci := 9) (j := 19) (i := 27) rfl _).trans (congrArg (qg_a _ _ _ _) (funext fun r14 => ?_))
    refine (dc_ic (x := 16) (i := 28) rfl).trans ?_
    refine (dc_iload (a := 2) (i := 29) rfl rfl).trans ?_
    refine (dc_bin (f := (fun x y => x + y)) (i := 30) rfl _ _).trans ?_
    refine (dn_iald (t := 0) (i := 31) rfl _ _).trans (congrArg (qa_i _ _ _ _) (funext fun y15 => ?_))
    refine (dn_iast (i := 32) rfl _ _ _).trans (congrArg (qx_i _ _ _ _ _) (funext fun hp6 => ?_))
    refine (dn_iinc (a := 2) (d := 1) (i := 33) rfl rfl rfl).trans ?_
    refine (dc_goto (t := 2) (i := 34) rfl).trans ?_
    exact rfl
theorem B140_0 {o0 : Nat} {x1 : Int32} {x2 : Int32} {v3 : pO} {hp : pH} : dn pg 140 0 [some (.ref o0), some (.int x1), some (.int x2), v3] [] hp = qr_i (cl pg 108 [.int x1] hp) (fun y1 hp1 => if ¬ y1 = nI 0 then qr_i (cl pg 109 [.long x2.toInt64, .long (lN 0), .long (lN 3)] hp1) (fun y2 hp2 => if ¬ y2 = nI 0 then qv hp2 o0 9 (qr_i (cl pg 126 [.ref o0] hp2) (fun y3 hp3 => if y3 = (-6) then qv hp3 o0 9 (qr_i (cl pg 141 [.ref o0, .int x1, .int x2] hp3) (fun y4 hp4 => dn pg 140 26 [some (.ref o0), some (.int x1), some (.int x2), some (.int y3)] [.int y4, .ref o0] hp4)) else dn pg 140 26 [some (.ref o0), some (.int x1), some (.int x2), some (.int y3)] [.int y3, .ref o0] hp3)) else q_i (-2) hp2) else q_i (-1) hp1) := by
  refine (dc_iload (a := 1) (i := 0) rfl rfl).trans ?_
  refine (dn_cS_i (i := 1) (y := 108) (na := 1) rfl (pa_1 _ _) (Nat.le_of_ble_eq_true rfl) (Nat.le_of_ble_eq_true rfl)).trans (congrArg (qr_i _) (funext fun y1 => funext fun hp1 => ?_))
  refine (dn_if (c := (fun x => decide (¬ x = 0))) (t := 5) (i := 2) rfl _).trans (q_ite ?_ ?_)
  · refine (dc_iload (a := 2) (i := 5) rfl rfl).trans ?_
    refine (dc_i2l (i := 6) rfl _).trans ?_
    refine (dc_lc (x := 0) (i := 7) rfl).trans ?_
    refine (dc_lc (x := 3) (i := 8) rfl).trans ?_
    refine (dn_cS_i (i := 9) (y := 109) (na := 3) rfl (pa_3 _ _ _ _) (Nat.le_of_ble_eq_true rfl) (Nat.le_of_ble_eq_true rfl)).trans (congrArg (qr_i _) (funext fun y2 => funext fun hp2 => ?_))
    refine (dn_if (c := (fun x => decide (¬ x = 0))) (t := 13) (i := 10) rfl _).trans (q_ite ?_ ?_)
    · refine (dc_aload (a := 0) (i := 13) rfl rfl).trans ?_
      refine (dn_cV_i (i := 14) (y := 126) (na := 1) (ci := 9) rfl (pa_1 _ _) (Nat.le_of_ble_eq_true rfl) (Nat.le_of_ble_eq_true rfl)).trans (congrArg (fun F => qv _ _ _ (qr_i _ F)) (funext fun y3 => funext fun hp3 => ?_))
      refine (dn_istore (a := 3) (i := 15) rfl rfl _).trans ?_
      refine (dc_aload (a := 0) (i := 16) rfl rfl).trans ?_
      refine (dc_iload (a := 3) (i := 17) rfl rfl).trans ?_
      refine (dc_ic (x := (-6)) (i := 18) rfl).trans ?_
      refine (dn_icmp (c := (fun x y => decide (x = y))) (t := 22) (i := 19) rfl _ _).trans (q_ite ?_ ?_)
      · refine (dc_aload (a := 0) (i := 22) rfl rfl).trans ?_
        refine (dc_iload (a := 1) (i := 23) rfl rfl).trans ?_
        refine (dc_iload (a := 2) (i := 24) rfl rfl).trans ?_
        refine (dn_cV_i (i := 25) (y := 141) (na := 3) (ci := 9) rfl (pa_3 _ _ _ _) (Nat.le_of_ble_eq_true rfl) (Nat.le_of_ble_eq_true rfl)).trans (congrArg (fun F => qv _ _ _ (qr_i _ F)) (funext fun y4 => funext fun hp4 => ?_))
        exact rfl
      · refine (dc_iload (a := 3) (i := 20) rfl rfl).trans ?_
        refine (dc_goto (t := 26) (i := 21) rfl).trans ?_
        exact rfl
    · refine (dc_ic (x := (-2)) (i := 11) rfl).trans ?_
      exact dc_ireturn (i := 12) rfl _
  · refine (dc_ic (x := (-1)) (i := 3) rfl).trans ?_
    exact dc_ireturn (i := 4) rfl _
theorem B140_26 {v0 : pO} {v1 : pO} {v2 : pO} {v3 : pO} {s0 : Int32} {s1 : Nat} {hp : pH} : dn pg 140 26 [v0, v1, v2, v3] [.int s0, .ref s1] hp = qv hp s1 9 (qr_i (cl pg 139 [.ref s1, .int s0] hp) (fun y1 hp1 => q_i y1 hp1)) := by
  refine (dn_cV_i (i := 26) (y := 139) (na := 2) (ci := 9) rfl (pa_2 _ _ _) (Nat.le_of_ble_eq_true rfl) (Nat.le_of_ble_eq_true rfl)).trans (congrArg (fun F => qv _ _ _ (qr_i _ F)) (funext fun y1 => funext fun hp1 => ?_))
  exact dc_ireturn (i := 27) rfl _
theorem B141_0 {o0 : Nat} {x1 : Int32} {x2 : Int32} {hp : pH} : dn pg 141 0 [some (.ref o0), some (.int x1), some (.int x2)] [] hp = if ¬ x2 = nI 0 then if ¬ x2 = (nI 1) then if ¬ x2 = (nI 2) then qv hp o0 9 (qr_i (cl pg 137 [.ref o0, .int x1] hp) (fun y1 hp1 => dn pg 141 28 [some (.ref o0), some (.int x1), some (.int x2)] [.int y1] hp1)) else qg_a hp o0 9 2 (fun r2 => qa_i hp r2 0 x1 (fun y3 => dn pg 141 28 [some (.ref o0), some (.int x1), some (.int x2)] [.int y3] hp)) else qg_i hp o0 9 4 (fun y4 => dn pg 141 28 [some (.ref o0), some (.int x1), some (.int x2)] [.int ((y4 >>> (x1 &&& nI 31)) &&& (nI 1))] hp) else qg_a hp o0 9 0 (fun r5 => qa_i hp r5 0 x1 (fun y6 => dn pg 141 28 [some (.ref o0), some (.int x1), some (.int x2)] [.int y6] hp)) := by
  refine (dc_iload (a := 2) (i := 0) rfl rfl).trans ?_
  refine (dn_if (c := (fun x => decide (¬ x = 0))) (t := 7) (i := 1) rfl _).trans (q_ite ?_ ?_)
  · refine (dc_iload (a := 2) (i := 7) rfl rfl).trans ?_
    refine (dc_ic (x := 1) (i := 8) rfl).trans ?_
    refine (dn_icmp (c := (fun x y => decide (¬ x = y))) (t := 17) (i := 9) rfl _ _).trans (q_ite ?_ ?_)
    · refine (dc_iload (a := 2) (i := 17) rfl rfl).trans ?_
      refine (dc_ic (x := 2) (i := 18) rfl).trans ?_
      refine (dn_icmp (c := (fun x y => decide (¬ x = y))) (t := 25) (i := 19) rfl _ _).trans (q_ite ?_ ?_)
      · refine (dc_aload (a := 0) (i := 25) rfl rfl).trans ?_
        refine (dc_iload (a := 1) (i := 26) rfl rfl).trans ?_
        refine (dn_cV_i (i := 27) (y := 137) (na := 2) (ci := 9) rfl (pa_2 _ _ _) (Nat.le_of_ble_eq_true rfl) (Nat.le_of_ble_eq_true rfl)).trans (congrArg (fun F => qv _ _ _ (qr_i _ F)) (funext fun y1 => funext fun hp1 => ?_))
        exact rfl
      · refine (dc_aload (a := 0) (i := 20) rfl rfl).trans ?_
        refine (dn_getA (ci := 9) (j := 2) (i := 21) rfl _).trans (congrArg (qg_a _ _ _ _) (funext fun r2 => ?_))
        refine (dc_iload (a := 1) (i := 22) rfl rfl).trans ?_
        refine (dn_iald (t := 0) (i := 23) rfl _ _).trans (congrArg (qa_i _ _ _ _) (funext fun y3 => ?_))
        refine (dc_goto (t := 28) (i := 24) rfl).trans ?_
        exact rfl
    · refine (dc_aload (a := 0) (i := 10) rfl rfl).trans ?_
      refine (dn_getI (ci := 9) (j := 4) (i := 11) rfl _).trans (congrArg (qg_i _ _ _ _) (funext fun y4 => ?_))
      refine (dc_iload (a := 1) (i := 12) rfl rfl).trans ?_
      refine (dc_bin (f := (fun x y => x >>> (y &&& 31))) (i := 13) rfl _ _).trans ?_
      refine (dc_ic (x := 1) (i := 14) rfl).trans ?_
      refine (dc_bin (f := (fun x y => x &&& y)) (i := 15) rfl _ _).trans ?_
      refine (dc_goto (t := 28) (i := 16) rfl).trans ?_
      exact rfl
  · refine (dc_aload (a := 0) (i := 2) rfl rfl).trans ?_
    refine (dn_getA (ci := 9) (j := 0) (i := 3) rfl _).trans (congrArg (qg_a _ _ _ _) (funext fun r5 => ?_))
    refine (dc_iload (a := 1) (i := 4) rfl rfl).trans ?_
    refine (dn_iald (t := 0) (i := 5) rfl _ _).trans (congrArg (qa_i _ _ _ _) (funext fun y6 => ?_))
    refine (dc_goto (t := 28) (i := 6) rfl).trans ?_
    exact rfl
theorem B141_28 {v0 : pO} {v1 : pO} {v2 : pO} {s0 : Int32} {hp : pH} : dn pg 141 28 [v0, v1, v2] [.int s0] hp = q_i s0 hp := by
  exact dc_ireturn (i := 28) rfl _
theorem B142_0 {o0 : Nat} {x1 : Int32} {v2 : pO} {hp : pH} : dn pg 142 0 [some (.ref o0), some (.int x1), v2] [] hp = qr_i (cl pg 109 [.long x1.toInt64, .long (lN 0), .long (lN 6)] hp) (fun y1 hp1 => if ¬ y1 = nI 0 then qv hp1 o0 9 (qr_i (cl pg 126 [.ref o0] hp1) (fun y2 hp2 => if y2 = (-6) then qv hp2 o0 9 (qr_i (cl pg 143 [.ref o0, .int x1] hp2) (fun y3 hp3 => dn pg 142 20 [some (.ref o0), some (.int x1), some (.int y2)] [.int y3, .ref o0] hp3)) else dn pg 142 20 [some (.ref o0), some (.int x1), some (.int y2)] [.int y2, .ref o0] hp2)) else q_i (-2) hp1) := by
  refine (dc_iload (a := 1) (i := 0) rfl rfl).trans ?_
  refine (dc_i2l (i := 1) rfl _).trans ?_
  refine (dc_lc (x := 0) (i := 2) rfl).trans ?_
  refine (dc_lc (x := 6) (i := 3) rfl).trans ?_
  refine (dn_cS_i (i := 4) (y := 109) (na := 3) rfl (pa_3 _ _ _ _) (Nat.le_of_ble_eq_true rfl) (Nat.le_of_ble_eq_true rfl)).trans (congrArg (qr_i _) (funext fun y1 => funext fun hp1 => ?_))
  refine (dn_if (c := (fun x => decide (¬ x = 0))) (t := 8) (i := 5) rfl _).trans (q_ite ?_ ?_)
  · refine (dc_aload (a := 0) (i := 8) rfl rfl).trans ?_
    refine (dn_cV_i (i := 9) (y := 126) (na := 1) (ci := 9) rfl (pa_1 _ _) (Nat.le_of_ble_eq_true rfl) (Nat.le_of_ble_eq_true rfl)).trans (congrArg (fun F => qv _ _ _ (qr_i _ F)) (funext fun y2 => funext fun hp2 => ?_))
    refine (dn_istore (a := 2) (i := 10) rfl rfl _).trans ?_
    refine (dc_aload (a := 0) (i := 11) rfl rfl).trans ?_
    refine (dc_iload (a := 2) (i := 12) rfl rfl).trans ?_
    refine (dc_ic (x := (-6)) (i := 13) rfl).trans ?_
    refine (dn_icmp (c := (fun x y => decide (x = y))) (t := 17) (i := 14) rfl _ _).trans (q_ite ?_ ?_)
    · refine (dc_aload (a := 0) (i := 17) rfl rfl).trans ?_
      refine (dc_iload (a := 1) (i := 18) rfl rfl).trans ?_
      refine (dn_cV_i (i := 19) (y := 143) (na := 2) (ci := 9) rfl (pa_2 _ _ _) (Nat.le_of_ble_eq_true rfl) (Nat.le_of_ble_eq_true rfl)).trans (congrArg (fun F => qv _ _ _ (qr_i _ F)) (funext fun y3 => funext fun hp3 => ?_))
      exact rfl
    · refine (dc_iload (a := 2) (i := 15) rfl rfl).trans ?_
      refine (dc_goto (t := 20) (i := 16) rfl).trans ?_
      exact rfl
  · refine (dc_ic (x := (-2)) (i := 6) rfl).trans ?_
    exact dc_ireturn (i := 7) rfl _
theorem B142_20 {v0 : pO} {v1 : pO} {v2 : pO} {s0 : Int32} {s1 : Nat} {hp : pH} : dn pg 142 20 [v0, v1, v2] [.int s0, .ref s1] hp = qv hp s1 9 (qr_i (cl pg 139 [.ref s1, .int s0] hp) (fun y1 hp1 => q_i y1 hp1)) := by
  refine (dn_cV_i (i := 20) (y := 139) (na := 2) (ci := 9) rfl (pa_2 _ _ _) (Nat.le_of_ble_eq_true rfl) (Nat.le_of_ble_eq_true rfl)).trans (congrArg (fun F => qv _ _ _ (qr_i _ F)) (funext fun y1 => funext fun hp1 => ?_))
  exact dc_ireturn (i := 21) rfl _
theorem B143_0 {o0 : Nat} {x1 : Int32} {hp : pH} : dn pg 143 0 [some (.ref o0), some (.int x1)] [] hp = if (nI 4) ≤ x1 then if ¬ x1 = (nI 4) then if ¬ x1 = (nI 5) then qv hp o0 9 (qr_i (cl pg 113 [.ref o0] hp) (fun y1 hp1 => dn pg 143 21 [some (.ref o0), some (.int x1)] [.int y1] hp1)) else qg_i hp o0 9 6 (fun y2 => dn pg 143 21 [some (.ref o0), some (.int x1)] [.int y2] hp) else qg_i hp o0 9 5 (fun y3 => dn pg 143 21 [some (.ref o0), some (.int x1)] [.int y3] hp) else qv hp o0 9 (qr_i (cl pg 144 [.ref o0, .int x1] hp) (fun y4 hp2 => dn pg 143 21 [some (.ref o0), some (.int x1)] [.int y4] hp2)) := by
  refine (dc_iload (a := 1) (i := 0) rfl rfl).trans ?_
  refine (dc_ic (x := 4) (i := 1) rfl).trans ?_
  refine (dn_icmp (c := (fun x y => decide (y ≤ x))) (t := 7) (i := 2) rfl _ _).trans (q_ite ?_ ?_)
  · refine (dc_iload (a := 1) (i := 7) rfl rfl).trans ?_
    refine (dc_ic (x := 4) (i := 8) rfl).trans ?_
    refine (dn_icmp (c := (fun x y => decide (¬ x = y))) (t := 13) (i := 9) rfl _ _).trans (q_ite ?_ ?_)
    · refine (dc_iload (a := 1) (i := 13) rfl rfl).trans ?_
      refine (dc_ic (x := 5) (i := 14) rfl).trans ?_
      refine (dn_icmp (c := (fun x y => decide (¬ x = y))) (t := 19) (i := 15) rfl _ _).trans (q_ite ?_ ?_)
      · refine (dc_aload (a := 0) (i := 19) rfl rfl).trans ?_
        refine (dn_cV_i (i := 20) (y := 113) (na := 1) (ci := 9) rfl (pa_1 _ _) (Nat.le_of_ble_eq_true rfl) (Nat.le_of_ble_eq_true rfl)).trans (congrArg (fun F => qv _ _ _ (qr_i _ F)) (funext fun y1 => funext fun hp1 => ?_))
        exact rfl
      · refine (dc_aload (a := 0) (i := 16) rfl rfl).trans ?_
        refine (dn_getI (ci := 9) (j := 6) (i := 17) rfl _).trans (congrArg (qg_i _ _ _ _) (funext fun y2 => ?_))
        refine (dc_goto (t := 21) (i := 18) rfl).trans ?_
        exact rfl
    · refine (dc_aload (a := 0) (i := 10) rfl rfl).trans ?_
      refine (dn_getI (ci := 9) (j := 5) (i := 11) rfl _).trans (congrArg (qg_i _ _ _ _) (funext fun y3 => ?_))
      refine (dc_goto (t := 21) (i := 12) rfl).trans ?_
      exact rfl
  · refine (dc_aload (a := 0) (i := 3) rfl rfl).trans ?_
    refine (dc_iload (a := 1) (i := 4) rfl rfl).trans ?_
    refine (dn_cV_i (i := 5) (y := 144) (na := 2) (ci := 9) rfl (pa_2 _ _ _) (Nat.le_of_ble_eq_true rfl) (Nat.le_of_ble_eq_true rfl)).trans (congrArg (fun F => qv _ _ _ (qr_i _ F)) (funext fun y4 => funext fun hp2 => ?_))
    refine (dc_goto (t := 21) (i := 6) rfl).trans ?_
    exact rfl
theorem B143_21 {v0 : pO} {v1 : pO} {s0 : Int32} {hp : pH} : dn pg 143 21 [v0, v1] [.int s0] hp = q_i s0 hp := by
  exact dc_ireturn (i := 21) rfl _
theorem B144_0 {v0 : pO} {v1 : pO} {v2 : pO} {v3 : pO} {hp : pH} (h1 : pm_nl v1 = true) : dn pg 144 0 [v0, v1, v2, v3] [] hp = dn pg 144 4 [v0, v1, some (.int (nI 0)), some (.int (nI 0))] [] hp := by
  refine (dc_ic (x := 0) (i := 0) rfl).trans ?_
  refine (dn_istore (a := 2) (i := 1) rfl (pm_ok_nl (Nat.le_of_ble_eq_true rfl) rfl h1) _).trans ?_
  refine (dc_ic (x := 0) (i := 2) rfl).trans ?_
  refine (dn_istore (a := 3) (i := 3) rfl rfl _).trans ?_
  exact rfl
theorem B144_4 {o0 : Nat} {x1 : Int32} {x2 : Int32} {x3 : Int32} {hp : pH} : dn pg 144 4 [some (.ref o0), some (.int x1), some (.int x2), some (.int x3)] [] hp = if (nI 8) ≤ x3 then q_i x2 hp else qg_a hp o0 9 0 (fun r1 => qa_i hp r1 0 x3 (fun y2 => if ¬ y2 = x1 then dn pg 144 17 [some (.ref o0), some (.int x1), some (.int x2), some (.int x3)] [.int (nI 0), .int x2] hp else dn pg 144 17 [some (.ref o0), some (.int x1), some (.int x2), some (.int x3)] [.int (nI 1), .int x2] hp)) := by
  refine (dc_iload (a := 3) (i := 4) rfl rfl).trans ?_
  refine (dc_ic (x := 8) (i := 5) rfl).trans ?_
  refine (dn_icmp (c := (fun x y => decide (y ≤ x))) (t := 21) (i := 6) rfl _ _).trans (q_ite ?_ ?_)
  · refine (dc_iload (a := 2) (i := 21) rfl rfl).trans ?_
    exact dc_ireturn (i := 22) rfl _
  · refine (dc_iload (a := 2) (i := 7) rfl rfl).trans ?_
    refine (dc_aload (a := 0) (i := 8) rfl rfl).trans ?_
    refine (dn_getA (ci := 9) (j := 0) (i := 9) rfl _).trans (congrArg (qg_a _ _ _ _) (funext fun r1 => ?_))
    refine (dc_iload (a := 3) (i := 10) rfl rfl).trans ?_
    refine (dn_iald (t := 0) (i := 11) rfl _ _).trans (congrArg (qa_i _ _ _ _) (funext fun y2 => ?_))
    refine (dc_iload (a := 1) (i := 12) rfl rfl).trans ?_
    refine (dn_icmp (c := (fun x y => decide (¬ x = y))) (t := 16) (i := 13) rfl _ _).trans (q_ite ?_ ?_)
    · refine (dc_ic (x := 0) (i := 16) rfl).trans ?_
      exact rfl
    · refine (dc_ic (x := 1) (i := 14) rfl).trans ?_
      refine (dc_goto (t := 17) (i := 15) rfl).trans ?_
      exact rfl
theorem B144_17 {v0 : pO} {v1 : pO} {v2 : pO} {x3 : Int32} {s0 : Int32} {s1 : Int32} {hp : pH} (h1 : pm_nl v1 = true) : dn pg 144 17 [v0, v1, v2, some (.int x3)] [.int s0, .int s1] hp = dn pg 144 4 [v0, v1, some (.int (s1 + s0)), some (.int (x3 + nI 1))] [] hp := by
  refine (dc_bin (f := (fun x y => x + y)) (i := 17) rfl _ _).trans ?_
  refine (dn_istore (a := 2) (i := 18) rfl (pm_ok_nl (Nat.le_of_ble_eq_true rfl) rfl h1) _).trans ?_
  refine (dn_iinc (a := 3) (d := 1) (i := 19) rfl rfl rfl).trans ?_
  refine (dc_goto (t := 4) (i := 20) rfl).trans ?_
  exact rfl
theorem B145_0 {o0 : Nat} {x1 : Int32} {v2 : pO} {hp : pH} : dn pg 145 0 [some (.ref o0), some (.int x1), v2] [] hp = qr_i (cl pg 109 [.long x1.toInt64, .long (lN 0), .long (lN 1)] hp) (fun y1 hp1 => if ¬ y1 = nI 0 then qv hp1 o0 9 (qr_i (cl pg 126 [.ref o0] hp1) (fun y2 hp2 => qv hp2 o0 9 (qr_i (cl pg 139 [.ref o0, .int y2] hp2) (fun y3 hp3 => if y3 = (-6) then if ¬ x1 = nI 0 then qg_i hp3 o0 9 24 (fun y4 => dn pg 145 25 [some (.ref o0), some (.int x1), some (.int y3)] [.int y4] hp3) else qg_i hp3 o0 9 23 (fun y5 => dn pg 145 25 [some (.ref o0), some (.int x1), some (.int y3)] [.int y5] hp3) else dn pg 145 25 [some (.ref o0), some (.int x1), some (.int y3)] [.int y3] hp3)))) else q_i (-2) hp1) := by
  refine (dc_iload (a := 1) (i := 0) rfl rfl).trans ?_
  refine (dc_i2l (i := 1) rfl _).trans ?_
  refine (dc_lc (x := 0) (i := 2) rfl).trans ?_
  refine (dc_lc (x := 1) (i := 3) rfl).trans ?_
  refine (dn_cS_i (i := 4) (y := 109) (na := 3) rfl (pa_3 _ _ _ _) (Nat.le_of_ble_eq_true rfl) (Nat.le_of_ble_eq_true rfl)).trans (congrArg (qr_i _) (funext fun y1 => funext fun hp1 => ?_))
  refine (dn_if (c := (fun x => decide (¬ x = 0))) (t := 8) (i := 5) rfl _).trans (q_ite ?_ ?_)
  · refine (dc_aload (a := 0) (i := 8) rfl rfl).trans ?_
    refine (dc_aload (a := 0) (i := 9) rfl rfl).trans ?_
    refine (dn_cV_i (i := 10) (y := 126) (na := 1) (ci := 9) rfl (pa_1 _ _) (Nat.le_of_ble_eq_true rfl) (Nat.le_of_ble_eq_true rfl)).trans (congrArg (fun F => qv _ _ _ (qr_i _ F)) (funext fun y2 => funext fun hp2 => ?_))
    refine (dn_cV_i (i := 11) (y := 139) (na := 2) (ci := 9) rfl (pa_2 _ _ _) (Nat.le_of_ble_eq_true rfl) (Nat.le_of_ble_eq_true rfl)).trans (congrArg (fun F => qv _ _ _ (qr_i _ F)) (funext fun y3 => funext fun hp3 => ?_))
    refine (dn_istore (a := 2) (i := 12) rfl rfl _).trans ?_
    refine (dc_iload (a := 2) (i := 13) rfl rfl).trans ?_
    refine (dc_ic (x := (-6)) (i := 14) rfl).trans ?_
    refine (dn_icmp (c := (fun x y => decide (x = y))) (t := 18) (i := 15) rfl _ _).trans (q_ite ?_ ?_)
    · refine (dc_iload (a := 1) (i := 18) rfl rfl).trans ?_
      refine (dn_if (c := (fun x => decide (¬ x = 0))) (t := 23) (i := 19) rfl _).trans (q_ite ?_ ?_)
      · refine (dc_aload (a := 0) (i := 23) rfl rfl).trans ?_
        refine (dn_getI (ci := 9) (j := 24) (i := 24) rfl _).trans (congrArg (qg_i _ _ _ _) (funext fun y4 => ?_))
        exact rfl
      · refine (dc_aload (a := 0) (i := 20) rfl rfl).trans ?_
        refine (dn_getI (ci := 9) (j := 23) (i := 21) rfl _).trans (congrArg (qg_i _ _ _ _) (funext fun y5 => ?_))
        refine (dc_goto (t := 25) (i := 22) rfl).trans ?_
        exact rfl
    · refine (dc_iload (a := 2) (i := 16) rfl rfl).trans ?_
      refine (dc_goto (t := 25) (i := 17) rfl).trans ?_
      exact rfl
  · refine (dc_ic (x := (-2)) (i := 6) rfl).trans ?_
    exact dc_ireturn (i := 7) rfl _
theorem B145_25 {v0 : pO} {v1 : pO} {v2 : pO} {s0 : Int32} {hp : pH} : dn pg 145 25 [v0, v1, v2] [.int s0] hp = q_i s0 hp := by
  exact dc_ireturn (i := 25) rfl _
theorem B146_0 {o0 : Nat} {v1 : pO} {hp : pH} : dn pg 146 0 [some (.ref o0), v1] [] hp = qv hp o0 9 (qr_i (cl pg 126 [.ref o0] hp) (fun y1 hp1 => if y1 = (-6) then qp_v hp1 o0 9 13 (.int (nI 0)) (fun hp2 => qg_i hp2 o0 9 17 (fun y2 => q_i y2 hp2)) else qv hp1 o0 9 (qr_i (cl pg 139 [.ref o0, .int y1] hp1) (fun y3 hp3 => q_i y3 hp3)))) := by
  refine (dc_aload (a := 0) (i := 0) rfl rfl).trans ?_
  refine (dn_cV_i (i := 1) (y := 126) (na := 1) (ci := 9) rfl (pa_1 _ _) (Nat.le_of_ble_eq_true rfl) (Nat.le_of_ble_eq_true rfl)).trans (congrArg (fun F => qv _ _ _ (qr_i _ F)) (funext fun y1 => funext fun hp1 => ?_))
  refine (dn_istore (a := 1) (i := 2) rfl rfl _).trans ?_
  refine (dc_iload (a := 1) (i := 3) rfl rfl).trans ?_
  refine (dc_ic (x := (-6)) (i := 4) rfl).trans ?_
  refine (dn_icmp (c := (fun x y => decide (x = y))) (t := 10) (i := 5) rfl _ _).trans (q_ite ?_ ?_)
  · refine (dc_aload (a := 0) (i := 10) rfl rfl).trans ?_
    refine (dc_ic (x := 0) (i := 11) rfl).trans ?_
    refine (dn_putI (ci := 9) (j := 13) (i := 12) rfl _ _).trans (congrArg (qp_v _ _ _ _ _) (funext fun hp2 => ?_))
    refine (dc_aload (a := 0) (i := 13) rfl rfl).trans ?_
    refine (dn_getI (ci := 9) (j := 17) (i := 14) rfl _).trans (congrArg (qg_i _ _ _ _) (funext fun y2 => ?_))
    exact dc_ireturn (i := 15) rfl _
  · refine (dc_aload (a := 0) (i := 6) rfl rfl).trans ?_
    refine (dc_iload (a := 1) (i := 7) rfl rfl).trans ?_
    refine (dn_cV_i (i := 8) (y := 139) (na := 2) (ci := 9) rfl (pa_2 _ _ _) (Nat.le_of_ble_eq_true rfl) (Nat.le_of_ble_eq_true rfl)).trans (congrArg (fun F => qv _ _ _ (qr_i _ F)) (funext fun y3 => funext fun hp3 => ?_))
    exact dc_ireturn (i := 9) rfl _
theorem B147_0 {o0 : Nat} {x1 : Int32} {x2 : Int32} {hp : pH} : dn pg 147 0 [some (.ref o0), some (.int x1), some (.int x2)] [] hp = qr_i (cl pg 108 [.int x1] hp) (fun y1 hp1 => if ¬ y1 = nI 0 then qr_i (cl pg 109 [.long x2.toInt64, .long (lN 0), .long (lN 99)] hp1) (fun y2 hp2 => if y2 = nI 0 then dn pg 147 24 [some (.ref o0), some (.int x1), some (.int x2)] [.int (-2)] hp2 else qv hp2 o0 9 (qr_i (cl pg 148 [.ref o0, .int x1, .int x2, .int (nI 1)] hp2) (fun y3 hp3 => qv hp3 o0 9 (qr_i (cl pg 148 [.ref o0, .int x1, .int x2, .int (-1)] hp3) (fun y4 hp4 => dn pg 147 24 [some (.ref o0), some (.int x1), some (.int x2)] [.int (y3 ||| y4)] hp4))))) else q_i (-1) hp1) := by
  refine (dc_iload (a := 1) (i := 0) rfl rfl).trans ?_
  refine (dn_cS_i (i := 1) (y := 108) (na := 1) rfl (pa_1 _ _) (Nat.le_of_ble_eq_true rfl) (Nat.le_of_ble_eq_true rfl)).trans (congrArg (qr_i _) (funext fun y1 => funext fun hp1 => ?_))
  refine (dn_if (c := (fun x => decide (¬ x = 0))) (t := 5) (i := 2) rfl _).trans (q_ite ?_ ?_)
  · refine (dc_iload (a := 2) (i := 5) rfl rfl).trans ?_
    refine (dc_i2l (i := 6) rfl _).trans ?_
    refine (dc_lc (x := 0) (i := 7) rfl).trans ?_
    refine (dc_lc (x := 99) (i := 8) rfl).trans ?_
    refine (dn_cS_i (i := 9) (y := 109) (na := 3) rfl (pa_3 _ _ _ _) (Nat.le_of_ble_eq_true rfl) (Nat.le_of_ble_eq_true rfl)).trans (congrArg (qr_i _) (funext fun y2 => funext fun hp2 => ?_))
    refine (dn_if (c := (fun x => decide (x = 0))) (t := 23) (i := 10) rfl _).trans (q_ite ?_ ?_)
    · refine (dc_ic (x := (-2)) (i := 23) rfl).trans ?_
      exact rfl
    · refine (dc_aload (a := 0) (i := 11) rfl rfl).trans ?_
      refine (dc_iload (a := 1) (i := 12) rfl rfl).trans ?_
      refine (dc_iload (a := 2) (i := 13) rfl rfl).trans ?_
      refine (dc_ic (x := 1) (i := 14) rfl).trans ?_
      refine (dn_cV_i (i := 15) (y := 148) (na := 4) (ci := 9) rfl (pa_4 _ _ _ _ _) (Nat.le_of_ble_eq_true rfl) (Nat.le_of_ble_eq_true rfl)).trans (congrArg (fun F => qv _ _ _ (qr_i _ F)) (funext fun y3 => funext fun hp3 => ?_))
      refine (dc_aload (a := 0) (i := 16) rfl rfl).trans ?_
      refine (dc_iload (a := 1) (i := 17) rfl rfl).trans ?_
      refine (dc_iload (a := 2) (i := 18) rfl rfl).trans ?_
      refine (dc_ic (x := (-1)) (i := 19) rfl).trans ?_
      refine (dn_cV_i (i := 20) (y := 148) (na := 4) (ci := 9) rfl (pa_4 _ _ _ _ _) (Nat.le_of_ble_eq_true rfl) (Nat.le_of_ble_eq_true rfl)).trans (congrArg (fun F => qv _ _ _ (qr_i _ F)) (funext fun y4 => funext fun hp4 => ?_))
      refine (dc_bin (f := (fun x y => x ||| y)) (i := 21) rfl _ _).trans ?_
      refine (dc_goto (t := 24) (i := 22) rfl).trans ?_
      exact rfl
  · refine (dc_ic (x := (-1)) (i := 3) rfl).trans ?_
    exact dc_ireturn (i := 4) rfl _
theorem B147_24 {v0 : pO} {v1 : pO} {v2 : pO} {s0 : Int32} {hp : pH} : dn pg 147 24 [v0, v1, v2] [.int s0] hp = q_i s0 hp := by
  exact dc_ireturn (i := 24) rfl _
theorem B148_0 {o0 : Nat} {x1 : Int32} {v2 : pO} {v3 : pO} {v4 : pO} {v5 : pO} {v6 : pO} {v7 : pO} {hp : pH} (h3 : pm_nl v3 = true) : dn pg 148 0 [some (.ref o0), some (.int x1), v2, v3, v4, v5, v6, v7] [] hp = qv hp o0 9 (qr_i (cl pg 137 [.ref o0, .int x1] hp) (fun y1 hp1 => dn pg 148 8 [some (.ref o0), some (.int x1), v2, v3, some (.int (nI 0)), some (.int y1), some (.int (nI 1)), v7] [] hp1)) := by
  refine (dc_ic (x := 0) (i := 0) rfl).trans ?_
  refine (dn_istore (a := 4) (i := 1) rfl (pm_ok_nl (Nat.le_of_ble_eq_true rfl) rfl h3) _).trans ?_
  refine (dc_aload (a := 0) (i := 2) rfl rfl).trans ?_
  refine (dc_iload (a := 1) (i := 3) rfl rfl).trans ?_
  refine (dn_cV_i (i := 4) (y := 137) (na := 2) (ci := 9) rfl (pa_2 _ _ _) (Nat.le_of_ble_eq_true rfl) (Nat.le_of_ble_eq_true rfl)).trans (congrArg (fun F => qv _ _ _ (qr_i _ F)) (funext fun y1 => funext fun hp1 => ?_))
  refine (dn_istore (a := 5) (i := 5) rfl rfl _).trans ?_
  refine (dc_ic (x := 1) (i := 6) rfl).trans ?_
  refine (dn_istore (a := 6) (i := 7) rfl rfl _).trans ?_
  exact rfl
theorem B148_8 {o0 : Nat} {x1 : Int32} {x2 : Int32} {x3 : Int32} {x4 : Int32} {x5 : Int32} {x6 : Int32} {v7 : pO} {hp : pH} : dn pg 148 8 [some (.ref o0), some (.int x1), some (.int x2), some (.int x3), some (.int x4), some (.int x5), some (.int x6), v7] [] hp = if (nI 8) ≤ x6 then q_i x4 hp else qv hp o0 9 (qr_i (cl pg 137 [.ref o0, .int (((x1 + (x6 * x3)) + (nI 64)) % (nI 8))] hp) (fun y1 hp1 => if x2 < (x5 + y1) then dn pg 148 36 [some (.ref o0), some (.int x1), some (.int x2), some (.int x3), some (.int x4), some (.int (x5 + y1)), some (.int x6), some (.int (((x1 + (x6 * x3)) + (nI 64)) % (nI 8)))] [.int (nI 0), .int x4] hp1 else dn pg 148 36 [some (.ref o0), some (.int x1), some (.int x2), some (.int x3), some (.int x4), some (.int (x5 + y1)), some (.int x6), some (.int (((x1 + (x6 * x3)) + (nI 64)) % (nI 8)))] [.int ((nI 1) <<< ((((x1 + (x6 * x3)) + (nI 64)) % (nI 8)) &&& nI 31)), .int x4] hp1)) := by
  refine (dc_iload (a := 6) (i := 8) rfl rfl).trans ?_
  refine (dc_ic (x := 8) (i := 9) rfl).trans ?_
  refine (dn_icmp (c := (fun x y => decide (y ≤ x))) (t := 40) (i := 10) rfl _ _).trans (q_ite ?_ ?_)
  · refine (dc_iload (a := 4) (i := 40) rfl rfl).trans ?_
    exact dc_ireturn (i := 41) rfl _
  · refine (dc_iload (a := 1) (i := 11) rfl rfl).trans ?_
    refine (dc_iload (a := 6) (i := 12) rfl rfl).trans ?_
    refine (dc_iload (a := 3) (i := 13) rfl rfl).trans ?_
    refine (dc_bin (f := (fun x y => x * y)) (i := 14) rfl _ _).trans ?_
    refine (dc_bin (f := (fun x y => x + y)) (i := 15) rfl _ _).trans ?_
    refine (dc_ic (x := 64) (i := 16) rfl).trans ?_
    refine (dc_bin (f := (fun x y => x + y)) (i := 17) rfl _ _).trans ?_
    refine (dc_ic (x := 8) (i := 18) rfl).trans ?_
    refine ((dn_div (f := (fun x y => x % y)) (i := 19) rfl _ _).trans (if_neg (by decide))).trans ?_
    refine (dn_istore (a := 7) (i := 20) rfl rfl _).trans ?_
    refine (dc_iload (a := 5) (i := 21) rfl rfl).trans ?_
    refine (dc_aload (a := 0) (i := 22) rfl rfl).trans ?_
    refine (dc_iload (a := 7) (i := 23) rfl rfl).trans ?_
    refine (dn_cV_i (i := 24) (y := 137) (na := 2) (ci := 9) rfl (pa_2 _ _ _) (Nat.le_of_ble_eq_true rfl) (Nat.le_of_ble_eq_true rfl)).trans (congrArg (fun F => qv _ _ _ (qr_i _ F)) (funext fun y1 => funext fun hp1 => ?_))
    refine (dc_bin (f := (fun x y => x + y)) (i := 25) rfl _ _).trans ?_
    refine (dn_istore (a := 5) (i := 26) rfl rfl _).trans ?_
    refine (dc_iload (a := 4) (i := 27) rfl rfl).trans ?_
    refine (dc_iload (a := 5) (i := 28) rfl rfl).trans ?_
    refine (dc_iload (a := 2) (i := 29) rfl rfl).trans ?_
    refine (dn_icmp (c := (fun x y => decide (y < x))) (t := 35) (i := 30) rfl _ _).trans (q_ite ?_ ?_)
    · refine (dc_ic (x := 0) (i := 35) rfl).trans ?_
      exact rfl
    · refine (dc_ic (x := 1) (i := 31) rfl).trans ?_
      refine (dc_iload (a := 7) (i := 32) rfl rfl).trans ?_
      refine (dc_bin (f := (fun x y => x <<< (y &&& 31))) (i := 33) rfl _ _).trans ?_
      refine (dc_goto (t := 36) (i := 34) rfl).trans ?_
      exact rfl
theorem B148_36 {v0 : pO} {v1 : pO} {v2 : pO} {v3 : pO} {v4 : pO} {v5 : pO} {x6 : Int32} {v7 : pO} {s0 : Int32} {s1 : Int32} {hp : pH} (h3 : pm_nl v3 = true) (h5 : pm_nl v5 = true) : dn pg 148 36 [v0, v1, v2, v3, v4, v5, some (.int x6), v7] [.int s0, .int s1] hp = dn pg 148 8 [v0, v1, v2, v3, some (.int (s1 ||| s0)), v5, some (.int (x6 + nI 1)), v7] [] hp := by
  refine (dc_bin (f := (fun x y => x ||| y)) (i := 36) rfl _ _).trans ?_
  refine (dn_istore (a := 4) (i := 37) rfl (pm_ok_nl (Nat.le_of_ble_eq_true rfl) rfl h3) _).trans ?_
  refine (dn_iinc (a := 6) (d := 1) (i := 38) rfl (pm_ok_nl (Nat.le_of_ble_eq_true rfl) rfl h5) rfl).trans ?_
  refine (dc_goto (t := 8) (i := 39) rfl).trans ?_
  exact rfl
theorem B149_0 {v0 : pO} {x1 : Int32} {v2 : pO} {v3 : pO} {hp : pH} : dn pg 149 0 [v0, some (.int x1), v2, v3] [] hp = qr_i (cl pg 109 [.long x1.toInt64, .long (lN 0), .long (lN 1)] hp) (fun y1 hp1 => if ¬ y1 = nI 0 then dn pg 149 12 [v0, some (.int x1), some (.int (nI 1)), some (.int (nI 3))] [] hp1 else q_i (-2) hp1) := by
  refine (dc_iload (a := 1) (i := 0) rfl rfl).trans ?_
  refine (dc_i2l (i := 1) rfl _).trans ?_
  refine (dc_lc (x := 0) (i := 2) rfl).trans ?_
  refine (dc_lc (x := 1) (i := 3) rfl).trans ?_
  refine (dn_cS_i (i := 4) (y := 109) (na := 3) rfl (pa_3 _ _ _ _) (Nat.le_of_ble_eq_true rfl) (Nat.le_of_ble_eq_true rfl)).trans (congrArg (qr_i _) (funext fun y1 => funext fun hp1 => ?_))
  refine (dn_if (c := (fun x => decide (¬ x = 0))) (t := 8) (i := 5) rfl _).trans (q_ite ?_ ?_)
  · refine (dc_ic (x := 1) (i := 8) rfl).trans ?_
    refine (dn_istore (a := 2) (i := 9) rfl rfl _).trans ?_
    refine (dc_ic (x := 3) (i := 10) rfl).trans ?_
    refine (dn_istore (a := 3) (i := 11) rfl rfl _).trans ?_
    exact rfl
  · refine (dc_ic (x := (-2)) (i := 6) rfl).trans ?_
    exact dc_ireturn (i := 7) rfl _
theorem B149_12 {o0 : Nat} {x1 : Int32} {x2 : Int32} {x3 : Int32} {hp : pH} : dn pg 149 12 [some (.ref o0), some (.int x1), some (.int x2), some (.int x3)] [] hp = if (nI 255) < x3 then if ¬ x1 = nI 0 then dn pg 149 35 [some (.ref o0), some (.int x1), some (.int x2), some (.int x3)] [.int x2] hp else qv hp o0 9 (qr_i (cl pg 150 [.ref o0, .int x2] hp) (fun y1 hp1 => dn pg 149 35 [some (.ref o0), some (.int x1), some (.int x2), some (.int x3)] [.int y1] hp1)) else qv hp o0 9 (qr_i (cl pg 150 [.ref o0, .int x3] hp) (fun y2 hp2 => qv hp2 o0 9 (qr_i (cl pg 150 [.ref o0, .int x2] hp2) (fun y3 hp3 => if y3 ≤ y2 then dn pg 149 25 [some (.ref o0), some (.int x1), some (.int x2), some (.int x3)] [.int x2] hp3 else dn pg 149 25 [some (.ref o0), some (.int x1), some (.int x2), some (.int x3)] [.int x3] hp3)))) := by
  refine (dc_iload (a := 3) (i := 12) rfl rfl).trans ?_
  refine (dc_ic (x := 255) (i := 13) rfl).trans ?_
  refine (dn_icmp (c := (fun x y => decide (y < x))) (t := 28) (i := 14) rfl _ _).trans (q_ite ?_ ?_)
  · refine (dc_iload (a := 1) (i := 28) rfl rfl).trans ?_
    refine (dn_if (c := (fun x => decide (¬ x = 0))) (t := 34) (i := 29) rfl _).trans (q_ite ?_ ?_)
    · refine (dc_iload (a := 2) (i := 34) rfl rfl).trans ?_
      exact rfl
    · refine (dc_aload (a := 0) (i := 30) rfl rfl).trans ?_
      refine (dc_iload (a := 2) (i := 31) rfl rfl).trans ?_
      refine (dn_cV_i (i := 32) (y := 150) (na := 2) (ci := 9) rfl (pa_2 _ _ _) (Nat.le_of_ble_eq_true rfl) (Nat.le_of_ble_eq_true rfl)).trans (congrArg (fun F => qv _ _ _ (qr_i _ F)) (funext fun y1 => funext fun hp1 => ?_))
      refine (dc_goto (t := 35) (i := 33) rfl).trans ?_
      exact rfl
  · refine (dc_aload (a := 0) (i := 15) rfl rfl).trans ?_
    refine (dc_iload (a := 3) (i := 16) rfl rfl).trans ?_
    refine (dn_cV_i (i := 17) (y := 150) (na := 2) (ci := 9) rfl (pa_2 _ _ _) (Nat.le_of_ble_eq_true rfl) (Nat.le_of_ble_eq_true rfl)).trans (congrArg (fun F => qv _ _ _ (qr_i _ F)) (funext fun y2 => funext fun hp2 => ?_))
    refine (dc_aload (a := 0) (i := 18) rfl rfl).trans ?_
    refine (dc_iload (a := 2) (i := 19) rfl rfl).trans ?_
    refine (dn_cV_i (i := 20) (y := 150) (na := 2) (ci := 9) rfl (pa_2 _ _ _) (Nat.le_of_ble_eq_true rfl) (Nat.le_of_ble_eq_true rfl)).trans (congrArg (fun F => qv _ _ _ (qr_i _ F)) (funext fun y3 => funext fun hp3 => ?_))
    refine (dn_icmp (c := (fun x y => decide (y ≤ x))) (t := 24) (i := 21) rfl _ _).trans (q_ite ?_ ?_)
    · refine (dc_iload (a := 2) (i := 24) rfl rfl).trans ?_
      exact rfl
    · refine (dc_iload (a := 3) (i := 22) rfl rfl).trans ?_
      refine (dc_goto (t := 25) (i := 23) rfl).trans ?_
      exact rfl
theorem B149_25 {v0 : pO} {v1 : pO} {v2 : pO} {x3 : Int32} {s0 : Int32} {hp : pH} (h1 : pm_nl v1 = true) : dn pg 149 25 [v0, v1, v2, some (.int x3)] [.int s0] hp = dn pg 149 12 [v0, v1, some (.int s0), some (.int (x3 + nI 2))] [] hp := by
  refine (dn_istore (a := 2) (i := 25) rfl (pm_ok_nl (Nat.le_of_ble_eq_true rfl) rfl h1) _).trans ?_
  refine (dn_iinc (a := 3) (d := 2) (i := 26) rfl rfl rfl).trans ?_
  refine (dc_goto (t := 12) (i := 27) rfl).trans ?_
  exact rfl
theorem B149_35 {v0 : pO} {v1 : pO} {v2 : pO} {v3 : pO} {s0 : Int32} {hp : pH} : dn pg 149 35 [v0, v1, v2, v3] [.int s0] hp = q_i s0 hp := by
  exact dc_ireturn (i := 35) rfl _
theorem B150_0 {v0 : pO} {v1 : pO} {v2 : pO} {v3 : pO} {v4 : pO} {v5 : pO} {v6 : pO} {hp : pH} (h1 : pm_nl v1 = true) : dn pg 150 0 [v0, v1, v2, v3, v4, v5, v6] [] hp = dn pg 150 4 [v0, v1, some (.int (nI 0)), some (.int (nI 1)), v4, v5, v6] [] hp := by
  refine (dc_ic (x := 0) (i := 0) rfl).trans ?_
  refine (dn_istore (a := 2) (i := 1) rfl (pm_ok_nl (Nat.le_of_ble_eq_true rfl) rfl h1) _).trans ?_
  refine (dc_ic (x := 1) (i := 2) rfl).trans ?_
  refine (dn_istore (a := 3) (i := 3) rfl rfl _).trans ?_
  exact rfl
theorem B150_4 {v0 : pO} {v1 : pO} {x2 : Int32} {x3 : Int32} {v4 : pO} {v5 : pO} {v6 : pO} {hp : pH} : dn pg 150 4 [v0, v1, some (.int x2), some (.int x3), v4, v5, v6] [] hp = if (nI 8) ≤ x3 then q_i x2 hp else dn pg 150 9 [v0, v1, some (.int x2), some (.int x3), some (.int (nI 0)), v5, v6] [] hp := by
  refine (dc_iload (a := 3) (i := 4) rfl rfl).trans ?_
  refine (dc_ic (x := 8) (i := 5) rfl).trans ?_
  refine (dn_icmp (c := (fun x y => decide (y ≤ x))) (t := 57) (i := 6) rfl _ _).trans (q_ite ?_ ?_)
  · refine (dc_iload (a := 2) (i := 57) rfl rfl).trans ?_
    exact dc_ireturn (i := 58) rfl _
  · refine (dc_ic (x := 0) (i := 7) rfl).trans ?_
    refine (dn_istore (a := 4) (i := 8) rfl rfl _).trans ?_
    exact rfl
theorem B150_9 {v0 : pO} {x1 : Int32} {v2 : pO} {x3 : Int32} {x4 : Int32} {v5 : pO} {v6 : pO} {hp : pH} (h2 : pm_nl v2 = true) : dn pg 150 9 [v0, some (.int x1), v2, some (.int x3), some (.int x4), v5, v6] [] hp = if x3 ≤ x4 then dn pg 150 4 [v0, some (.int x1), v2, some (.int (x3 + nI 1)), some (.int x4), v5, v6] [] hp else qr_i (cl pg 130 [.int x1, .int x4] hp) (fun y1 hp1 => qr_i (cl pg 130 [.int x1, .int x3] hp1) (fun y2 hp2 => if y1 = y2 then dn pg 150 22 [v0, some (.int x1), v2, some (.int x3), some (.int x4), v5, v6] [.int (nI 0)] hp2 else dn pg 150 22 [v0, some (.int x1), v2, some (.int x3), some (.int x4), v5, v6] [.int (nI 1)] hp2)) := by
  refine (dc_iload (a := 4) (i := 9) rfl rfl).trans ?_
  refine (dc_iload (a := 3) (i := 10) rfl rfl).trans ?_
  refine (dn_icmp (c := (fun x y => decide (y ≤ x))) (t := 55) (i := 11) rfl _ _).trans (q_ite ?_ ?_)
  · refine (dn_iinc (a := 3) (d := 1) (i := 55) rfl (pm_ok_nl (Nat.le_of_ble_eq_true rfl) rfl h2) rfl).trans ?_
    refine (dc_goto (t := 4) (i := 56) rfl).trans ?_
    exact rfl
  · refine (dc_iload (a := 1) (i := 12) rfl rfl).trans ?_
    refine (dc_iload (a := 4) (i := 13) rfl rfl).trans ?_
    refine (dn_cS_i (i := 14) (y := 130) (na := 2) rfl (pa_2 _ _ _) (Nat.le_of_ble_eq_true rfl) (Nat.le_of_ble_eq_true rfl)).trans (congrArg (qr_i _) (funext fun y1 => funext fun hp1 => ?_))
    refine (dc_iload (a := 1) (i := 15) rfl rfl).trans ?_
    refine (dc_iload (a := 3) (i := 16) rfl rfl).trans ?_
    refine (dn_cS_i (i := 17) (y := 130) (na := 2) rfl (pa_2 _ _ _) (Nat.le_of_ble_eq_true rfl) (Nat.le_of_ble_eq_true rfl)).trans (congrArg (qr_i _) (funext fun y2 => funext fun hp2 => ?_))
    refine (dn_icmp (c := (fun x y => decide (x = y))) (t := 21) (i := 18) rfl _ _).trans (q_ite ?_ ?_)
    · refine (dc_ic (x := 0) (i := 21) rfl).trans ?_
      exact rfl
    · refine (dc_ic (x := 1) (i := 19) rfl).trans ?_
      refine (dc_goto (t := 22) (i := 20) rfl).trans ?_
      exact rfl
theorem B150_22 {o0 : Nat} {v1 : pO} {x2 : Int32} {x3 : Int32} {x4 : Int32} {v5 : pO} {v6 : pO} {s0 : Int32} {hp : pH} : dn pg 150 22 [some (.ref o0), v1, some (.int x2), some (.int x3), some (.int x4), v5, v6] [.int s0] hp = qg_a hp o0 9 3 (fun r1 => qa_i hp r1 0 x4 (fun y2 => qr_i (cl pg 130 [.int y2, .int x3] hp) (fun y3 hp1 => if s0 = nI 0 then dn pg 150 35 [some (.ref o0), v1, some (.int x2), some (.int x3), some (.int x4), some (.int s0), some (.int y3)] [.int x2] hp1 else if ¬ y3 = nI 0 then dn pg 150 48 [some (.ref o0), v1, some (.int x2), some (.int x3), some (.int x4), some (.int s0), some (.int y3)] [.int x2] hp1 else dn pg 150 35 [some (.ref o0), v1, some (.int x2), some (.int x3), some (.int x4), some (.int s0), some (.int y3)] [.int x2] hp1))) := by
  refine (dn_istore (a := 5) (i := 22) rfl rfl _).trans ?_
  refine (dc_aload (a := 0) (i := 23) rfl rfl).trans ?_
  refine (dn_getA (ci := 9) (j := 3) (i := 24) rfl _).trans (congrArg (qg_a _ _ _ _) (funext fun r1 => ?_))
  refine (dc_iload (a := 4) (i := 25) rfl rfl).trans ?_
  refine (dn_iald (t := 0) (i := 26) rfl _ _).trans (congrArg (qa_i _ _ _ _) (funext fun y2 => ?_))
  refine (dc_iload (a := 3) (i := 27) rfl rfl).trans ?_
  refine (dn_cS_i (i := 28) (y := 130) (na := 2) rfl (pa_2 _ _ _) (Nat.le_of_ble_eq_true rfl) (Nat.le_of_ble_eq_true rfl)).trans (congrArg (qr_i _) (funext fun y3 => funext fun hp1 => ?_))
  refine (dn_istore (a := 6) (i := 29) rfl rfl _).trans ?_
  refine (dc_iload (a := 2) (i := 30) rfl rfl).trans ?_
  refine (dc_iload (a := 5) (i := 31) rfl rfl).trans ?_
  refine (dn_if (c := (fun x => decide (x = 0))) (t := 35) (i := 32) rfl _).trans (q_ite ?_ ?_)
  · exact rfl
  · refine (dc_iload (a := 6) (i := 33) rfl rfl).trans ?_
    refine (dn_if (c := (fun x => decide (¬ x = 0))) (t := 48) (i := 34) rfl _).trans (q_ite ?_ ?_)
    · exact rfl
    · exact rfl
theorem B150_35 {o0 : Nat} {v1 : pO} {v2 : pO} {x3 : Int32} {x4 : Int32} {x5 : Int32} {x6 : Int32} {s0 : Int32} {hp : pH} : dn pg 150 35 [some (.ref o0), v1, v2, some (.int x3), some (.int x4), some (.int x5), some (.int x6)] [.int s0] hp = if ¬ x5 = nI 0 then dn pg 150 50 [some (.ref o0), v1, v2, some (.int x3), some (.int x4), some (.int x5), some (.int x6)] [.int s0] hp else if ¬ x6 = nI 0 then dn pg 150 50 [some (.ref o0), v1, v2, some (.int x3), some (.int x4), some (.int x5), some (.int x6)] [.int s0] hp else qg_a hp o0 9 0 (fun r1 => qa_i hp r1 0 x4 (fun y2 => qg_a hp o0 9 0 (fun r3 => qa_i hp r3 0 x3 (fun y4 => if y2 = y4 then dn pg 150 50 [some (.ref o0), v1, v2, some (.int x3), some (.int x4), some (.int x5), some (.int x6)] [.int s0] hp else dn pg 150 48 [some (.ref o0), v1, v2, some (.int x3), some (.int x4), some (.int x5), some (.int x6)] [.int s0] hp)))) := by
  refine (dc_iload (a := 5) (i := 35) rfl rfl).trans ?_
  refine (dn_if (c := (fun x => decide (¬ x = 0))) (t := 50) (i := 36) rfl _).trans (q_ite ?_ ?_)
  · exact rfl
  · refine (dc_iload (a := 6) (i := 37) rfl rfl).trans ?_
    refine (dn_if (c := (fun x => decide (¬ x = 0))) (t := 50) (i := 38) rfl _).trans (q_ite ?_ ?_)
    · exact rfl
    · refine (dc_aload (a := 0) (i := 39) rfl rfl).trans ?_
      refine (dn_getA (ci := 9) (j := 0) (i := 40) rfl _).trans (congrArg (qg_a _ _ _ _) (funext fun r1 => ?_))
      refine (dc_iload (a := 4) (i := 41) rfl rfl).trans ?_
      refine (dn_iald (t := 0) (i := 42) rfl _ _).trans (congrArg (qa_i _ _ _ _) (funext fun y2 => ?_))
      refine (dc_aload (a := 0) (i := 43) rfl rfl).trans ?_
      refine (dn_getA (ci := 9) (j := 0) (i := 44) rfl _).trans (congrArg (qg_a _ _ _ _) (funext fun r3 => ?_))
      refine (dc_iload (a := 3) (i := 45) rfl rfl).trans ?_
      refine (dn_iald (t := 0) (i := 46) rfl _ _).trans (congrArg (qa_i _ _ _ _) (funext fun y4 => ?_))
      refine (dn_icmp (c := (fun x y => decide (x = y))) (t := 50) (i := 47) rfl _ _).trans (q_ite ?_ ?_)
      · exact rfl
      · exact rfl
theorem B150_48 {v0 : pO} {v1 : pO} {v2 : pO} {v3 : pO} {v4 : pO} {v5 : pO} {v6 : pO} {s0 : Int32} {hp : pH} : dn pg 150 48 [v0, v1, v2, v3, v4, v5, v6] [.int s0] hp = dn pg 150 51 [v0, v1, v2, v3, v4, v5, v6] [.int (nI 1), .int s0] hp := by
  refine (dc_ic (x := 1) (i := 48) rfl).trans ?_
  refine (dc_goto (t := 51) (i := 49) rfl).trans ?_
  exact rfl
theorem B150_50 {v0 : pO} {v1 : pO} {v2 : pO} {v3 : pO} {v4 : pO} {v5 : pO} {v6 : pO} {s0 : Int32} {hp : pH} : dn pg 150 50 [v0, v1, v2, v3, v4, v5, v6] [.int s0] hp = dn pg 150 51 [v0, v1, v2, v3, v4, v5, v6] [.int (nI 0), .int s0] hp := by
  refine (dc_ic (x := 0) (i := 50) rfl).trans ?_
  exact rfl
theorem B150_51 {v0 : pO} {v1 : pO} {v2 : pO} {v3 : pO} {x4 : Int32} {v5 : pO} {v6 : pO} {s0 : Int32} {s1 : Int32} {hp : pH} (h1 : pm_nl v1 = true) (h3 : pm_nl v3 = true) : dn pg 150 51 [v0, v1, v2, v3, some (.int x4), v5, v6] [.int s0, .int s1] hp = dn pg 150 9 [v0, v1, some (.int (s1 + s0)), v3, some (.int (x4 + nI 1)), v5, v6] [] hp := by
  refine (dc_bin (f := (fun x y => x + y)) (i := 51) rfl _ _).trans ?_
  refine (dn_istore (a := 2) (i := 52) rfl (pm_ok_nl (Nat.le_of_ble_eq_true rfl) rfl h1) _).trans ?_
  refine (dn_iinc (a := 4) (d := 1) (i := 53) rfl (pm_ok_nl (Nat.le_of_ble_eq_true rfl) rfl h3) rfl).trans ?_
  refine (dc_goto (t := 9) (i := 54) rfl).trans ?_
  exact rfl
theorem B151_0 {v0 : pO} {x1 : Int32} {v2 : pO} {v3 : pO} {hp : pH} : dn pg 151 0 [v0, some (.int x1), v2, v3] [] hp = qr_i (cl pg 109 [.long x1.toInt64, .long (lN 0), .long (lN 1)] hp) (fun y1 hp1 => if ¬ y1 = nI 0 then dn pg 151 12 [v0, some (.int x1), some (.int (nI 0)), some (.int (nI 1))] [] hp1 else q_i (-2) hp1) := by
  refine (dc_iload (a := 1) (i := 0) rfl rfl).trans ?_
  refine (dc_i2l (i := 1) rfl _).trans ?_
  refine (dc_lc (x := 0) (i := 2) rfl).trans ?_
  refine (dc_lc (x := 1) (i := 3) rfl).trans ?_
  refine (dn_cS_i (i := 4) (y := 109) (na := 3) rfl (pa_3 _ _ _ _) (Nat.le_of_ble_eq_true rfl) (Nat.le_of_ble_eq_true rfl)).trans (congrArg (qr_i _) (funext fun y1 => funext fun hp1 => ?_))
  refine (dn_if (c := (fun x => decide (¬ x = 0))) (t := 8) (i := 5) rfl _).trans (q_ite ?_ ?_)
  · refine (dc_ic (x := 0) (i := 8) rfl).trans ?_
    refine (dn_istore (a := 2) (i := 9) rfl rfl _).trans ?_
    refine (dc_ic (x := 1) (i := 10) rfl).trans ?_
    refine (dn_istore (a := 3) (i := 11) rfl rfl _).trans ?_
    exact rfl
  · refine (dc_ic (x := (-2)) (i := 6) rfl).trans ?_
    exact dc_ireturn (i := 7) rfl _
theorem B151_12 {o0 : Nat} {x1 : Int32} {x2 : Int32} {x3 : Int32} {hp : pH} : dn pg 151 12 [some (.ref o0), some (.int x1), some (.int x2), some (.int x3)] [] hp = if (nI 64) ≤ x3 then if ¬ x1 = nI 0 then dn pg 151 38 [some (.ref o0), some (.int x1), some (.int x2), some (.int x3)] [.int x2] hp else qr_i (cl pg 114 [.int x2] hp) (fun y1 hp1 => dn pg 151 38 [some (.ref o0), some (.int x1), some (.int x2), some (.int x3)] [.int ((nI 6) - y1)] hp1) else qr_i (cl pg 114 [.int x3] hp) (fun y2 hp2 => qr_i (cl pg 114 [.int x2] hp2) (fun y3 hp3 => if y2 ≤ y3 then dn pg 151 26 [some (.ref o0), some (.int x1), some (.int x2), some (.int x3)] [] hp3 else qv hp3 o0 9 (qr_i (cl pg 152 [.ref o0, .int x3] hp3) (fun y4 hp4 => if y4 = nI 0 then dn pg 151 26 [some (.ref o0), some (.int x1), some (.int x2), some (.int x3)] [] hp4 else dn pg 151 27 [some (.ref o0), some (.int x1), some (.int x2), some (.int x3)] [.int x3] hp4)))) := by
  refine (dc_iload (a := 3) (i := 12) rfl rfl).trans ?_
  refine (dc_ic (x := 64) (i := 13) rfl).trans ?_
  refine (dn_icmp (c := (fun x y => decide (y ≤ x))) (t := 30) (i := 14) rfl _ _).trans (q_ite ?_ ?_)
  · refine (dc_iload (a := 1) (i := 30) rfl rfl).trans ?_
    refine (dn_if (c := (fun x => decide (¬ x = 0))) (t := 37) (i := 31) rfl _).trans (q_ite ?_ ?_)
    · refine (dc_iload (a := 2) (i := 37) rfl rfl).trans ?_
      exact rfl
    · refine (dc_ic (x := 6) (i := 32) rfl).trans ?_
      refine (dc_iload (a := 2) (i := 33) rfl rfl).trans ?_
      refine (dn_cS_i (i := 34) (y := 114) (na := 1) rfl (pa_1 _ _) (Nat.le_of_ble_eq_true rfl) (Nat.le_of_ble_eq_true rfl)).trans (congrArg (qr_i _) (funext fun y1 => funext fun hp1 => ?_))
      refine (dc_bin (f := (fun x y => x - y)) (i := 35) rfl _ _).trans ?_
      refine (dc_goto (t := 38) (i := 36) rfl).trans ?_
      exact rfl
  · refine (dc_iload (a := 3) (i := 15) rfl rfl).trans ?_
    refine (dn_cS_i (i := 16) (y := 114) (na := 1) rfl (pa_1 _ _) (Nat.le_of_ble_eq_true rfl) (Nat.le_of_ble_eq_true rfl)).trans (congrArg (qr_i _) (funext fun y2 => funext fun hp2 => ?_))
    refine (dc_iload (a := 2) (i := 17) rfl rfl).trans ?_
    refine (dn_cS_i (i := 18) (y := 114) (na := 1) rfl (pa_1 _ _) (Nat.le_of_ble_eq_true rfl) (Nat.le_of_ble_eq_true rfl)).trans (congrArg (qr_i _) (funext fun y3 => funext fun hp3 => ?_))
    refine (dn_icmp (c := (fun x y => decide (x ≤ y))) (t := 26) (i := 19) rfl _ _).trans (q_ite ?_ ?_)
    · exact rfl
    · refine (dc_aload (a := 0) (i := 20) rfl rfl).trans ?_
      refine (dc_iload (a := 3) (i := 21) rfl rfl).trans ?_
      refine (dn_cV_i (i := 22) (y := 152) (na := 2) (ci := 9) rfl (pa_2 _ _ _) (Nat.le_of_ble_eq_true rfl) (Nat.le_of_ble_eq_true rfl)).trans (congrArg (fun F => qv _ _ _ (qr_i _ F)) (funext fun y4 => funext fun hp4 => ?_))
      refine (dn_if (c := (fun x => decide (x = 0))) (t := 26) (i := 23) rfl _).trans (q_ite ?_ ?_)
      · exact rfl
      · refine (dc_iload (a := 3) (i := 24) rfl rfl).trans ?_
        refine (dc_goto (t := 27) (i := 25) rfl).trans ?_
        exact rfl
theorem B151_26 {v0 : pO} {v1 : pO} {x2 : Int32} {v3 : pO} {hp : pH} : dn pg 151 26 [v0, v1, some (.int x2), v3] [] hp = dn pg 151 27 [v0, v1, some (.int x2), v3] [.int x2] hp := by
  refine (dc_iload (a := 2) (i := 26) rfl rfl).trans ?_
  exact rfl
theorem B151_27 {v0 : pO} {v1 : pO} {v2 : pO} {x3 : Int32} {s0 : Int32} {hp : pH} (h1 : pm_nl v1 = true) : dn pg 151 27 [v0, v1, v2, some (.int x3)] [.int s0] hp = dn pg 151 12 [v0, v1, some (.int s0), some (.int (x3 + nI 1))] [] hp := by
  refine (dn_istore (a := 2) (i := 27) rfl (pm_ok_nl (Nat.le_of_ble_eq_true rfl) rfl h1) _).trans ?_
  refine (dn_iinc (a := 3) (d := 1) (i := 28) rfl rfl rfl).trans ?_
  refine (dc_goto (t := 12) (i := 29) rfl).trans ?_
  exact rfl
theorem B151_38 {v0 : pO} {v1 : pO} {v2 : pO} {v3 : pO} {s0 : Int32} {hp : pH} : dn pg 151 38 [v0, v1, v2, v3] [.int s0] hp = q_i s0 hp := by
  exact dc_ireturn (i := 38) rfl _
theorem B152_0 {v0 : pO} {x1 : Int32} {v2 : pO} {v3 : pO} {v4 : pO} {v5 : pO} {hp : pH} : dn pg 152 0 [v0, some (.int x1), v2, v3, v4, v5] [] hp = dn pg 152 6 [v0, some (.int x1), some (.int (nI 0)), some (.int x1), some (.int (nI 1)), v5] [] hp := by
  refine (dc_ic (x := 0) (i := 0) rfl).trans ?_
  refine (dn_istore (a := 2) (i := 1) rfl rfl _).trans ?_
  refine (dc_iload (a := 1) (i := 2) rfl rfl).trans ?_
  refine (dn_istore (a := 3) (i := 3) rfl rfl _).trans ?_
  refine (dc_ic (x := 1) (i := 4) rfl).trans ?_
  refine (dn_istore (a := 4) (i := 5) rfl rfl _).trans ?_
  exact rfl
theorem B152_6 {o0 : Nat} {v1 : pO} {x2 : Int32} {x3 : Int32} {x4 : Int32} {v5 : pO} {hp : pH} (h1 : pm_nl v1 = true) : dn pg 152 6 [some (.ref o0), v1, some (.int x2), some (.int x3), some (.int x4), v5] [] hp = if x3 = nI 0 then dn pg 152 40 [some (.ref o0), v1, some (.int x2), some (.int x3), some (.int x4), v5] [] hp else if x4 = nI 0 then dn pg 152 40 [some (.ref o0), v1, some (.int x2), some (.int x3), some (.int x4), v5] [] hp else qv hp o0 9 (qr_i (cl pg 153 [.ref o0, .int x3] hp) (fun y1 hp1 => qg_a hp1 o0 9 7 (fun r2 => qa_i hp1 r2 0 y1 (fun y3 => qg_a hp1 o0 9 8 (fun r4 => qa_i hp1 r4 0 y1 (fun y5 => if y5 < (x2 + y3) then dn pg 152 30 [some (.ref o0), v1, some (.int (x2 + y3)), some (.int x3), some (.int x4), some (.int y1)] [.int (nI 0)] hp1 else dn pg 152 30 [some (.ref o0), v1, some (.int (x2 + y3)), some (.int x3), some (.int x4), some (.int y1)] [.int (nI 1)] hp1)))))) := by
  refine (dc_iload (a := 3) (i := 6) rfl rfl).trans ?_
  refine (dn_if (c := (fun x => decide (x = 0))) (t := 40) (i := 7) rfl _).trans (q_ite ?_ ?_)
  · exact rfl
  · refine (dc_iload (a := 4) (i := 8) rfl rfl).trans ?_
    refine (dn_if (c := (fun x => decide (x = 0))) (t := 40) (i := 9) rfl _).trans (q_ite ?_ ?_)
    · exact rfl
    · refine (dc_aload (a := 0) (i := 10) rfl rfl).trans ?_
      refine (dc_iload (a := 3) (i := 11) rfl rfl).trans ?_
      refine (dn_cV_i (i := 12) (y := 153) (na := 2) (ci := 9) rfl (pa_2 _ _ _) (Nat.le_of_ble_eq_true rfl) (Nat.le_of_ble_eq_true rfl)).trans (congrArg (fun F => qv _ _ _ (qr_i _ F)) (funext fun y1 => funext fun hp1 => ?_))
      refine (dn_istore (a := 5) (i := 13) rfl rfl _).trans ?_
      refine (dc_iload (a := 2) (i := 14) rfl rfl).trans ?_
      refine (dc_aload (a := 0) (i := 15) rfl rfl).trans ?_
      refine (dn_getA (ci := 9) (j := 7) (i := 16) rfl _).trans (congrArg (qg_a _ _ _ _) (funext fun r2 => ?_))
      refine (dc_iload (a := 5) (i := 17) rfl rfl).trans ?_
      refine (dn_iald (t := 0) (i := 18) rfl _ _).trans (congrArg (qa_i _ _ _ _) (funext fun y3 => ?_))
      refine (dc_bin (f := (fun x y => x + y)) (i := 19) rfl _ _).trans ?_
      refine (dn_istore (a := 2) (i := 20) rfl (pm_ok_nl (Nat.le_of_ble_eq_true rfl) rfl h1) _).trans ?_
      refine (dc_iload (a := 2) (i := 21) rfl rfl).trans ?_
      refine (dc_aload (a := 0) (i := 22) rfl rfl).trans ?_
      refine (dn_getA (ci := 9) (j := 8) (i := 23) rfl _).trans (congrArg (qg_a _ _ _ _) (funext fun r4 => ?_))
      refine (dc_iload (a := 5) (i := 24) rfl rfl).trans ?_
      refine (dn_iald (t := 0) (i := 25) rfl _ _).trans (congrArg (qa_i _ _ _ _) (funext fun y5 => ?_))
      refine (dn_icmp (c := (fun x y => decide (y < x))) (t := 29) (i := 26) rfl _ _).trans (q_ite ?_ ?_)
      · refine (dc_ic (x := 0) (i := 29) rfl).trans ?_
        exact rfl
      · refine (dc_ic (x := 1) (i := 27) rfl).trans ?_
        refine (dc_goto (t := 30) (i := 28) rfl).trans ?_
        exact rfl
theorem B152_30 {v0 : pO} {v1 : pO} {v2 : pO} {x3 : Int32} {v4 : pO} {x5 : Int32} {s0 : Int32} {hp : pH} (h2 : pm_nl v2 = true) : dn pg 152 30 [v0, v1, v2, some (.int x3), v4, some (.int x5)] [.int s0] hp = dn pg 152 6 [v0, v1, v2, some (.int (x3 &&& (((nI 1) <<< (x5 &&& nI 31)) ^^^ (-1)))), some (.int s0), some (.int x5)] [] hp := by
  refine (dn_istore (a := 4) (i := 30) rfl rfl _).trans ?_
  refine (dc_iload (a := 3) (i := 31) rfl rfl).trans ?_
  refine (dc_ic (x := 1) (i := 32) rfl).trans ?_
  refine (dc_iload (a := 5) (i := 33) rfl rfl).trans ?_
  refine (dc_bin (f := (fun x y => x <<< (y &&& 31))) (i := 34) rfl _ _).trans ?_
  refine (dc_ic (x := (-1)) (i := 35) rfl).trans ?_
  refine (dc_bin (f := (fun x y => x ^^^ y)) (i := 36) rfl _ _).trans ?_
  refine (dc_bin (f := (fun x y => x &&& y)) (i := 37) rfl _ _).trans ?_
  refine (dn_istore (a := 3) (i := 38) rfl (pm_ok_nl (Nat.le_of_ble_eq_true rfl) rfl h2) _).trans ?_
  refine (dc_goto (t := 6) (i := 39) rfl).trans ?_
  exact rfl
theorem B152_40 {v0 : pO} {v1 : pO} {v2 : pO} {v3 : pO} {x4 : Int32} {v5 : pO} {hp : pH} : dn pg 152 40 [v0, v1, v2, v3, some (.int x4), v5] [] hp = qz x4 (q_i x4 hp) := by
  refine (dc_iload (a := 4) (i := 40) rfl rfl).trans ?_
  exact dn_zret (i := 41) rfl _
