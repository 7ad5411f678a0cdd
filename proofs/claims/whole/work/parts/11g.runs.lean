/-! Stretches of the code as equations; printed by wip/whole/gen_dn.py. -/
theorem B153_0 {v0 : pO} {v1 : pO} {v2 : pO} {v3 : pO} {hp : pH} (h1 : pm_nl v1 = true) : dn pg 153 0 [v0, v1, v2, v3] [] hp = dn pg 153 4 [v0, v1, some (.int (-6)), some (.int (nI 0))] [] hp := by
  refine (dc_ic (x := (-6)) (i := 0) rfl).trans ?_
  refine (dn_istore (a := 2) (i := 1) rfl (pm_ok_nl (Nat.le_of_ble_eq_true rfl) rfl h1) _).trans ?_
  refine (dc_ic (x := 0) (i := 2) rfl).trans ?_
  refine (dn_istore (a := 3) (i := 3) rfl rfl _).trans ?_
  exact rfl
theorem B153_4 {o0 : Nat} {x1 : Int32} {x2 : Int32} {x3 : Int32} {hp : pH} : dn pg 153 4 [some (.ref o0), some (.int x1), some (.int x2), some (.int x3)] [] hp = if (nI 6) ≤ x3 then q_i x2 hp else qr_i (cl pg 130 [.int x1, .int x3] hp) (fun y1 hp1 => if y1 = nI 0 then dn pg 153 24 [some (.ref o0), some (.int x1), some (.int x2), some (.int x3)] [] hp1 else if x2 < nI 0 then dn pg 153 22 [some (.ref o0), some (.int x1), some (.int x2), some (.int x3)] [] hp1 else qg_a hp1 o0 9 8 (fun r2 => qa_i hp1 r2 0 x3 (fun y3 => qg_a hp1 o0 9 8 (fun r4 => qa_i hp1 r4 0 x2 (fun y5 => if y5 ≤ y3 then dn pg 153 24 [some (.ref o0), some (.int x1), some (.int x2), some (.int x3)] [] hp1 else dn pg 153 22 [some (.ref o0), some (.int x1), some (.int x2), some (.int x3)] [] hp1))))) := by
  refine (dc_iload (a := 3) (i := 4) rfl rfl).trans ?_
  refine (dc_ic (x := 6) (i := 5) rfl).trans ?_
  refine (dn_icmp (c := (fun x y => decide (y ≤ x))) (t := 28) (i := 6) rfl _ _).trans (q_ite ?_ ?_)
  · refine (dc_iload (a := 2) (i := 28) rfl rfl).trans ?_
    exact dc_ireturn (i := 29) rfl _
  · refine (dc_iload (a := 1) (i := 7) rfl rfl).trans ?_
    refine (dc_iload (a := 3) (i := 8) rfl rfl).trans ?_
    refine (dn_cS_i (i := 9) (y := 130) (na := 2) rfl (pa_2 _ _ _) (Nat.le_of_ble_eq_true rfl) (Nat.le_of_ble_eq_true rfl)).trans (congrArg (qr_i _) (funext fun y1 => funext fun hp1 => ?_))
    refine (dn_if (c := (fun x => decide (x = 0))) (t := 24) (i := 10) rfl _).trans (q_ite ?_ ?_)
    · exact rfl
    · refine (dc_iload (a := 2) (i := 11) rfl rfl).trans ?_
      refine (dn_if (c := (fun x => decide (x < 0))) (t := 22) (i := 12) rfl _).trans (q_ite ?_ ?_)
      · exact rfl
      · refine (dc_aload (a := 0) (i := 13) rfl rfl).trans ?_
        refine (dn_getA (ci := 9) (j := 8) (i := 14) rfl _).trans (congrArg (qg_a _ _ _ _) (funext fun r2 => ?_))
        refine (dc_iload (a := 3) (i := 15) rfl rfl).trans ?_
        refine (dn_iald (t := 0) (i := 16) rfl _ _).trans (congrArg (qa_i _ _ _ _) (funext fun y3 => ?_))
        refine (dc_aload (a := 0) (i := 17) rfl rfl).trans ?_
        refine (dn_getA (ci := 9) (j := 8) (i := 18) rfl _).trans (congrArg (qg_a _ _ _ _) (funext fun r4 => ?_))
        refine (dc_iload (a := 2) (i := 19) rfl rfl).trans ?_
        refine (dn_iald (t := 0) (i := 20) rfl _ _).trans (congrArg (qa_i _ _ _ _) (funext fun y5 => ?_))
        refine (dn_icmp (c := (fun x y => decide (y ≤ x))) (t := 24) (i := 21) rfl _ _).trans (q_ite ?_ ?_)
        · exact rfl
        · exact rfl
theorem B153_22 {v0 : pO} {v1 : pO} {v2 : pO} {x3 : Int32} {hp : pH} : dn pg 153 22 [v0, v1, v2, some (.int x3)] [] hp = dn pg 153 25 [v0, v1, v2, some (.int x3)] [.int x3] hp := by
  refine (dc_iload (a := 3) (i := 22) rfl rfl).trans ?_
  refine (dc_goto (t := 25) (i := 23) rfl).trans ?_
  exact rfl
theorem B153_24 {v0 : pO} {v1 : pO} {x2 : Int32} {v3 : pO} {hp : pH} : dn pg 153 24 [v0, v1, some (.int x2), v3] [] hp = dn pg 153 25 [v0, v1, some (.int x2), v3] [.int x2] hp := by
  refine (dc_iload (a := 2) (i := 24) rfl rfl).trans ?_
  exact rfl
theorem B153_25 {v0 : pO} {v1 : pO} {v2 : pO} {x3 : Int32} {s0 : Int32} {hp : pH} (h1 : pm_nl v1 = true) : dn pg 153 25 [v0, v1, v2, some (.int x3)] [.int s0] hp = dn pg 153 4 [v0, v1, some (.int s0), some (.int (x3 + nI 1))] [] hp := by
  refine (dn_istore (a := 2) (i := 25) rfl (pm_ok_nl (Nat.le_of_ble_eq_true rfl) rfl h1) _).trans ?_
  refine (dn_iinc (a := 3) (d := 1) (i := 26) rfl rfl rfl).trans ?_
  refine (dc_goto (t := 4) (i := 27) rfl).trans ?_
  exact rfl
theorem B154_0 {o0 : Nat} {x1 : Int32} {x2 : Int32} {x3 : Int32} {x4 : Int32} {x5 : Int32} {v6 : pO} {hp : pH} : dn pg 154 0 [some (.ref o0), some (.int x1), some (.int x2), some (.int x3), some (.int x4), some (.int x5), v6] [] hp = qr_i (cl pg 155 [.int x1] hp) (fun y1 hp1 => if y1 = nI 0 then dn pg 154 21 [some (.ref o0), some (.int x1), some (.int x2), some (.int x3), some (.int x4), some (.int x5), v6] [] hp1 else qr_i (cl pg 155 [.int x2] hp1) (fun y2 hp2 => if y2 = nI 0 then dn pg 154 21 [some (.ref o0), some (.int x1), some (.int x2), some (.int x3), some (.int x4), some (.int x5), v6] [] hp2 else qr_i (cl pg 155 [.int x3] hp2) (fun y3 hp3 => if y3 = nI 0 then dn pg 154 21 [some (.ref o0), some (.int x1), some (.int x2), some (.int x3), some (.int x4), some (.int x5), v6] [] hp3 else qr_i (cl pg 109 [.long x4.toInt64, .long (lN 0), .long (lN 200)] hp3) (fun y4 hp4 => if y4 = nI 0 then dn pg 154 21 [some (.ref o0), some (.int x1), some (.int x2), some (.int x3), some (.int x4), some (.int x5), v6] [] hp4 else qr_i (cl pg 109 [.long x5.toInt64, .long (lN 0), .long (lN 2)] hp4) (fun y5 hp5 => if ¬ y5 = nI 0 then if ¬ x5 = (nI 1) then qg_a hp5 o0 9 26 (fun r6 => qx_i hp5 r6 0 (nI 0) (nI 0) (fun hp6 => dn pg 154 40 [some (.ref o0), some (.int x1), some (.int x2), some (.int x3), some (.int x4), some (.int x5), some (.int (nI 1))] [] hp6)) else qv hp5 o0 9 (qr_i (cl pg 156 [.ref o0, .int x1, .int x2, .int x3, .int x4] hp5) (fun y7 hp7 => q_i y7 hp7)) else dn pg 154 21 [some (.ref o0), some (.int x1), some (.int x2), some (.int x3), some (.int x4), some (.int x5), v6] [] hp5))))) := by
  refine (dc_iload (a := 1) (i := 0) rfl rfl).trans ?_
  refine (dn_cS_i (i := 1) (y := 155) (na := 1) rfl (pa_1 _ _) (Nat.le_of_ble_eq_true rfl) (Nat.le_of_ble_eq_true rfl)).trans (congrArg (qr_i _) (funext fun y1 => funext fun hp1 => ?_))
  refine (dn_if (c := (fun x => decide (x = 0))) (t := 21) (i := 2) rfl _).trans (q_ite ?_ ?_)
  · exact rfl
  · refine (dc_iload (a := 2) (i := 3) rfl rfl).trans ?_
    refine (dn_cS_i (i := 4) (y := 155) (na := 1) rfl (pa_1 _ _) (Nat.le_of_ble_eq_true rfl) (Nat.le_of_ble_eq_true rfl)).trans (congrArg (qr_i _) (funext fun y2 => funext fun hp2 => ?_))
    refine (dn_if (c := (fun x => decide (x = 0))) (t := 21) (i := 5) rfl _).trans (q_ite ?_ ?_)
    · exact rfl
    · refine (dc_iload (a := 3) (i := 6) rfl rfl).trans ?_
      refine (dn_cS_i (i := 7) (y := 155) (na := 1) rfl (pa_1 _ _) (Nat.le_of_ble_eq_true rfl) (Nat.le_of_ble_eq_true rfl)).trans (congrArg (qr_i _) (funext fun y3 => funext fun hp3 => ?_))
      refine (dn_if (c := (fun x => decide (x = 0))) (t := 21) (i := 8) rfl _).trans (q_ite ?_ ?_)
      · exact rfl
      · refine (dc_iload (a := 4) (i := 9) rfl rfl).trans ?_
        refine (dc_i2l (i := 10) rfl _).trans ?_
        refine (dc_lc (x := 0) (i := 11) rfl).trans ?_
        refine (dc_lc (x := 200) (i := 12) rfl).trans ?_
        refine (dn_cS_i (i := 13) (y := 109) (na := 3) rfl (pa_3 _ _ _ _) (Nat.le_of_ble_eq_true rfl) (Nat.le_of_ble_eq_true rfl)).trans (congrArg (qr_i _) (funext fun y4 => funext fun hp4 => ?_))
        refine (dn_if (c := (fun x => decide (x = 0))) (t := 21) (i := 14) rfl _).trans (q_ite ?_ ?_)
        · exact rfl
        · refine (dc_iload (a := 5) (i := 15) rfl rfl).trans ?_
          refine (dc_i2l (i := 16) rfl _).trans ?_
          refine (dc_lc (x := 0) (i := 17) rfl).trans ?_
          refine (dc_lc (x := 2) (i := 18) rfl).trans ?_
          refine (dn_cS_i (i := 19) (y := 109) (na := 3) rfl (pa_3 _ _ _ _) (Nat.le_of_ble_eq_true rfl) (Nat.le_of_ble_eq_true rfl)).trans (congrArg (qr_i _) (funext fun y5 => funext fun hp5 => ?_))
          refine (dn_if (c := (fun x => decide (¬ x = 0))) (t := 23) (i := 20) rfl _).trans (q_ite ?_ ?_)
          · refine (dc_iload (a := 5) (i := 23) rfl rfl).trans ?_
            refine (dc_ic (x := 1) (i := 24) rfl).trans ?_
            refine (dn_icmp (c := (fun x y => decide (¬ x = y))) (t := 33) (i := 25) rfl _ _).trans (q_ite ?_ ?_)
            · refine (dc_aload (a := 0) (i := 33) rfl rfl).trans ?_
              refine (dn_getA (ci := 9) (j := 26) (i := 34) rfl _).trans (congrArg (qg_a _ _ _ _) (funext fun r6 => ?_))
              refine (dc_ic (x := 0) (i := 35) rfl).trans ?_
              refine (dc_ic (x := 0) (i := 36) rfl).trans ?_
              refine (dn_iast (i := 37) rfl _ _ _).trans (congrArg (qx_i _ _ _ _ _) (funext fun hp6 => ?_))
              refine (dc_ic (x := 1) (i := 38) rfl).trans ?_
              refine (dn_istore (a := 6) (i := 39) rfl rfl _).trans ?_
              exact rfl
            · refine (dc_aload (a := 0) (i := 26) rfl rfl).trans ?_
              refine (dc_iload (a := 1) (i := 27) rfl rfl).trans ?_
              refine (dc_iload (a := 2) (i := 28) rfl rfl).trans ?_
              refine (dc_iload (a := 3) (i := 29) rfl rfl).trans ?_
              refine (dc_iload (a := 4) (i := 30) rfl rfl).trans ?_
              refine (dn_cV_i (i := 31) (y := 156) (na := 5) (ci := 9) rfl (pa_5 _ _ _ _ _ _) (Nat.le_of_ble_eq_true rfl) (Nat.le_of_ble_eq_true rfl)).trans (congrArg (fun F => qv _ _ _ (qr_i _ F)) (funext fun y7 => funext fun hp7 => ?_))
              exact dc_ireturn (i := 32) rfl _
          · exact rfl
theorem B154_21 {v0 : pO} {v1 : pO} {v2 : pO} {v3 : pO} {v4 : pO} {v5 : pO} {v6 : pO} {hp : pH} : dn pg 154 21 [v0, v1, v2, v3, v4, v5, v6] [] hp = q_i (-2) hp := by
  refine (dc_ic (x := (-2)) (i := 21) rfl).trans ?_
  exact dc_ireturn (i := 22) rfl _
theorem B154_40 {o0 : Nat} {x1 : Int32} {x2 : Int32} {x3 : Int32} {x4 : Int32} {x5 : Int32} {x6 : Int32} {hp : pH} : dn pg 154 40 [some (.ref o0), some (.int x1), some (.int x2), some (.int x3), some (.int x4), some (.int x5), some (.int x6)] [] hp = if (nI 500) < x6 then if ¬ x5 = nI 0 then qr_i (cl pg 158 [.int x1, .int x2] hp) (fun y1 hp1 => qr_i (cl pg 158 [.int y1, .int x3] hp1) (fun y2 hp2 => if y2 ≤ (nI 1) then qv hp2 o0 9 (qr_i (cl pg 159 [.ref o0] hp2) (fun y3 hp3 => dn pg 154 83 [some (.ref o0), some (.int x1), some (.int x2), some (.int x3), some (.int x4), some (.int x5), some (.int x6)] [.int y3] hp3)) else dn pg 154 83 [some (.ref o0), some (.int x1), some (.int x2), some (.int x3), some (.int x4), some (.int x5), some (.int x6)] [.int (-6)] hp2)) else qg_a hp o0 9 26 (fun r4 => qa_i hp r4 0 x4 (fun y5 => dn pg 154 83 [some (.ref o0), some (.int x1), some (.int x2), some (.int x3), some (.int x4), some (.int x5), some (.int x6)] [.int y5] hp)) else qg_a hp o0 9 26 (fun r6 => qv hp o0 9 (qr_i (cl pg 157 [.ref o0, .int (-6), .int (x6 - x1)] hp) (fun y7 hp4 => qv hp4 o0 9 (qr_i (cl pg 157 [.ref o0, .int y7, .int (x6 - x2)] hp4) (fun y8 hp5 => qv hp5 o0 9 (qr_i (cl pg 157 [.ref o0, .int y8, .int (x6 - x3)] hp5) (fun y9 hp6 => qx_i hp6 r6 0 x6 y9 (fun hp7 => dn pg 154 40 [some (.ref o0), some (.int x1), some (.int x2), some (.int x3), some (.int x4), some (.int x5), some (.int (x6 + nI 1))] [] hp7)))))))) := by
  refine (dc_iload (a := 6) (i := 40) rfl rfl).trans ?_
  refine (dc_ic (x := 500) (i := 41) rfl).trans ?_
  refine (dn_icmp (c := (fun x y => decide (y < x))) (t := 65) (i := 42) rfl _ _).trans (q_ite ?_ ?_)
  · refine (dc_iload (a := 5) (i := 65) rfl rfl).trans ?_
    refine (dn_if (c := (fun x => decide (¬ x = 0))) (t := 72) (i := 66) rfl _).trans (q_ite ?_ ?_)
    · refine (dc_iload (a := 1) (i := 72) rfl rfl).trans ?_
      refine (dc_iload (a := 2) (i := 73) rfl rfl).trans ?_
      refine (dn_cS_i (i := 74) (y := 158) (na := 2) rfl (pa_2 _ _ _) (Nat.le_of_ble_eq_true rfl) (Nat.le_of_ble_eq_true rfl)).trans (congrArg (qr_i _) (funext fun y1 => funext fun hp1 => ?_))
      refine (dc_iload (a := 3) (i := 75) rfl rfl).trans ?_
      refine (dn_cS_i (i := 76) (y := 158) (na := 2) rfl (pa_2 _ _ _) (Nat.le_of_ble_eq_true rfl) (Nat.le_of_ble_eq_true rfl)).trans (congrArg (qr_i _) (funext fun y2 => funext fun hp2 => ?_))
      refine (dc_ic (x := 1) (i := 77) rfl).trans ?_
      refine (dn_icmp (c := (fun x y => decide (x ≤ y))) (t := 81) (i := 78) rfl _ _).trans (q_ite ?_ ?_)
      · refine (dc_aload (a := 0) (i := 81) rfl rfl).trans ?_
        refine (dn_cV_i (i := 82) (y := 159) (na := 1) (ci := 9) rfl (pa_1 _ _) (Nat.le_of_ble_eq_true rfl) (Nat.le_of_ble_eq_true rfl)).trans (congrArg (fun F => qv _ _ _ (qr_i _ F)) (funext fun y3 => funext fun hp3 => ?_))
        exact rfl
      · refine (dc_ic (x := (-6)) (i := 79) rfl).trans ?_
        refine (dc_goto (t := 83) (i := 80) rfl).trans ?_
        exact rfl
    · refine (dc_aload (a := 0) (i := 67) rfl rfl).trans ?_
      refine (dn_getA (ci := 9) (j := 26) (i := 68) rfl _).trans (congrArg (qg_a _ _ _ _) (funext fun r4 => ?_))
      refine (dc_iload (a := 4) (i := 69) rfl rfl).trans ?_
      refine (dn_iald (t := 0) (i := 70) rfl _ _).trans (congrArg (qa_i _ _ _ _) (funext fun y5 => ?_))
      refine (dc_goto (t := 83) (i := 71) rfl).trans ?_
      exact rfl
  · refine (dc_aload (a := 0) (i := 43) rfl rfl).trans ?_
    refine (dn_getA (ci := 9) (j := 26) (i := 44) rfl _).trans (congrArg (qg_a _ _ _ _) (funext fun r6 => ?_))
    refine (dc_iload (a := 6) (i := 45) rfl rfl).trans ?_
    refine (dc_aload (a := 0) (i := 46) rfl rfl).trans ?_
    refine (dc_aload (a := 0) (i := 47) rfl rfl).trans ?_
    refine (dc_aload (a := 0) (i := 48) rfl rfl).trans ?_
    refine (dc_ic (x := (-6)) (i := 49) rfl).trans ?_
    refine (dc_iload (a := 6) (i := 50) rfl rfl).trans ?_
    refine (dc_iload (a := 1) (i := 51) rfl rfl).trans ?_
    refine (dc_bin (f := (fun x y => x - y)) (i := 52) rfl _ _).trans ?_
    refine (dn_cV_i (i := 53) (y := 157) (na := 3) (ci := 9) rfl (pa_3 _ _ _ _) (Nat.le_of_ble_eq_true rfl) (Nat.le_of_ble_eq_true rfl)).trans (congrArg (fun F => qv _ _ _ (qr_i _ F)) (funext fun y7 => funext fun hp4 => ?_))
    refine (dc_iload (a := 6) (i := 54) rfl rfl).trans ?_
    refine (dc_iload (a := 2) (i := 55) rfl rfl).trans ?_
    refine (dc_bin (f := (fun x y => x - y)) (i := 56) rfl _ _).trans ?_
    refine (dn_cV_i (i := 57) (y := 157) (na := 3) (ci := 9) rfl (pa_3 _ _ _ _) (Nat.le_of_ble_eq_true rfl) (Nat.le_of_ble_eq_true rfl)).trans (congrArg (fun F => qv _ _ _ (qr_i _ F)) (funext fun y8 => funext fun hp5 => ?_))
    refine (dc_iload (a := 6) (i := 58) rfl rfl).trans ?_
    refine (dc_iload (a := 3) (i := 59) rfl rfl).trans ?_
    refine (dc_bin (f := (fun x y => x - y)) (i := 60) rfl _ _).trans ?_
    refine (dn_cV_i (i := 61) (y := 157) (na := 3) (ci := 9) rfl (pa_3 _ _ _ _) (Nat.le_of_ble_eq_true rfl) (Nat.le_of_ble_eq_true rfl)).trans (congrArg (fun F => qv _ _ _ (qr_i _ F)) (funext fun y9 => funext fun hp6 => ?_))
    refine (dn_iast (i := 62) rfl _ _ _).trans (congrArg (qx_i _ _ _ _ _) (funext fun hp7 => ?_))
    refine (dn_iinc (a := 6) (d := 1) (i := 63) rfl rfl rfl).trans ?_
    refine (dc_goto (t := 40) (i := 64) rfl).trans ?_
    exact rfl
theorem B154_83 {v0 : pO} {v1 : pO} {v2 : pO} {v3 : pO} {v4 : pO} {v5 : pO} {v6 : pO} {s0 : Int32} {hp : pH} : dn pg 154 83 [v0, v1, v2, v3, v4, v5, v6] [.int s0] hp = q_i s0 hp := by
  exact dc_ireturn (i := 83) rfl _
theorem B155_0 {x0 : Int32} {hp : pH} : dn pg 155 0 [some (.int x0)] [] hp = qr_i (cl pg 109 [.long x0.toInt64, .long (lN 1), .long (lN 20)] hp) (fun y1 hp1 => qz y1 (q_i y1 hp1)) := by
  refine (dc_iload (a := 0) (i := 0) rfl rfl).trans ?_
  refine (dc_i2l (i := 1) rfl _).trans ?_
  refine (dc_lc (x := 1) (i := 2) rfl).trans ?_
  refine (dc_lc (x := 20) (i := 3) rfl).trans ?_
  refine (dn_cS_i (i := 4) (y := 109) (na := 3) rfl (pa_3 _ _ _ _) (Nat.le_of_ble_eq_true rfl) (Nat.le_of_ble_eq_true rfl)).trans (congrArg (qr_i _) (funext fun y1 => funext fun hp1 => ?_))
  exact dn_zret (i := 5) rfl _
theorem B156_0 {v0 : pO} {v1 : pO} {v2 : pO} {v3 : pO} {v4 : pO} {v5 : pO} {v6 : pO} {v7 : pO} {hp : pH} (h4 : pm_nl v4 = true) : dn pg 156 0 [v0, v1, v2, v3, v4, v5, v6, v7] [] hp = dn pg 156 4 [v0, v1, v2, v3, v4, some (.int (nI 0)), some (.int (nI 0)), v7] [] hp := by
  refine (dc_ic (x := 0) (i := 0) rfl).trans ?_
  refine (dn_istore (a := 5) (i := 1) rfl (pm_ok_nl (Nat.le_of_ble_eq_true rfl) rfl h4) _).trans ?_
  refine (dc_ic (x := 0) (i := 2) rfl).trans ?_
  refine (dn_istore (a := 6) (i := 3) rfl rfl _).trans ?_
  exact rfl
theorem B156_4 {v0 : pO} {v1 : pO} {v2 : pO} {v3 : pO} {x4 : Int32} {x5 : Int32} {x6 : Int32} {v7 : pO} {hp : pH} : dn pg 156 4 [v0, v1, v2, v3, some (.int x4), some (.int x5), some (.int x6), v7] [] hp = if x4 < x6 then q_i x5 hp else dn pg 156 9 [v0, v1, v2, v3, some (.int x4), some (.int x5), some (.int x6), some (.int x6)] [] hp := by
  refine (dc_iload (a := 6) (i := 4) rfl rfl).trans ?_
  refine (dc_iload (a := 4) (i := 5) rfl rfl).trans ?_
  refine (dn_icmp (c := (fun x y => decide (y < x))) (t := 34) (i := 6) rfl _ _).trans (q_ite ?_ ?_)
  · refine (dc_iload (a := 5) (i := 34) rfl rfl).trans ?_
    exact dc_ireturn (i := 35) rfl _
  · refine (dc_iload (a := 6) (i := 7) rfl rfl).trans ?_
    refine (dn_istore (a := 7) (i := 8) rfl rfl _).trans ?_
    exact rfl
theorem B156_9 {v0 : pO} {x1 : Int32} {v2 : pO} {x3 : Int32} {x4 : Int32} {x5 : Int32} {x6 : Int32} {x7 : Int32} {hp : pH} : dn pg 156 9 [v0, some (.int x1), v2, some (.int x3), some (.int x4), some (.int x5), some (.int x6), some (.int x7)] [] hp = if x4 < x7 then dn pg 156 4 [v0, some (.int x1), v2, some (.int x3), some (.int x4), some (.int x5), some (.int (x6 + x1)), some (.int x7)] [] hp else if x3 = nI 0 then none else if ¬ ((x4 - x7) % x3) = nI 0 then dn pg 156 22 [v0, some (.int x1), v2, some (.int x3), some (.int x4), some (.int x5), some (.int x6), some (.int x7)] [.int (nI 0), .int x5] hp else dn pg 156 22 [v0, some (.int x1), v2, some (.int x3), some (.int x4), some (.int x5), some (.int x6), some (.int x7)] [.int (nI 1), .int x5] hp := by
  refine (dc_iload (a := 7) (i := 9) rfl rfl).trans ?_
  refine (dc_iload (a := 4) (i := 10) rfl rfl).trans ?_
  refine (dn_icmp (c := (fun x y => decide (y < x))) (t := 29) (i := 11) rfl _ _).trans (q_ite ?_ ?_)
  · refine (dc_iload (a := 6) (i := 29) rfl rfl).trans ?_
    refine (dc_iload (a := 1) (i := 30) rfl rfl).trans ?_
    refine (dc_bin (f := (fun x y => x + y)) (i := 31) rfl _ _).trans ?_
    refine (dn_istore (a := 6) (i := 32) rfl rfl _).trans ?_
    refine (dc_goto (t := 4) (i := 33) rfl).trans ?_
    exact rfl
  · refine (dc_iload (a := 5) (i := 12) rfl rfl).trans ?_
    refine (dc_iload (a := 4) (i := 13) rfl rfl).trans ?_
    refine (dc_iload (a := 7) (i := 14) rfl rfl).trans ?_
    refine (dc_bin (f := (fun x y => x - y)) (i := 15) rfl _ _).trans ?_
    refine (dc_iload (a := 3) (i := 16) rfl rfl).trans ?_
    refine (dn_div (f := (fun x y => x % y)) (i := 17) rfl _ _).trans (q_ife rfl ?_)
    refine (dn_if (c := (fun x => decide (¬ x = 0))) (t := 21) (i := 18) rfl _).trans (q_ite ?_ ?_)
    · refine (dc_ic (x := 0) (i := 21) rfl).trans ?_
      exact rfl
    · refine (dc_ic (x := 1) (i := 19) rfl).trans ?_
      refine (dc_goto (t := 22) (i := 20) rfl).trans ?_
      exact rfl
theorem B156_22 {v0 : pO} {v1 : pO} {x2 : Int32} {v3 : pO} {v4 : pO} {v5 : pO} {v6 : pO} {x7 : Int32} {s0 : Int32} {s1 : Int32} {hp : pH} (h4 : pm_nl v4 = true) (h6 : pm_nl v6 = true) : dn pg 156 22 [v0, v1, some (.int x2), v3, v4, v5, v6, some (.int x7)] [.int s0, .int s1] hp = dn pg 156 9 [v0, v1, some (.int x2), v3, v4, some (.int (s1 + s0)), v6, some (.int (x7 + x2))] [] hp := by
  refine (dc_bin (f := (fun x y => x + y)) (i := 22) rfl _ _).trans ?_
  refine (dn_istore (a := 5) (i := 23) rfl (pm_ok_nl (Nat.le_of_ble_eq_true rfl) rfl h4) _).trans ?_
  refine (dc_iload (a := 7) (i := 24) rfl rfl).trans ?_
  refine (dc_iload (a := 2) (i := 25) rfl rfl).trans ?_
  refine (dc_bin (f := (fun x y => x + y)) (i := 26) rfl _ _).trans ?_
  refine (dn_istore (a := 7) (i := 27) rfl (pm_ok_nl (Nat.le_of_ble_eq_true rfl) rfl h6) _).trans ?_
  refine (dc_goto (t := 9) (i := 28) rfl).trans ?_
  exact rfl
theorem B157_0 {o0 : Nat} {v1 : pO} {x2 : Int32} {v3 : pO} {hp : pH} : dn pg 157 0 [some (.ref o0), v1, some (.int x2), v3] [] hp = if x2 < nI 0 then dn pg 157 7 [some (.ref o0), v1, some (.int x2), v3] [] hp else qg_a hp o0 9 26 (fun r1 => qa_i hp r1 0 x2 (fun y2 => if nI 0 ≤ y2 then qg_a hp o0 9 26 (fun r3 => qa_i hp r3 0 x2 (fun y4 => dn pg 157 15 [some (.ref o0), v1, some (.int x2), v3] [.int (y4 + (nI 1))] hp)) else dn pg 157 7 [some (.ref o0), v1, some (.int x2), v3] [] hp)) := by
  refine (dc_iload (a := 2) (i := 0) rfl rfl).trans ?_
  refine (dn_if (c := (fun x => decide (x < 0))) (t := 7) (i := 1) rfl _).trans (q_ite ?_ ?_)
  · exact rfl
  · refine (dc_aload (a := 0) (i := 2) rfl rfl).trans ?_
    refine (dn_getA (ci := 9) (j := 26) (i := 3) rfl _).trans (congrArg (qg_a _ _ _ _) (funext fun r1 => ?_))
    refine (dc_iload (a := 2) (i := 4) rfl rfl).trans ?_
    refine (dn_iald (t := 0) (i := 5) rfl _ _).trans (congrArg (qa_i _ _ _ _) (funext fun y2 => ?_))
    refine (dn_if (c := (fun x => decide (0 ≤ x))) (t := 9) (i := 6) rfl _).trans (q_ite ?_ ?_)
    · refine (dc_aload (a := 0) (i := 9) rfl rfl).trans ?_
      refine (dn_getA (ci := 9) (j := 26) (i := 10) rfl _).trans (congrArg (qg_a _ _ _ _) (funext fun r3 => ?_))
      refine (dc_iload (a := 2) (i := 11) rfl rfl).trans ?_
      refine (dn_iald (t := 0) (i := 12) rfl _ _).trans (congrArg (qa_i _ _ _ _) (funext fun y4 => ?_))
      refine (dc_ic (x := 1) (i := 13) rfl).trans ?_
      refine (dc_bin (f := (fun x y => x + y)) (i := 14) rfl _ _).trans ?_
      exact rfl
    · exact rfl
theorem B157_7 {v0 : pO} {v1 : pO} {v2 : pO} {v3 : pO} {hp : pH} : dn pg 157 7 [v0, v1, v2, v3] [] hp = dn pg 157 15 [v0, v1, v2, v3] [.int (-6)] hp := by
  refine (dc_ic (x := (-6)) (i := 7) rfl).trans ?_
  refine (dc_goto (t := 15) (i := 8) rfl).trans ?_
  exact rfl
theorem B157_15 {v0 : pO} {x1 : Int32} {v2 : pO} {v3 : pO} {s0 : Int32} {hp : pH} (h2 : pm_nl v2 = true) : dn pg 157 15 [v0, some (.int x1), v2, v3] [.int s0] hp = if x1 < nI 0 then dn pg 157 23 [v0, some (.int x1), v2, some (.int s0)] [] hp else if s0 < nI 0 then dn pg 157 25 [v0, some (.int x1), v2, some (.int s0)] [] hp else if x1 ≤ s0 then dn pg 157 25 [v0, some (.int x1), v2, some (.int s0)] [] hp else dn pg 157 23 [v0, some (.int x1), v2, some (.int s0)] [] hp := by
  refine (dn_istore (a := 3) (i := 15) rfl (pm_ok_nl (Nat.le_of_ble_eq_true rfl) rfl h2) _).trans ?_
  refine (dc_iload (a := 1) (i := 16) rfl rfl).trans ?_
  refine (dn_if (c := (fun x => decide (x < 0))) (t := 23) (i := 17) rfl _).trans (q_ite ?_ ?_)
  · exact rfl
  · refine (dc_iload (a := 3) (i := 18) rfl rfl).trans ?_
    refine (dn_if (c := (fun x => decide (x < 0))) (t := 25) (i := 19) rfl _).trans (q_ite ?_ ?_)
    · exact rfl
    · refine (dc_iload (a := 3) (i := 20) rfl rfl).trans ?_
      refine (dc_iload (a := 1) (i := 21) rfl rfl).trans ?_
      refine (dn_icmp (c := (fun x y => decide (y ≤ x))) (t := 25) (i := 22) rfl _ _).trans (q_ite ?_ ?_)
      · exact rfl
      · exact rfl
theorem B157_23 {v0 : pO} {v1 : pO} {v2 : pO} {x3 : Int32} {hp : pH} : dn pg 157 23 [v0, v1, v2, some (.int x3)] [] hp = dn pg 157 26 [v0, v1, v2, some (.int x3)] [.int x3] hp := by
  refine (dc_iload (a := 3) (i := 23) rfl rfl).trans ?_
  refine (dc_goto (t := 26) (i := 24) rfl).trans ?_
  exact rfl
theorem B157_25 {v0 : pO} {x1 : Int32} {v2 : pO} {v3 : pO} {hp : pH} : dn pg 157 25 [v0, some (.int x1), v2, v3] [] hp = dn pg 157 26 [v0, some (.int x1), v2, v3] [.int x1] hp := by
  refine (dc_iload (a := 1) (i := 25) rfl rfl).trans ?_
  exact rfl
theorem B157_26 {v0 : pO} {v1 : pO} {v2 : pO} {v3 : pO} {s0 : Int32} {hp : pH} : dn pg 157 26 [v0, v1, v2, v3] [.int s0] hp = q_i s0 hp := by
  exact dc_ireturn (i := 26) rfl _
theorem B158_0 {x0 : Int32} {x1 : Int32} {v2 : pO} {v3 : pO} {v4 : pO} {hp : pH} : dn pg 158 0 [some (.int x0), some (.int x1), v2, v3, v4] [] hp = dn pg 158 4 [some (.int x0), some (.int x1), some (.int x0), some (.int x1), v4] [] hp := by
  refine (dc_iload (a := 0) (i := 0) rfl rfl).trans ?_
  refine (dn_istore (a := 2) (i := 1) rfl rfl _).trans ?_
  refine (dc_iload (a := 1) (i := 2) rfl rfl).trans ?_
  refine (dn_istore (a := 3) (i := 3) rfl rfl _).trans ?_
  exact rfl
theorem B158_4 {v0 : pO} {v1 : pO} {x2 : Int32} {x3 : Int32} {v4 : pO} {hp : pH} (h1 : pm_nl v1 = true) : dn pg 158 4 [v0, v1, some (.int x2), some (.int x3), v4] [] hp = if x3 = nI 0 then q_i x2 hp else if x3 = nI 0 then none else dn pg 158 4 [v0, v1, some (.int x3), some (.int (x2 % x3)), some (.int (x2 % x3))] [] hp := by
  refine (dc_iload (a := 3) (i := 4) rfl rfl).trans ?_
  refine (dn_if (c := (fun x => decide (x = 0))) (t := 15) (i := 5) rfl _).trans (q_ite ?_ ?_)
  · refine (dc_iload (a := 2) (i := 15) rfl rfl).trans ?_
    exact dc_ireturn (i := 16) rfl _
  · refine (dc_iload (a := 2) (i := 6) rfl rfl).trans ?_
    refine (dc_iload (a := 3) (i := 7) rfl rfl).trans ?_
    refine (dn_div (f := (fun x y => x % y)) (i := 8) rfl _ _).trans (q_ife rfl ?_)
    refine (dn_istore (a := 4) (i := 9) rfl rfl _).trans ?_
    refine (dc_iload (a := 3) (i := 10) rfl rfl).trans ?_
    refine (dn_istore (a := 2) (i := 11) rfl (pm_ok_nl (Nat.le_of_ble_eq_true rfl) rfl h1) _).trans ?_
    refine (dc_iload (a := 4) (i := 12) rfl rfl).trans ?_
    refine (dn_istore (a := 3) (i := 13) rfl rfl _).trans ?_
    refine (dc_goto (t := 4) (i := 14) rfl).trans ?_
    exact rfl
theorem B159_0 {v0 : pO} {v1 : pO} {v2 : pO} {hp : pH} (h0 : pm_nl v0 = true) : dn pg 159 0 [v0, v1, v2] [] hp = dn pg 159 4 [v0, some (.int (-6)), some (.int (nI 0))] [] hp := by
  refine (dc_ic (x := (-6)) (i := 0) rfl).trans ?_
  refine (dn_istore (a := 1) (i := 1) rfl (pm_ok_nl (Nat.le_of_ble_eq_true rfl) rfl h0) _).trans ?_
  refine (dc_ic (x := 0) (i := 2) rfl).trans ?_
  refine (dn_istore (a := 2) (i := 3) rfl rfl _).trans ?_
  exact rfl
theorem B159_4 {o0 : Nat} {x1 : Int32} {x2 : Int32} {hp : pH} : dn pg 159 4 [some (.ref o0), some (.int x1), some (.int x2)] [] hp = if (nI 500) < x2 then q_i x1 hp else qg_a hp o0 9 26 (fun r1 => qa_i hp r1 0 x2 (fun y2 => if nI 0 ≤ y2 then dn pg 159 15 [some (.ref o0), some (.int x1), some (.int x2)] [.int x1] hp else dn pg 159 15 [some (.ref o0), some (.int x1), some (.int x2)] [.int x2] hp)) := by
  refine (dc_iload (a := 2) (i := 4) rfl rfl).trans ?_
  refine (dc_ic (x := 500) (i := 5) rfl).trans ?_
  refine (dn_icmp (c := (fun x y => decide (y < x))) (t := 18) (i := 6) rfl _ _).trans (q_ite ?_ ?_)
  · refine (dc_iload (a := 1) (i := 18) rfl rfl).trans ?_
    exact dc_ireturn (i := 19) rfl _
  · refine (dc_aload (a := 0) (i := 7) rfl rfl).trans ?_
    refine (dn_getA (ci := 9) (j := 26) (i := 8) rfl _).trans (congrArg (qg_a _ _ _ _) (funext fun r1 => ?_))
    refine (dc_iload (a := 2) (i := 9) rfl rfl).trans ?_
    refine (dn_iald (t := 0) (i := 10) rfl _ _).trans (congrArg (qa_i _ _ _ _) (funext fun y2 => ?_))
    refine (dn_if (c := (fun x => decide (0 ≤ x))) (t := 14) (i := 11) rfl _).trans (q_ite ?_ ?_)
    · refine (dc_iload (a := 1) (i := 14) rfl rfl).trans ?_
      exact rfl
    · refine (dc_iload (a := 2) (i := 12) rfl rfl).trans ?_
      refine (dc_goto (t := 15) (i := 13) rfl).trans ?_
      exact rfl
theorem B159_15 {v0 : pO} {v1 : pO} {x2 : Int32} {s0 : Int32} {hp : pH} (h0 : pm_nl v0 = true) : dn pg 159 15 [v0, v1, some (.int x2)] [.int s0] hp = dn pg 159 4 [v0, some (.int s0), some (.int (x2 + nI 1))] [] hp := by
  refine (dn_istore (a := 1) (i := 15) rfl (pm_ok_nl (Nat.le_of_ble_eq_true rfl) rfl h0) _).trans ?_
  refine (dn_iinc (a := 2) (d := 1) (i := 16) rfl rfl rfl).trans ?_
  refine (dc_goto (t := 4) (i := 17) rfl).trans ?_
  exact rfl
theorem B160_0 {o0 : Nat} {x1 : Int32} {x2 : Int32} {hp : pH} : dn pg 160 0 [some (.ref o0), some (.int x1), some (.int x2)] [] hp = qr_i (cl pg 109 [.long x1.toInt64, .long (lN 0), .long (lN 60)] hp) (fun y1 hp1 => if ¬ y1 = nI 0 then qg_i hp1 o0 9 11 (fun y2 => if ¬ y2 = (nI 8) then qg_a hp1 o0 9 9 (fun r3 => qg_i hp1 o0 9 11 (fun y4 => qx_i hp1 r3 0 y4 x1 (fun hp2 => qg_a hp2 o0 9 10 (fun r5 => qg_i hp2 o0 9 11 (fun y6 => if x2 = nI 0 then dn pg 160 29 [some (.ref o0), some (.int x1), some (.int x2)] [.int (nI 0), .int y6, .ref r5] hp2 else dn pg 160 29 [some (.ref o0), some (.int x1), some (.int x2)] [.int (nI 1), .int y6, .ref r5] hp2))))) else q_i (-4) hp1) else q_i (-2) hp1) := by
  refine (dc_iload (a := 1) (i := 0) rfl rfl).trans ?_
  refine (dc_i2l (i := 1) rfl _).trans ?_
  refine (dc_lc (x := 0) (i := 2) rfl).trans ?_
  refine (dc_lc (x := 60) (i := 3) rfl).trans ?_
  refine (dn_cS_i (i := 4) (y := 109) (na := 3) rfl (pa_3 _ _ _ _) (Nat.le_of_ble_eq_true rfl) (Nat.le_of_ble_eq_true rfl)).trans (congrArg (qr_i _) (funext fun y1 => funext fun hp1 => ?_))
  refine (dn_if (c := (fun x => decide (¬ x = 0))) (t := 8) (i := 5) rfl _).trans (q_ite ?_ ?_)
  · refine (dc_aload (a := 0) (i := 8) rfl rfl).trans ?_
    refine (dn_getI (ci := 9) (j := 11) (i := 9) rfl _).trans (congrArg (qg_i _ _ _ _) (funext fun y2 => ?_))
    refine (dc_ic (x := 8) (i := 10) rfl).trans ?_
    refine (dn_icmp (c := (fun x y => decide (¬ x = y))) (t := 14) (i := 11) rfl _ _).trans (q_ite ?_ ?_)
    · refine (dc_aload (a := 0) (i := 14) rfl rfl).trans ?_
      refine (dn_getA (ci := 9) (j := 9) (i := 15) rfl _).trans (congrArg (qg_a _ _ _ _) (funext fun r3 => ?_))
      refine (dc_aload (a := 0) (i := 16) rfl rfl).trans ?_
      refine (dn_getI (ci := 9) (j := 11) (i := 17) rfl _).trans (congrArg (qg_i _ _ _ _) (funext fun y4 => ?_))
      refine (dc_iload (a := 1) (i := 18) rfl rfl).trans ?_
      refine (dn_iast (i := 19) rfl _ _ _).trans (congrArg (qx_i _ _ _ _ _) (funext fun hp2 => ?_))
      refine (dc_aload (a := 0) (i := 20) rfl rfl).trans ?_
      refine (dn_getA (ci := 9) (j := 10) (i := 21) rfl _).trans (congrArg (qg_a _ _ _ _) (funext fun r5 => ?_))
      refine (dc_aload (a := 0) (i := 22) rfl rfl).trans ?_
      refine (dn_getI (ci := 9) (j := 11) (i := 23) rfl _).trans (congrArg (qg_i _ _ _ _) (funext fun y6 => ?_))
      refine (dc_iload (a := 2) (i := 24) rfl rfl).trans ?_
      refine (dn_if (c := (fun x => decide (x = 0))) (t := 28) (i := 25) rfl _).trans (q_ite ?_ ?_)
      · refine (dc_ic (x := 0) (i := 28) rfl).trans ?_
        exact rfl
      · refine (dc_ic (x := 1) (i := 26) rfl).trans ?_
        refine (dc_goto (t := 29) (i := 27) rfl).trans ?_
        exact rfl
    · refine (dc_ic (x := (-4)) (i := 12) rfl).trans ?_
      exact dc_ireturn (i := 13) rfl _
  · refine (dc_ic (x := (-2)) (i := 6) rfl).trans ?_
    exact dc_ireturn (i := 7) rfl _
theorem B160_29 {o0 : Nat} {v1 : pO} {v2 : pO} {s0 : Int32} {s1 : Int32} {s2 : Nat} {hp : pH} : dn pg 160 29 [some (.ref o0), v1, v2] [.int s0, .int s1, .ref s2] hp = qx_i hp s2 0 s1 s0 (fun hp1 => qg_i hp1 o0 9 11 (fun y1 => qp_v hp1 o0 9 11 (.int (y1 + (nI 1))) (fun hp2 => qg_i hp2 o0 9 11 (fun y2 => q_i y2 hp2)))) := by
  refine (dn_iast (i := 29) rfl _ _ _).trans (congrArg (qx_i _ _ _ _ _) (funext fun hp1 => ?_))
  refine (dc_aload (a := 0) (i := 30) rfl rfl).trans ?_
  refine (dc_dupA (i := 31) rfl _).trans ?_
  refine (dn_getI (ci := 9) (j := 11) (i := 32) rfl _).trans (congrArg (qg_i _ _ _ _) (funext fun y1 => ?_))
  refine (dc_ic (x := 1) (i := 33) rfl).trans ?_
  refine (dc_bin (f := (fun x y => x + y)) (i := 34) rfl _ _).trans ?_
  refine (dn_putI (ci := 9) (j := 11) (i := 35) rfl _ _).trans (congrArg (qp_v _ _ _ _ _) (funext fun hp2 => ?_))
  refine (dc_aload (a := 0) (i := 36) rfl rfl).trans ?_
  refine (dn_getI (ci := 9) (j := 11) (i := 37) rfl _).trans (congrArg (qg_i _ _ _ _) (funext fun y2 => ?_))
  exact dc_ireturn (i := 38) rfl _
theorem B161_0 {o0 : Nat} {v1 : pO} {hp : pH} : dn pg 161 0 [some (.ref o0), v1] [] hp = qg_i hp o0 9 11 (fun y1 => qp_v hp o0 9 11 (.int (nI 0)) (fun hp1 => q_i y1 hp1)) := by
  refine (dc_aload (a := 0) (i := 0) rfl rfl).trans ?_
  refine (dn_getI (ci := 9) (j := 11) (i := 1) rfl _).trans (congrArg (qg_i _ _ _ _) (funext fun y1 => ?_))
  refine (dn_istore (a := 1) (i := 2) rfl rfl _).trans ?_
  refine (dc_aload (a := 0) (i := 3) rfl rfl).trans ?_
  refine (dc_ic (x := 0) (i := 4) rfl).trans ?_
  refine (dn_putI (ci := 9) (j := 11) (i := 5) rfl _ _).trans (congrArg (qp_v _ _ _ _ _) (funext fun hp1 => ?_))
  refine (dc_iload (a := 1) (i := 6) rfl rfl).trans ?_
  exact dc_ireturn (i := 7) rfl _
theorem B162_0 {v0 : pO} {v1 : pO} {v2 : pO} {v3 : pO} {hp : pH} (h1 : pm_nl v1 = true) : dn pg 162 0 [v0, v1, v2, v3] [] hp = dn pg 162 4 [v0, v1, some (.int (nI 0)), some (.int (nI 200))] [] hp := by
  refine (dc_ic (x := 0) (i := 0) rfl).trans ?_
  refine (dn_istore (a := 2) (i := 1) rfl (pm_ok_nl (Nat.le_of_ble_eq_true rfl) rfl h1) _).trans ?_
  refine (dc_ic (x := 200) (i := 2) rfl).trans ?_
  refine (dn_istore (a := 3) (i := 3) rfl rfl _).trans ?_
  exact rfl
theorem B162_4 {o0 : Nat} {x1 : Int32} {x2 : Int32} {x3 : Int32} {hp : pH} : dn pg 162 4 [some (.ref o0), some (.int x1), some (.int x2), some (.int x3)] [] hp = if (nI 800) ≤ x3 then if ¬ x1 = (-1) then dn pg 162 25 [some (.ref o0), some (.int x1), some (.int x2), some (.int x3)] [.int (-6)] hp else dn pg 162 25 [some (.ref o0), some (.int x1), some (.int x2), some (.int x3)] [.int x2] hp else qv hp o0 9 (qr_i (cl pg 163 [.ref o0, .int x3] hp) (fun y1 hp1 => if y1 = nI 0 then dn pg 162 17 [some (.ref o0), some (.int x1), some (.int x2), some (.int x3)] [] hp1 else if ¬ x2 = x1 then dn pg 162 17 [some (.ref o0), some (.int x1), some (.int (x2 + nI 1)), some (.int x3)] [] hp1 else q_i x3 hp1)) := by
  refine (dc_iload (a := 3) (i := 4) rfl rfl).trans ?_
  refine (dc_ic (x := 800) (i := 5) rfl).trans ?_
  refine (dn_icmp (c := (fun x y => decide (y ≤ x))) (t := 19) (i := 6) rfl _ _).trans (q_ite ?_ ?_)
  · refine (dc_iload (a := 1) (i := 19) rfl rfl).trans ?_
    refine (dc_ic (x := (-1)) (i := 20) rfl).trans ?_
    refine (dn_icmp (c := (fun x y => decide (¬ x = y))) (t := 24) (i := 21) rfl _ _).trans (q_ite ?_ ?_)
    · refine (dc_ic (x := (-6)) (i := 24) rfl).trans ?_
      exact rfl
    · refine (dc_iload (a := 2) (i := 22) rfl rfl).trans ?_
      refine (dc_goto (t := 25) (i := 23) rfl).trans ?_
      exact rfl
  · refine (dc_aload (a := 0) (i := 7) rfl rfl).trans ?_
    refine (dc_iload (a := 3) (i := 8) rfl rfl).trans ?_
    refine (dn_cV_i (i := 9) (y := 163) (na := 2) (ci := 9) rfl (pa_2 _ _ _) (Nat.le_of_ble_eq_true rfl) (Nat.le_of_ble_eq_true rfl)).trans (congrArg (fun F => qv _ _ _ (qr_i _ F)) (funext fun y1 => funext fun hp1 => ?_))
    refine (dn_if (c := (fun x => decide (x = 0))) (t := 17) (i := 10) rfl _).trans (q_ite ?_ ?_)
    · exact rfl
    · refine (dc_iload (a := 2) (i := 11) rfl rfl).trans ?_
      refine (dc_iload (a := 1) (i := 12) rfl rfl).trans ?_
      refine (dn_icmp (c := (fun x y => decide (¬ x = y))) (t := 16) (i := 13) rfl _ _).trans (q_ite ?_ ?_)
      · refine (dn_iinc (a := 2) (d := 1) (i := 16) rfl rfl rfl).trans ?_
        exact rfl
      · refine (dc_iload (a := 3) (i := 14) rfl rfl).trans ?_
        exact dc_ireturn (i := 15) rfl _
theorem B162_17 {v0 : pO} {v1 : pO} {v2 : pO} {x3 : Int32} {hp : pH} (h2 : pm_nl v2 = true) : dn pg 162 17 [v0, v1, v2, some (.int x3)] [] hp = dn pg 162 4 [v0, v1, v2, some (.int (x3 + nI 1))] [] hp := by
  refine (dn_iinc (a := 3) (d := 1) (i := 17) rfl (pm_ok_nl (Nat.le_of_ble_eq_true rfl) rfl h2) rfl).trans ?_
  refine (dc_goto (t := 4) (i := 18) rfl).trans ?_
  exact rfl
theorem B162_25 {v0 : pO} {v1 : pO} {v2 : pO} {v3 : pO} {s0 : Int32} {hp : pH} : dn pg 162 25 [v0, v1, v2, v3] [.int s0] hp = q_i s0 hp := by
  exact dc_ireturn (i := 25) rfl _
theorem B163_0 {v0 : pO} {x1 : Int32} {v2 : pO} {v3 : pO} {v4 : pO} {hp : pH} : dn pg 163 0 [v0, some (.int x1), v2, v3, v4] [] hp = qr_i (cl pg 109 [.long (((x1 / (nI 10)) % (nI 10)).toInt64), .long (lN 1), .long (((x1 / (nI 100)) - (nI 1)).toInt64)] hp) (fun y1 hp1 => if y1 = nI 0 then dn pg 163 30 [v0, some (.int x1), some (.int (x1 / (nI 100))), v3, v4] [] hp1 else qr_i (cl pg 109 [.long ((x1 % (nI 10)).toInt64), .long (lN 0), .long (((x1 / (nI 100)) - (nI 1)).toInt64)] hp1) (fun y2 hp2 => if y2 = nI 0 then dn pg 163 30 [v0, some (.int x1), some (.int (x1 / (nI 100))), v3, v4] [] hp2 else dn pg 163 31 [v0, some (.int x1), some (.int (x1 / (nI 100))), v3, v4] [.int (nI 1)] hp2)) := by
  refine (dc_iload (a := 1) (i := 0) rfl rfl).trans ?_
  refine (dc_ic (x := 100) (i := 1) rfl).trans ?_
  refine ((dn_div (f := (fun x y => x / y)) (i := 2) rfl _ _).trans (if_neg (by decide))).trans ?_
  refine (dn_istore (a := 2) (i := 3) rfl rfl _).trans ?_
  refine (dc_iload (a := 1) (i := 4) rfl rfl).trans ?_
  refine (dc_ic (x := 10) (i := 5) rfl).trans ?_
  refine ((dn_div (f := (fun x y => x / y)) (i := 6) rfl _ _).trans (if_neg (by decide))).trans ?_
  refine (dc_ic (x := 10) (i := 7) rfl).trans ?_
  refine ((dn_div (f := (fun x y => x % y)) (i := 8) rfl _ _).trans (if_neg (by decide))).trans ?_
  refine (dc_i2l (i := 9) rfl _).trans ?_
  refine (dc_lc (x := 1) (i := 10) rfl).trans ?_
  refine (dc_iload (a := 2) (i := 11) rfl rfl).trans ?_
  refine (dc_ic (x := 1) (i := 12) rfl).trans ?_
  refine (dc_bin (f := (fun x y => x - y)) (i := 13) rfl _ _).trans ?_
  refine (dc_i2l (i := 14) rfl _).trans ?_
  refine (dn_cS_i (i := 15) (y := 109) (na := 3) rfl (pa_3 _ _ _ _) (Nat.le_of_ble_eq_true rfl) (Nat.le_of_ble_eq_true rfl)).trans (congrArg (qr_i _) (funext fun y1 => funext fun hp1 => ?_))
  refine (dn_if (c := (fun x => decide (x = 0))) (t := 30) (i := 16) rfl _).trans (q_ite ?_ ?_)
  · exact rfl
  · refine (dc_iload (a := 1) (i := 17) rfl rfl).trans ?_
    refine (dc_ic (x := 10) (i := 18) rfl).trans ?_
    refine ((dn_div (f := (fun x y => x % y)) (i := 19) rfl _ _).trans (if_neg (by decide))).trans ?_
    refine (dc_i2l (i := 20) rfl _).trans ?_
    refine (dc_lc (x := 0) (i := 21) rfl).trans ?_
    refine (dc_iload (a := 2) (i := 22) rfl rfl).trans ?_
    refine (dc_ic (x := 1) (i := 23) rfl).trans ?_
    refine (dc_bin (f := (fun x y => x - y)) (i := 24) rfl _ _).trans ?_
    refine (dc_i2l (i := 25) rfl _).trans ?_
    refine (dn_cS_i (i := 26) (y := 109) (na := 3) rfl (pa_3 _ _ _ _) (Nat.le_of_ble_eq_true rfl) (Nat.le_of_ble_eq_true rfl)).trans (congrArg (qr_i _) (funext fun y2 => funext fun hp2 => ?_))
    refine (dn_if (c := (fun x => decide (x = 0))) (t := 30) (i := 27) rfl _).trans (q_ite ?_ ?_)
    · exact rfl
    · refine (dc_ic (x := 1) (i := 28) rfl).trans ?_
      refine (dc_goto (t := 31) (i := 29) rfl).trans ?_
      exact rfl
theorem B163_30 {v0 : pO} {v1 : pO} {v2 : pO} {v3 : pO} {v4 : pO} {hp : pH} : dn pg 163 30 [v0, v1, v2, v3, v4] [] hp = dn pg 163 31 [v0, v1, v2, v3, v4] [.int (nI 0)] hp := by
  refine (dc_ic (x := 0) (i := 30) rfl).trans ?_
  exact rfl
theorem B163_31 {v0 : pO} {v1 : pO} {v2 : pO} {v3 : pO} {v4 : pO} {s0 : Int32} {hp : pH} (h2 : pm_nl v2 = true) : dn pg 163 31 [v0, v1, v2, v3, v4] [.int s0] hp = dn pg 163 34 [v0, v1, v2, some (.int s0), some (.int (nI 0))] [] hp := by
  refine (dn_istore (a := 3) (i := 31) rfl (pm_ok_nl (Nat.le_of_ble_eq_true rfl) rfl h2) _).trans ?_
  refine (dc_ic (x := 0) (i := 32) rfl).trans ?_
  refine (dn_istore (a := 4) (i := 33) rfl rfl _).trans ?_
  exact rfl
theorem B163_34 {o0 : Nat} {x1 : Int32} {v2 : pO} {x3 : Int32} {x4 : Int32} {hp : pH} : dn pg 163 34 [some (.ref o0), some (.int x1), v2, some (.int x3), some (.int x4)] [] hp = qg_i hp o0 9 11 (fun y1 => if y1 ≤ x4 then qz x3 (q_i x3 hp) else if x3 = nI 0 then dn pg 163 53 [some (.ref o0), some (.int x1), v2, some (.int x3), some (.int x4)] [] hp else qg_a hp o0 9 9 (fun r2 => qa_i hp r2 0 x4 (fun y3 => qr_i (cl pg 164 [.int x1, .int y3] hp) (fun y4 hp1 => qg_a hp1 o0 9 10 (fun r5 => qa_i hp1 r5 0 x4 (fun y6 => if ¬ y4 = y6 then dn pg 163 53 [some (.ref o0), some (.int x1), v2, some (.int x3), some (.int x4)] [] hp1 else dn pg 163 54 [some (.ref o0), some (.int x1), v2, some (.int x3), some (.int x4)] [.int (nI 1)] hp1)))))) := by
  refine (dc_iload (a := 4) (i := 34) rfl rfl).trans ?_
  refine (dc_aload (a := 0) (i := 35) rfl rfl).trans ?_
  refine (dn_getI (ci := 9) (j := 11) (i := 36) rfl _).trans (congrArg (qg_i _ _ _ _) (funext fun y1 => ?_))
  refine (dn_icmp (c := (fun x y => decide (y ≤ x))) (t := 57) (i := 37) rfl _ _).trans (q_ite ?_ ?_)
  · refine (dc_iload (a := 3) (i := 57) rfl rfl).trans ?_
    exact dn_zret (i := 58) rfl _
  · refine (dc_iload (a := 3) (i := 38) rfl rfl).trans ?_
    refine (dn_if (c := (fun x => decide (x = 0))) (t := 53) (i := 39) rfl _).trans (q_ite ?_ ?_)
    · exact rfl
    · refine (dc_iload (a := 1) (i := 40) rfl rfl).trans ?_
      refine (dc_aload (a := 0) (i := 41) rfl rfl).trans ?_
      refine (dn_getA (ci := 9) (j := 9) (i := 42) rfl _).trans (congrArg (qg_a _ _ _ _) (funext fun r2 => ?_))
      refine (dc_iload (a := 4) (i := 43) rfl rfl).trans ?_
      refine (dn_iald (t := 0) (i := 44) rfl _ _).trans (congrArg (qa_i _ _ _ _) (funext fun y3 => ?_))
      refine (dn_cS_i (i := 45) (y := 164) (na := 2) rfl (pa_2 _ _ _) (Nat.le_of_ble_eq_true rfl) (Nat.le_of_ble_eq_true rfl)).trans (congrArg (qr_i _) (funext fun y4 => funext fun hp1 => ?_))
      refine (dc_aload (a := 0) (i := 46) rfl rfl).trans ?_
      refine (dn_getA (ci := 9) (j := 10) (i := 47) rfl _).trans (congrArg (qg_a _ _ _ _) (funext fun r5 => ?_))
      refine (dc_iload (a := 4) (i := 48) rfl rfl).trans ?_
      refine (dn_iald (t := 0) (i := 49) rfl _ _).trans (congrArg (qa_i _ _ _ _) (funext fun y6 => ?_))
      refine (dn_icmp (c := (fun x y => decide (¬ x = y))) (t := 53) (i := 50) rfl _ _).trans (q_ite ?_ ?_)
      · exact rfl
      · refine (dc_ic (x := 1) (i := 51) rfl).trans ?_
        refine (dc_goto (t := 54) (i := 52) rfl).trans ?_
        exact rfl
theorem B163_53 {v0 : pO} {v1 : pO} {v2 : pO} {v3 : pO} {v4 : pO} {hp : pH} : dn pg 163 53 [v0, v1, v2, v3, v4] [] hp = dn pg 163 54 [v0, v1, v2, v3, v4] [.int (nI 0)] hp := by
  refine (dc_ic (x := 0) (i := 53) rfl).trans ?_
  exact rfl
theorem B163_54 {v0 : pO} {v1 : pO} {v2 : pO} {v3 : pO} {x4 : Int32} {s0 : Int32} {hp : pH} (h2 : pm_nl v2 = true) : dn pg 163 54 [v0, v1, v2, v3, some (.int x4)] [.int s0] hp = dn pg 163 34 [v0, v1, v2, some (.int s0), some (.int (x4 + nI 1))] [] hp := by
  refine (dn_istore (a := 3) (i := 54) rfl (pm_ok_nl (Nat.le_of_ble_eq_true rfl) rfl h2) _).trans ?_
  refine (dn_iinc (a := 4) (d := 1) (i := 55) rfl rfl rfl).trans ?_
  refine (dc_goto (t := 34) (i := 56) rfl).trans ?_
  exact rfl
theorem B164_0 {x0 : Int32} {x1 : Int32} {hp : pH} : dn pg 164 0 [some (.int x0), some (.int x1)] [] hp = if x0 / (nI 100) = nI 0 then none else if ((x0 / (nI 10)) % (nI 10)) ≤ ((x1 + (x0 % (nI 10))) % (x0 / (nI 100))) then dn pg 164 18 [some (.int x0), some (.int x1)] [.int (nI 0)] hp else dn pg 164 18 [some (.int x0), some (.int x1)] [.int (nI 1)] hp := by
  refine (dc_iload (a := 1) (i := 0) rfl rfl).trans ?_
  refine (dc_iload (a := 0) (i := 1) rfl rfl).trans ?_
  refine (dc_ic (x := 10) (i := 2) rfl).trans ?_
  refine ((dn_div (f := (fun x y => x % y)) (i := 3) rfl _ _).trans (if_neg (by decide))).trans ?_
  refine (dc_bin (f := (fun x y => x + y)) (i := 4) rfl _ _).trans ?_
  refine (dc_iload (a := 0) (i := 5) rfl rfl).trans ?_
  refine (dc_ic (x := 100) (i := 6) rfl).trans ?_
  refine ((dn_div (f := (fun x y => x / y)) (i := 7) rfl _ _).trans (if_neg (by decide))).trans ?_
  refine (dn_div (f := (fun x y => x % y)) (i := 8) rfl _ _).trans (q_ife rfl ?_)
  refine (dc_iload (a := 0) (i := 9) rfl rfl).trans ?_
  refine (dc_ic (x := 10) (i := 10) rfl).trans ?_
  refine ((dn_div (f := (fun x y => x / y)) (i := 11) rfl _ _).trans (if_neg (by decide))).trans ?_
  refine (dc_ic (x := 10) (i := 12) rfl).trans ?_
  refine ((dn_div (f := (fun x y => x % y)) (i := 13) rfl _ _).trans (if_neg (by decide))).trans ?_
  refine (dn_icmp (c := (fun x y => decide (y ≤ x))) (t := 17) (i := 14) rfl _ _).trans (q_ite ?_ ?_)
  · refine (dc_ic (x := 0) (i := 17) rfl).trans ?_
    exact rfl
  · refine (dc_ic (x := 1) (i := 15) rfl).trans ?_
    refine (dc_goto (t := 18) (i := 16) rfl).trans ?_
    exact rfl
theorem B164_18 {v0 : pO} {v1 : pO} {s0 : Int32} {hp : pH} : dn pg 164 18 [v0, v1] [.int s0] hp = q_i s0 hp := by
  exact dc_ireturn (i := 18) rfl _
theorem B165_0 {o0 : Nat} {x1 : Int32} {v2 : pO} {v3 : pO} {v4 : pO} {v5 : pO} {v6 : pO} {v7 : pO} {hp : pH} : dn pg 165 0 [some (.ref o0), some (.int x1), v2, v3, v4, v5, v6, v7] [] hp = qr_i (cl pg 109 [.long x1.toInt64, .long (lN 0), .long (lN 1)] hp) (fun y1 hp1 => if ¬ y1 = nI 0 then qv hp1 o0 9 (qr_i (cl pg 162 [.ref o0, .int (-1)] hp1) (fun y2 hp2 => dn pg 165 20 [some (.ref o0), some (.int x1), some (.int y2), some (.int (-6)), some (.int (y2 + (nI 1))), some (.int (nI 0)), v6, v7] [] hp2)) else q_i (-2) hp1) := by
  refine (dc_iload (a := 1) (i := 0) rfl rfl).trans ?_
  refine (dc_i2l (i := 1) rfl _).trans ?_
  refine (dc_lc (x := 0) (i := 2) rfl).trans ?_
  refine (dc_lc (x := 1) (i := 3) rfl).trans ?_
  refine (dn_cS_i (i := 4) (y := 109) (na := 3) rfl (pa_3 _ _ _ _) (Nat.le_of_ble_eq_true rfl) (Nat.le_of_ble_eq_true rfl)).trans (congrArg (qr_i _) (funext fun y1 => funext fun hp1 => ?_))
  refine (dn_if (c := (fun x => decide (¬ x = 0))) (t := 8) (i := 5) rfl _).trans (q_ite ?_ ?_)
  · refine (dc_aload (a := 0) (i := 8) rfl rfl).trans ?_
    refine (dc_ic (x := (-1)) (i := 9) rfl).trans ?_
    refine (dn_cV_i (i := 10) (y := 162) (na := 2) (ci := 9) rfl (pa_2 _ _ _) (Nat.le_of_ble_eq_true rfl) (Nat.le_of_ble_eq_true rfl)).trans (congrArg (fun F => qv _ _ _ (qr_i _ F)) (funext fun y2 => funext fun hp2 => ?_))
    refine (dn_istore (a := 2) (i := 11) rfl rfl _).trans ?_
    refine (dc_ic (x := (-6)) (i := 12) rfl).trans ?_
    refine (dn_istore (a := 3) (i := 13) rfl rfl _).trans ?_
    refine (dc_iload (a := 2) (i := 14) rfl rfl).trans ?_
    refine (dc_ic (x := 1) (i := 15) rfl).trans ?_
    refine (dc_bin (f := (fun x y => x + y)) (i := 16) rfl _ _).trans ?_
    refine (dn_istore (a := 4) (i := 17) rfl rfl _).trans ?_
    refine (dc_ic (x := 0) (i := 18) rfl).trans ?_
    refine (dn_istore (a := 5) (i := 19) rfl rfl _).trans ?_
    exact rfl
  · refine (dc_ic (x := (-2)) (i := 6) rfl).trans ?_
    exact dc_ireturn (i := 7) rfl _
theorem B165_20 {v0 : pO} {v1 : pO} {x2 : Int32} {v3 : pO} {v4 : pO} {x5 : Int32} {v6 : pO} {v7 : pO} {hp : pH} : dn pg 165 20 [v0, v1, some (.int x2), v3, v4, some (.int x5), v6, v7] [] hp = if (nI 60) < x5 then dn pg 165 73 [v0, v1, some (.int x2), v3, v4, some (.int x5), v6, v7] [] hp else if x2 ≤ nI 0 then dn pg 165 73 [v0, v1, some (.int x2), v3, v4, some (.int x5), v6, v7] [] hp else dn pg 165 29 [v0, v1, some (.int x2), v3, v4, some (.int x5), some (.int (nI 0)), some (.int (nI 200))] [] hp := by
  refine (dc_iload (a := 5) (i := 20) rfl rfl).trans ?_
  refine (dc_ic (x := 60) (i := 21) rfl).trans ?_
  refine (dn_icmp (c := (fun x y => decide (y < x))) (t := 73) (i := 22) rfl _ _).trans (q_ite ?_ ?_)
  · exact rfl
  · refine (dc_iload (a := 2) (i := 23) rfl rfl).trans ?_
    refine (dn_if (c := (fun x => decide (x ≤ 0))) (t := 73) (i := 24) rfl _).trans (q_ite ?_ ?_)
    · exact rfl
    · refine (dc_ic (x := 0) (i := 25) rfl).trans ?_
      refine (dn_istore (a := 6) (i := 26) rfl rfl _).trans ?_
      refine (dc_ic (x := 200) (i := 27) rfl).trans ?_
      refine (dn_istore (a := 7) (i := 28) rfl rfl _).trans ?_
      exact rfl
theorem B165_29 {o0 : Nat} {v1 : pO} {x2 : Int32} {v3 : pO} {v4 : pO} {x5 : Int32} {x6 : Int32} {x7 : Int32} {hp : pH} : dn pg 165 29 [some (.ref o0), v1, some (.int x2), v3, v4, some (.int x5), some (.int x6), some (.int x7)] [] hp = if (nI 800) ≤ x7 then if x6 ≤ (x2 - x6) then dn pg 165 56 [some (.ref o0), v1, some (.int x2), v3, v4, some (.int x5), some (.int x6), some (.int x7)] [.int (x2 - x6)] hp else dn pg 165 56 [some (.ref o0), v1, some (.int x2), v3, v4, some (.int x5), some (.int x6), some (.int x7)] [.int x6] hp else qv hp o0 9 (qr_i (cl pg 163 [.ref o0, .int x7] hp) (fun y1 hp1 => if y1 = nI 0 then dn pg 165 42 [some (.ref o0), v1, some (.int x2), v3, v4, some (.int x5), some (.int x6), some (.int x7)] [.int (nI 0), .int x6] hp1 else qr_i (cl pg 164 [.int x7, .int x5] hp1) (fun y2 hp2 => dn pg 165 42 [some (.ref o0), v1, some (.int x2), v3, v4, some (.int x5), some (.int x6), some (.int x7)] [.int y2, .int x6] hp2))) := by
  refine (dc_iload (a := 7) (i := 29) rfl rfl).trans ?_
  refine (dc_ic (x := 800) (i := 30) rfl).trans ?_
  refine (dn_icmp (c := (fun x y => decide (y ≤ x))) (t := 46) (i := 31) rfl _ _).trans (q_ite ?_ ?_)
  · refine (dc_iload (a := 6) (i := 46) rfl rfl).trans ?_
    refine (dc_iload (a := 2) (i := 47) rfl rfl).trans ?_
    refine (dc_iload (a := 6) (i := 48) rfl rfl).trans ?_
    refine (dc_bin (f := (fun x y => x - y)) (i := 49) rfl _ _).trans ?_
    refine (dn_icmp (c := (fun x y => decide (x ≤ y))) (t := 53) (i := 50) rfl _ _).trans (q_ite ?_ ?_)
    · refine (dc_iload (a := 2) (i := 53) rfl rfl).trans ?_
      refine (dc_iload (a := 6) (i := 54) rfl rfl).trans ?_
      refine (dc_bin (f := (fun x y => x - y)) (i := 55) rfl _ _).trans ?_
      exact rfl
    · refine (dc_iload (a := 6) (i := 51) rfl rfl).trans ?_
      refine (dc_goto (t := 56) (i := 52) rfl).trans ?_
      exact rfl
  · refine (dc_iload (a := 6) (i := 32) rfl rfl).trans ?_
    refine (dc_aload (a := 0) (i := 33) rfl rfl).trans ?_
    refine (dc_iload (a := 7) (i := 34) rfl rfl).trans ?_
    refine (dn_cV_i (i := 35) (y := 163) (na := 2) (ci := 9) rfl (pa_2 _ _ _) (Nat.le_of_ble_eq_true rfl) (Nat.le_of_ble_eq_true rfl)).trans (congrArg (fun F => qv _ _ _ (qr_i _ F)) (funext fun y1 => funext fun hp1 => ?_))
    refine (dn_if (c := (fun x => decide (x = 0))) (t := 41) (i := 36) rfl _).trans (q_ite ?_ ?_)
    · refine (dc_ic (x := 0) (i := 41) rfl).trans ?_
      exact rfl
    · refine (dc_iload (a := 7) (i := 37) rfl rfl).trans ?_
      refine (dc_iload (a := 5) (i := 38) rfl rfl).trans ?_
      refine (dn_cS_i (i := 39) (y := 164) (na := 2) rfl (pa_2 _ _ _) (Nat.le_of_ble_eq_true rfl) (Nat.le_of_ble_eq_true rfl)).trans (congrArg (qr_i _) (funext fun y2 => funext fun hp2 => ?_))
      refine (dc_goto (t := 42) (i := 40) rfl).trans ?_
      exact rfl
theorem B165_42 {v0 : pO} {v1 : pO} {v2 : pO} {v3 : pO} {v4 : pO} {v5 : pO} {v6 : pO} {x7 : Int32} {s0 : Int32} {s1 : Int32} {hp : pH} (h5 : pm_nl v5 = true) : dn pg 165 42 [v0, v1, v2, v3, v4, v5, v6, some (.int x7)] [.int s0, .int s1] hp = dn pg 165 29 [v0, v1, v2, v3, v4, v5, some (.int (s1 + s0)), some (.int (x7 + nI 1))] [] hp := by
  refine (dc_bin (f := (fun x y => x + y)) (i := 42) rfl _ _).trans ?_
  refine (dn_istore (a := 6) (i := 43) rfl (pm_ok_nl (Nat.le_of_ble_eq_true rfl) rfl h5) _).trans ?_
  refine (dn_iinc (a := 7) (d := 1) (i := 44) rfl rfl rfl).trans ?_
  refine (dc_goto (t := 29) (i := 45) rfl).trans ?_
  exact rfl
theorem B165_56 {v0 : pO} {v1 : pO} {v2 : pO} {x3 : Int32} {x4 : Int32} {x5 : Int32} {v6 : pO} {v7 : pO} {s0 : Int32} {hp : pH} (h6 : pm_nl v6 = true) : dn pg 165 56 [v0, v1, v2, some (.int x3), some (.int x4), some (.int x5), v6, v7] [.int s0] hp = if x4 ≤ s0 then dn pg 165 63 [v0, v1, v2, some (.int x3), some (.int x4), some (.int x5), v6, some (.int s0)] [.int x3] hp else dn pg 165 63 [v0, v1, v2, some (.int x3), some (.int x4), some (.int x5), v6, some (.int s0)] [.int x5] hp := by
  refine (dn_istore (a := 7) (i := 56) rfl (pm_ok_nl (Nat.le_of_ble_eq_true rfl) rfl h6) _).trans ?_
  refine (dc_iload (a := 7) (i := 57) rfl rfl).trans ?_
  refine (dc_iload (a := 4) (i := 58) rfl rfl).trans ?_
  refine (dn_icmp (c := (fun x y => decide (y ≤ x))) (t := 62) (i := 59) rfl _ _).trans (q_ite ?_ ?_)
  · refine (dc_iload (a := 3) (i := 62) rfl rfl).trans ?_
    exact rfl
  · refine (dc_iload (a := 5) (i := 60) rfl rfl).trans ?_
    refine (dc_goto (t := 63) (i := 61) rfl).trans ?_
    exact rfl
theorem B165_63 {v0 : pO} {v1 : pO} {v2 : pO} {v3 : pO} {x4 : Int32} {v5 : pO} {v6 : pO} {x7 : Int32} {s0 : Int32} {hp : pH} (h2 : pm_nl v2 = true) : dn pg 165 63 [v0, v1, v2, v3, some (.int x4), v5, v6, some (.int x7)] [.int s0] hp = if x4 ≤ x7 then dn pg 165 70 [v0, v1, v2, some (.int s0), some (.int x4), v5, v6, some (.int x7)] [.int x4] hp else dn pg 165 70 [v0, v1, v2, some (.int s0), some (.int x4), v5, v6, some (.int x7)] [.int x7] hp := by
  refine (dn_istore (a := 3) (i := 63) rfl (pm_ok_nl (Nat.le_of_ble_eq_true rfl) rfl h2) _).trans ?_
  refine (dc_iload (a := 7) (i := 64) rfl rfl).trans ?_
  refine (dc_iload (a := 4) (i := 65) rfl rfl).trans ?_
  refine (dn_icmp (c := (fun x y => decide (y ≤ x))) (t := 69) (i := 66) rfl _ _).trans (q_ite ?_ ?_)
  · refine (dc_iload (a := 4) (i := 69) rfl rfl).trans ?_
    exact rfl
  · refine (dc_iload (a := 7) (i := 67) rfl rfl).trans ?_
    refine (dc_goto (t := 70) (i := 68) rfl).trans ?_
    exact rfl
theorem B165_70 {v0 : pO} {v1 : pO} {v2 : pO} {v3 : pO} {v4 : pO} {x5 : Int32} {v6 : pO} {v7 : pO} {s0 : Int32} {hp : pH} (h3 : pm_nl v3 = true) : dn pg 165 70 [v0, v1, v2, v3, v4, some (.int x5), v6, v7] [.int s0] hp = dn pg 165 20 [v0, v1, v2, v3, some (.int s0), some (.int (x5 + nI 1)), v6, v7] [] hp := by
  refine (dn_istore (a := 4) (i := 70) rfl (pm_ok_nl (Nat.le_of_ble_eq_true rfl) rfl h3) _).trans ?_
  refine (dn_iinc (a := 5) (d := 1) (i := 71) rfl rfl rfl).trans ?_
  refine (dc_goto (t := 20) (i := 72) rfl).trans ?_
  exact rfl
theorem B165_73 {v0 : pO} {x1 : Int32} {v2 : pO} {x3 : Int32} {x4 : Int32} {v5 : pO} {v6 : pO} {v7 : pO} {hp : pH} : dn pg 165 73 [v0, some (.int x1), v2, some (.int x3), some (.int x4), v5, v6, v7] [] hp = if x3 < nI 0 then dn pg 165 77 [v0, some (.int x1), v2, some (.int x3), some (.int x4), v5, v6, v7] [] hp else if ¬ x1 = nI 0 then dn pg 165 80 [v0, some (.int x1), v2, some (.int x3), some (.int x4), v5, v6, v7] [.int x4] hp else dn pg 165 77 [v0, some (.int x1), v2, some (.int x3), some (.int x4), v5, v6, v7] [] hp := by
  refine (dc_iload (a := 3) (i := 73) rfl rfl).trans ?_
  refine (dn_if (c := (fun x => decide (x < 0))) (t := 77) (i := 74) rfl _).trans (q_ite ?_ ?_)
  · exact rfl
  · refine (dc_iload (a := 1) (i := 75) rfl rfl).trans ?_
    refine (dn_if (c := (fun x => decide (¬ x = 0))) (t := 79) (i := 76) rfl _).trans (q_ite ?_ ?_)
    · refine (dc_iload (a := 4) (i := 79) rfl rfl).trans ?_
      exact rfl
    · exact rfl
theorem B165_77 {v0 : pO} {v1 : pO} {v2 : pO} {x3 : Int32} {v4 : pO} {v5 : pO} {v6 : pO} {v7 : pO} {hp : pH} : dn pg 165 77 [v0, v1, v2, some (.int x3), v4, v5, v6, v7] [] hp = dn pg 165 80 [v0, v1, v2, some (.int x3), v4, v5, v6, v7] [.int x3] hp := by
  refine (dc_iload (a := 3) (i := 77) rfl rfl).trans ?_
  refine (dc_goto (t := 80) (i := 78) rfl).trans ?_
  exact rfl
theorem B165_80 {v0 : pO} {v1 : pO} {v2 : pO} {v3 : pO} {v4 : pO} {v5 : pO} {v6 : pO} {v7 : pO} {s0 : Int32} {hp : pH} : dn pg 165 80 [v0, v1, v2, v3, v4, v5, v6, v7] [.int s0] hp = q_i s0 hp := by
  exact dc_ireturn (i := 80) rfl _
theorem B166_0 {v0 : pO} {x1 : Int32} {v2 : pO} {hp : pH} : dn pg 166 0 [v0, some (.int x1), v2] [] hp = qr_i (cl pg 109 [.long x1.toInt64, .long (lN 0), .long (lN 1)] hp) (fun y1 hp1 => if ¬ y1 = nI 0 then dn pg 166 10 [v0, some (.int x1), some (.int (nI 0))] [] hp1 else q_i (-2) hp1) := by
  refine (dc_iload (a := 1) (i := 0) rfl rfl).trans ?_
  refine (dc_i2l (i := 1) rfl _).trans ?_
  refine (dc_lc (x := 0) (i := 2) rfl).trans ?_
  refine (dc_lc (x := 1) (i := 3) rfl).trans ?_
  refine (dn_cS_i (i := 4) (y := 109) (na := 3) rfl (pa_3 _ _ _ _) (Nat.le_of_ble_eq_true rfl) (Nat.le_of_ble_eq_true rfl)).trans (congrArg (qr_i _) (funext fun y1 => funext fun hp1 => ?_))
  refine (dn_if (c := (fun x => decide (¬ x = 0))) (t := 8) (i := 5) rfl _).trans (q_ite ?_ ?_)
  · refine (dc_ic (x := 0) (i := 8) rfl).trans ?_
    refine (dn_istore (a := 2) (i := 9) rfl rfl _).trans ?_
    exact rfl
  · refine (dc_ic (x := (-2)) (i := 6) rfl).trans ?_
    exact dc_ireturn (i := 7) rfl _
theorem B166_10 {o0 : Nat} {x1 : Int32} {x2 : Int32} {hp : pH} : dn pg 166 10 [some (.ref o0), some (.int x1), some (.int x2)] [] hp = if (nI 255) < x2 then if ¬ x1 = (nI 1) then qg_a hp o0 9 27 (fun r1 => qg_i hp o0 9 4 (fun y2 => qa_i hp r1 1 y2 (fun y3 => if y3 = nI 0 then dn pg 166 43 [some (.ref o0), some (.int x1), some (.int x2)] [.int (nI 0)] hp else dn pg 166 43 [some (.ref o0), some (.int x1), some (.int x2)] [.int (nI 1)] hp))) else qg_i hp o0 9 4 (fun y4 => qv hp o0 9 (qr_i (cl pg 167 [.ref o0, .int y4] hp) (fun y5 hp1 => dn pg 166 43 [some (.ref o0), some (.int x1), some (.int x2)] [.int y5] hp1))) else qg_a hp o0 9 27 (fun r6 => qv hp o0 9 (qr_i (cl pg 167 [.ref o0, .int x2] hp) (fun y7 hp2 => if y7 < nI 0 then dn pg 166 23 [some (.ref o0), some (.int x1), some (.int x2)] [.int (nI 0), .int x2, .ref r6] hp2 else dn pg 166 23 [some (.ref o0), some (.int x1), some (.int x2)] [.int (nI 1), .int x2, .ref r6] hp2))) := by
  refine (dc_iload (a := 2) (i := 10) rfl rfl).trans ?_
  refine (dc_ic (x := 255) (i := 11) rfl).trans ?_
  refine (dn_icmp (c := (fun x y => decide (y < x))) (t := 26) (i := 12) rfl _ _).trans (q_ite ?_ ?_)
  · refine (dc_iload (a := 1) (i := 26) rfl rfl).trans ?_
    refine (dc_ic (x := 1) (i := 27) rfl).trans ?_
    refine (dn_icmp (c := (fun x y => decide (¬ x = y))) (t := 34) (i := 28) rfl _ _).trans (q_ite ?_ ?_)
    · refine (dc_aload (a := 0) (i := 34) rfl rfl).trans ?_
      refine (dn_getA (ci := 9) (j := 27) (i := 35) rfl _).trans (congrArg (qg_a _ _ _ _) (funext fun r1 => ?_))
      refine (dc_aload (a := 0) (i := 36) rfl rfl).trans ?_
      refine (dn_getI (ci := 9) (j := 4) (i := 37) rfl _).trans (congrArg (qg_i _ _ _ _) (funext fun y2 => ?_))
      refine (dn_iald (t := 1) (i := 38) rfl _ _).trans (congrArg (qa_i _ _ _ _) (funext fun y3 => ?_))
      refine (dn_if (c := (fun x => decide (x = 0))) (t := 42) (i := 39) rfl _).trans (q_ite ?_ ?_)
      · refine (dc_ic (x := 0) (i := 42) rfl).trans ?_
        exact rfl
      · refine (dc_ic (x := 1) (i := 40) rfl).trans ?_
        refine (dc_goto (t := 43) (i := 41) rfl).trans ?_
        exact rfl
    · refine (dc_aload (a := 0) (i := 29) rfl rfl).trans ?_
      refine (dc_aload (a := 0) (i := 30) rfl rfl).trans ?_
      refine (dn_getI (ci := 9) (j := 4) (i := 31) rfl _).trans (congrArg (qg_i _ _ _ _) (funext fun y4 => ?_))
      refine (dn_cV_i (i := 32) (y := 167) (na := 2) (ci := 9) rfl (pa_2 _ _ _) (Nat.le_of_ble_eq_true rfl) (Nat.le_of_ble_eq_true rfl)).trans (congrArg (fun F => qv _ _ _ (qr_i _ F)) (funext fun y5 => funext fun hp1 => ?_))
      refine (dc_goto (t := 43) (i := 33) rfl).trans ?_
      exact rfl
  · refine (dc_aload (a := 0) (i := 13) rfl rfl).trans ?_
    refine (dn_getA (ci := 9) (j := 27) (i := 14) rfl _).trans (congrArg (qg_a _ _ _ _) (funext fun r6 => ?_))
    refine (dc_iload (a := 2) (i := 15) rfl rfl).trans ?_
    refine (dc_aload (a := 0) (i := 16) rfl rfl).trans ?_
    refine (dc_iload (a := 2) (i := 17) rfl rfl).trans ?_
    refine (dn_cV_i (i := 18) (y := 167) (na := 2) (ci := 9) rfl (pa_2 _ _ _) (Nat.le_of_ble_eq_true rfl) (Nat.le_of_ble_eq_true rfl)).trans (congrArg (fun F => qv _ _ _ (qr_i _ F)) (funext fun y7 => funext fun hp2 => ?_))
    refine (dn_if (c := (fun x => decide (x < 0))) (t := 22) (i := 19) rfl _).trans (q_ite ?_ ?_)
    · refine (dc_ic (x := 0) (i := 22) rfl).trans ?_
      exact rfl
    · refine (dc_ic (x := 1) (i := 20) rfl).trans ?_
      refine (dc_goto (t := 23) (i := 21) rfl).trans ?_
      exact rfl
theorem B166_23 {v0 : pO} {v1 : pO} {x2 : Int32} {s0 : Int32} {s1 : Int32} {s2 : Nat} {hp : pH} (h1 : pm_nl v1 = true) : dn pg 166 23 [v0, v1, some (.int x2)] [.int s0, .int s1, .ref s2] hp = qz s0 (qx_i hp s2 1 s1 s0 (fun hp1 => dn pg 166 10 [v0, v1, some (.int (x2 + nI 1))] [] hp1)) := by
  refine (dn_zast (i := 23) rfl _ _ _).trans (congrArg (fun F => qz _ (qx_i _ _ _ _ _ F)) (funext fun hp1 => ?_))
  refine (dn_iinc (a := 2) (d := 1) (i := 24) rfl (pm_ok_nl (Nat.le_of_ble_eq_true rfl) rfl h1) rfl).trans ?_
  refine (dc_goto (t := 10) (i := 25) rfl).trans ?_
  exact rfl
theorem B166_43 {v0 : pO} {v1 : pO} {v2 : pO} {s0 : Int32} {hp : pH} : dn pg 166 43 [v0, v1, v2] [.int s0] hp = q_i s0 hp := by
  exact dc_ireturn (i := 43) rfl _
theorem B167_0 {v0 : pO} {v1 : pO} {v2 : pO} {v3 : pO} {v4 : pO} {hp : pH} (h1 : pm_nl v1 = true) : dn pg 167 0 [v0, v1, v2, v3, v4] [] hp = dn pg 167 2 [v0, v1, some (.int (nI 0)), v3, v4] [] hp := by
  refine (dc_ic (x := 0) (i := 0) rfl).trans ?_
  refine (dn_istore (a := 2) (i := 1) rfl (pm_ok_nl (Nat.le_of_ble_eq_true rfl) rfl h1) _).trans ?_
  exact rfl
theorem B167_2 {v0 : pO} {v1 : pO} {x2 : Int32} {v3 : pO} {v4 : pO} {hp : pH} : dn pg 167 2 [v0, v1, some (.int x2), v3, v4] [] hp = if (nI 8) ≤ x2 then q_i (-6) hp else dn pg 167 7 [v0, v1, some (.int x2), some (.int (nI 0)), v4] [] hp := by
  refine (dc_iload (a := 2) (i := 2) rfl rfl).trans ?_
  refine (dc_ic (x := 8) (i := 3) rfl).trans ?_
  refine (dn_icmp (c := (fun x y => decide (y ≤ x))) (t := 46) (i := 4) rfl _ _).trans (q_ite ?_ ?_)
  · refine (dc_ic (x := (-6)) (i := 46) rfl).trans ?_
    exact dc_ireturn (i := 47) rfl _
  · refine (dc_ic (x := 0) (i := 5) rfl).trans ?_
    refine (dn_istore (a := 3) (i := 6) rfl rfl _).trans ?_
    exact rfl
theorem B167_7 {v0 : pO} {x1 : Int32} {x2 : Int32} {x3 : Int32} {v4 : pO} {hp : pH} : dn pg 167 7 [v0, some (.int x1), some (.int x2), some (.int x3), v4] [] hp = if x2 < x3 then dn pg 167 44 [v0, some (.int x1), some (.int x2), some (.int x3), v4] [] hp else qr_i (cl pg 130 [.int x1, .int x2] hp) (fun y1 hp1 => if y1 = nI 0 then dn pg 167 44 [v0, some (.int x1), some (.int x2), some (.int x3), v4] [] hp1 else if x2 ≤ x3 then dn pg 167 29 [v0, some (.int x1), some (.int x2), some (.int x3), v4] [.int (nI 0), .int (x1 &&& (((nI 1) <<< (x2 &&& nI 31)) ^^^ (-1)))] hp1 else dn pg 167 29 [v0, some (.int x1), some (.int x2), some (.int x3), v4] [.int ((nI 1) <<< (x3 &&& nI 31)), .int (x1 &&& (((nI 1) <<< (x2 &&& nI 31)) ^^^ (-1)))] hp1) := by
  refine (dc_iload (a := 3) (i := 7) rfl rfl).trans ?_
  refine (dc_iload (a := 2) (i := 8) rfl rfl).trans ?_
  refine (dn_icmp (c := (fun x y => decide (y < x))) (t := 44) (i := 9) rfl _ _).trans (q_ite ?_ ?_)
  · exact rfl
  · refine (dc_iload (a := 1) (i := 10) rfl rfl).trans ?_
    refine (dc_iload (a := 2) (i := 11) rfl rfl).trans ?_
    refine (dn_cS_i (i := 12) (y := 130) (na := 2) rfl (pa_2 _ _ _) (Nat.le_of_ble_eq_true rfl) (Nat.le_of_ble_eq_true rfl)).trans (congrArg (qr_i _) (funext fun y1 => funext fun hp1 => ?_))
    refine (dn_if (c := (fun x => decide (x = 0))) (t := 44) (i := 13) rfl _).trans (q_ite ?_ ?_)
    · exact rfl
    · refine (dc_iload (a := 1) (i := 14) rfl rfl).trans ?_
      refine (dc_ic (x := 1) (i := 15) rfl).trans ?_
      refine (dc_iload (a := 2) (i := 16) rfl rfl).trans ?_
      refine (dc_bin (f := (fun x y => x <<< (y &&& 31))) (i := 17) rfl _ _).trans ?_
      refine (dc_ic (x := (-1)) (i := 18) rfl).trans ?_
      refine (dc_bin (f := (fun x y => x ^^^ y)) (i := 19) rfl _ _).trans ?_
      refine (dc_bin (f := (fun x y => x &&& y)) (i := 20) rfl _ _).trans ?_
      refine (dc_iload (a := 3) (i := 21) rfl rfl).trans ?_
      refine (dc_iload (a := 2) (i := 22) rfl rfl).trans ?_
      refine (dn_icmp (c := (fun x y => decide (y ≤ x))) (t := 28) (i := 23) rfl _ _).trans (q_ite ?_ ?_)
      · refine (dc_ic (x := 0) (i := 28) rfl).trans ?_
        exact rfl
      · refine (dc_ic (x := 1) (i := 24) rfl).trans ?_
        refine (dc_iload (a := 3) (i := 25) rfl rfl).trans ?_
        refine (dc_bin (f := (fun x y => x <<< (y &&& 31))) (i := 26) rfl _ _).trans ?_
        refine (dc_goto (t := 29) (i := 27) rfl).trans ?_
        exact rfl
theorem B167_29 {o0 : Nat} {v1 : pO} {x2 : Int32} {x3 : Int32} {v4 : pO} {s0 : Int32} {s1 : Int32} {hp : pH} : dn pg 167 29 [some (.ref o0), v1, some (.int x2), some (.int x3), v4] [.int s0, .int s1] hp = qg_a hp o0 9 27 (fun r1 => qa_i hp r1 1 (s1 ^^^ s0) (fun y2 => if ¬ y2 = nI 0 then dn pg 167 7 [some (.ref o0), v1, some (.int x2), some (.int (x3 + nI 1)), some (.int (s1 ^^^ s0))] [] hp else q_i (((nI 10) * x2) + x3) hp)) := by
  refine (dc_bin (f := (fun x y => x ^^^ y)) (i := 29) rfl _ _).trans ?_
  refine (dn_istore (a := 4) (i := 30) rfl rfl _).trans ?_
  refine (dc_aload (a := 0) (i := 31) rfl rfl).trans ?_
  refine (dn_getA (ci := 9) (j := 27) (i := 32) rfl _).trans (congrArg (qg_a _ _ _ _) (funext fun r1 => ?_))
  refine (dc_iload (a := 4) (i := 33) rfl rfl).trans ?_
  refine (dn_iald (t := 1) (i := 34) rfl _ _).trans (congrArg (qa_i _ _ _ _) (funext fun y2 => ?_))
  refine (dn_if (c := (fun x => decide (¬ x = 0))) (t := 42) (i := 35) rfl _).trans (q_ite ?_ ?_)
  · refine (dn_iinc (a := 3) (d := 1) (i := 42) rfl rfl rfl).trans ?_
    refine (dc_goto (t := 7) (i := 43) rfl).trans ?_
    exact rfl
  · refine (dc_ic (x := 10) (i := 36) rfl).trans ?_
    refine (dc_iload (a := 2) (i := 37) rfl rfl).trans ?_
    refine (dc_bin (f := (fun x y => x * y)) (i := 38) rfl _ _).trans ?_
    refine (dc_iload (a := 3) (i := 39) rfl rfl).trans ?_
    refine (dc_bin (f := (fun x y => x + y)) (i := 40) rfl _ _).trans ?_
    exact dc_ireturn (i := 41) rfl _
theorem B167_44 {v0 : pO} {v1 : pO} {x2 : Int32} {v3 : pO} {v4 : pO} {hp : pH} (h1 : pm_nl v1 = true) : dn pg 167 44 [v0, v1, some (.int x2), v3, v4] [] hp = dn pg 167 2 [v0, v1, some (.int (x2 + nI 1)), v3, v4] [] hp := by
  refine (dn_iinc (a := 2) (d := 1) (i := 44) rfl (pm_ok_nl (Nat.le_of_ble_eq_true rfl) rfl h1) rfl).trans ?_
  refine (dc_goto (t := 2) (i := 45) rfl).trans ?_
  exact rfl
theorem B168_0 {v0 : pO} {x1 : Int32} {x2 : Int32} {x3 : Int32} {x4 : Int32} {v5 : pO} {v6 : pO} {v7 : pO} {v8 : pO} {hp : pH} : dn pg 168 0 [v0, some (.int x1), some (.int x2), some (.int x3), some (.int x4), v5, v6, v7, v8] [] hp = qr_i (cl pg 109 [.long x1.toInt64, .long (lN 0), .long (lN 20)] hp) (fun y1 hp1 => if y1 = nI 0 then dn pg 168 24 [v0, some (.int x1), some (.int x2), some (.int x3), some (.int x4), v5, v6, v7, v8] [] hp1 else qr_i (cl pg 109 [.long x2.toInt64, .long (lN 0), .long (lN 20)] hp1) (fun y2 hp2 => if y2 = nI 0 then dn pg 168 24 [v0, some (.int x1), some (.int x2), some (.int x3), some (.int x4), v5, v6, v7, v8] [] hp2 else qr_i (cl pg 109 [.long x3.toInt64, .long (lN 0), .long (lN 1)] hp2) (fun y3 hp3 => if y3 = nI 0 then dn pg 168 24 [v0, some (.int x1), some (.int x2), some (.int x3), some (.int x4), v5, v6, v7, v8] [] hp3 else qr_i (cl pg 109 [.long x4.toInt64, .long (lN 0), .long (lN 1)] hp3) (fun y4 hp4 => if ¬ y4 = nI 0 then dn pg 168 28 [v0, some (.int x1), some (.int x2), some (.int x3), some (.int x4), some (.int (nI 0)), v6, v7, v8] [] hp4 else dn pg 168 24 [v0, some (.int x1), some (.int x2), some (.int x3), some (.int x4), v5, v6, v7, v8] [] hp4)))) := by
  refine (dc_iload (a := 1) (i := 0) rfl rfl).trans ?_
  refine (dc_i2l (i := 1) rfl _).trans ?_
  refine (dc_lc (x := 0) (i := 2) rfl).trans ?_
  refine (dc_lc (x := 20) (i := 3) rfl).trans ?_
  refine (dn_cS_i (i := 4) (y := 109) (na := 3) rfl (pa_3 _ _ _ _) (Nat.le_of_ble_eq_true rfl) (Nat.le_of_ble_eq_true rfl)).trans (congrArg (qr_i _) (funext fun y1 => funext fun hp1 => ?_))
  refine (dn_if (c := (fun x => decide (x = 0))) (t := 24) (i := 5) rfl _).trans (q_ite ?_ ?_)
  · exact rfl
  · refine (dc_iload (a := 2) (i := 6) rfl rfl).trans ?_
    refine (dc_i2l (i := 7) rfl _).trans ?_
    refine (dc_lc (x := 0) (i := 8) rfl).trans ?_
    refine (dc_lc (x := 20) (i := 9) rfl).trans ?_
    refine (dn_cS_i (i := 10) (y := 109) (na := 3) rfl (pa_3 _ _ _ _) (Nat.le_of_ble_eq_true rfl) (Nat.le_of_ble_eq_true rfl)).trans (congrArg (qr_i _) (funext fun y2 => funext fun hp2 => ?_))
    refine (dn_if (c := (fun x => decide (x = 0))) (t := 24) (i := 11) rfl _).trans (q_ite ?_ ?_)
    · exact rfl
    · refine (dc_iload (a := 3) (i := 12) rfl rfl).trans ?_
      refine (dc_i2l (i := 13) rfl _).trans ?_
      refine (dc_lc (x := 0) (i := 14) rfl).trans ?_
      refine (dc_lc (x := 1) (i := 15) rfl).trans ?_
      refine (dn_cS_i (i := 16) (y := 109) (na := 3) rfl (pa_3 _ _ _ _) (Nat.le_of_ble_eq_true rfl) (Nat.le_of_ble_eq_true rfl)).trans (congrArg (qr_i _) (funext fun y3 => funext fun hp3 => ?_))
      refine (dn_if (c := (fun x => decide (x = 0))) (t := 24) (i := 17) rfl _).trans (q_ite ?_ ?_)
      · exact rfl
      · refine (dc_iload (a := 4) (i := 18) rfl rfl).trans ?_
        refine (dc_i2l (i := 19) rfl _).trans ?_
        refine (dc_lc (x := 0) (i := 20) rfl).trans ?_
        refine (dc_lc (x := 1) (i := 21) rfl).trans ?_
        refine (dn_cS_i (i := 22) (y := 109) (na := 3) rfl (pa_3 _ _ _ _) (Nat.le_of_ble_eq_true rfl) (Nat.le_of_ble_eq_true rfl)).trans (congrArg (qr_i _) (funext fun y4 => funext fun hp4 => ?_))
        refine (dn_if (c := (fun x => decide (¬ x = 0))) (t := 26) (i := 23) rfl _).trans (q_ite ?_ ?_)
        · refine (dc_ic (x := 0) (i := 26) rfl).trans ?_
          refine (dn_istore (a := 5) (i := 27) rfl rfl _).trans ?_
          exact rfl
        · exact rfl
theorem B168_24 {v0 : pO} {v1 : pO} {v2 : pO} {v3 : pO} {v4 : pO} {v5 : pO} {v6 : pO} {v7 : pO} {v8 : pO} {hp : pH} : dn pg 168 24 [v0, v1, v2, v3, v4, v5, v6, v7, v8] [] hp = q_l (-1000000000000000002) hp := by
  refine (dc_lc (x := (-1000000000000000002)) (i := 24) rfl).trans ?_
  exact dc_lreturn (i := 25) rfl _
theorem B168_28 {o0 : Nat} {x1 : Int32} {x2 : Int32} {v3 : pO} {x4 : Int32} {x5 : Int32} {v6 : pO} {v7 : pO} {v8 : pO} {hp : pH} : dn pg 168 28 [some (.ref o0), some (.int x1), some (.int x2), v3, some (.int x4), some (.int x5), v6, v7, v8] [] hp = if x1 < x5 then qg_a hp o0 9 29 (fun r1 => qa_l hp r1 (((nI 21) * x1) + x2) (fun y2 => qg_a hp o0 9 28 (fun r3 => qa_l hp r3 (((nI 21) * x1) + x2) (fun y4 => qr_l (cl pg 170 [.long y2, .long y4, .int x4] hp) (fun y5 hp1 => q_l y5 hp1))))) else dn pg 168 33 [some (.ref o0), some (.int x1), some (.int x2), v3, some (.int x4), some (.int x5), some (.int (nI 0)), v7, v8] [] hp := by
  refine (dc_iload (a := 5) (i := 28) rfl rfl).trans ?_
  refine (dc_iload (a := 1) (i := 29) rfl rfl).trans ?_
  refine (dn_icmp (c := (fun x y => decide (y < x))) (t := 104) (i := 30) rfl _ _).trans (q_ite ?_ ?_)
  · refine (dc_aload (a := 0) (i := 104) rfl rfl).trans ?_
    refine (dn_getA (ci := 9) (j := 29) (i := 105) rfl _).trans (congrArg (qg_a _ _ _ _) (funext fun r1 => ?_))
    refine (dc_ic (x := 21) (i := 106) rfl).trans ?_
    refine (dc_iload (a := 1) (i := 107) rfl rfl).trans ?_
    refine (dc_bin (f := (fun x y => x * y)) (i := 108) rfl _ _).trans ?_
    refine (dc_iload (a := 2) (i := 109) rfl rfl).trans ?_
    refine (dc_bin (f := (fun x y => x + y)) (i := 110) rfl _ _).trans ?_
    refine (dn_lald (i := 111) rfl _ _).trans (congrArg (qa_l _ _ _) (funext fun y2 => ?_))
    refine (dc_aload (a := 0) (i := 112) rfl rfl).trans ?_
    refine (dn_getA (ci := 9) (j := 28) (i := 113) rfl _).trans (congrArg (qg_a _ _ _ _) (funext fun r3 => ?_))
    refine (dc_ic (x := 21) (i := 114) rfl).trans ?_
    refine (dc_iload (a := 1) (i := 115) rfl rfl).trans ?_
    refine (dc_bin (f := (fun x y => x * y)) (i := 116) rfl _ _).trans ?_
    refine (dc_iload (a := 2) (i := 117) rfl rfl).trans ?_
    refine (dc_bin (f := (fun x y => x + y)) (i := 118) rfl _ _).trans ?_
    refine (dn_lald (i := 119) rfl _ _).trans (congrArg (qa_l _ _ _) (funext fun y4 => ?_))
    refine (dc_iload (a := 4) (i := 120) rfl rfl).trans ?_
    refine (dn_cS_l (i := 121) (y := 170) (na := 3) rfl (pa_3 _ _ _ _) (Nat.le_of_ble_eq_true rfl) (Nat.le_of_ble_eq_true rfl)).trans (congrArg (qr_l _) (funext fun y5 => funext fun hp1 => ?_))
    exact dc_lreturn (i := 122) rfl _
  · refine (dc_ic (x := 0) (i := 31) rfl).trans ?_
    refine (dn_istore (a := 6) (i := 32) rfl rfl _).trans ?_
    exact rfl
theorem B168_33 {v0 : pO} {v1 : pO} {x2 : Int32} {v3 : pO} {v4 : pO} {x5 : Int32} {x6 : Int32} {v7 : pO} {v8 : pO} {hp : pH} (h4 : pm_nl v4 = true) : dn pg 168 33 [v0, v1, some (.int x2), v3, v4, some (.int x5), some (.int x6), v7, v8] [] hp = if x2 < x6 then dn pg 168 28 [v0, v1, some (.int x2), v3, v4, some (.int (x5 + nI 1)), some (.int x6), v7, v8] [] hp else if ¬ (x5 + x6) = nI 0 then dn pg 168 43 [v0, v1, some (.int x2), v3, v4, some (.int x5), some (.int x6), v7, v8] [.int (nI 0)] hp else dn pg 168 43 [v0, v1, some (.int x2), v3, v4, some (.int x5), some (.int x6), v7, v8] [.int (nI 1)] hp := by
  refine (dc_iload (a := 6) (i := 33) rfl rfl).trans ?_
  refine (dc_iload (a := 2) (i := 34) rfl rfl).trans ?_
  refine (dn_icmp (c := (fun x y => decide (y < x))) (t := 102) (i := 35) rfl _ _).trans (q_ite ?_ ?_)
  · refine (dn_iinc (a := 5) (d := 1) (i := 102) rfl (pm_ok_nl (Nat.le_of_ble_eq_true rfl) rfl h4) rfl).trans ?_
    refine (dc_goto (t := 28) (i := 103) rfl).trans ?_
    exact rfl
  · refine (dc_iload (a := 5) (i := 36) rfl rfl).trans ?_
    refine (dc_iload (a := 6) (i := 37) rfl rfl).trans ?_
    refine (dc_bin (f := (fun x y => x + y)) (i := 38) rfl _ _).trans ?_
    refine (dn_if (c := (fun x => decide (¬ x = 0))) (t := 42) (i := 39) rfl _).trans (q_ite ?_ ?_)
    · refine (dc_ic (x := 0) (i := 42) rfl).trans ?_
      exact rfl
    · refine (dc_ic (x := 1) (i := 40) rfl).trans ?_
      refine (dc_goto (t := 43) (i := 41) rfl).trans ?_
      exact rfl
theorem B168_43 {v0 : pO} {v1 : pO} {v2 : pO} {x3 : Int32} {v4 : pO} {x5 : Int32} {x6 : Int32} {v7 : pO} {v8 : pO} {s0 : Int32} {hp : pH} : dn pg 168 43 [v0, v1, v2, some (.int x3), v4, some (.int x5), some (.int x6), v7, v8] [.int s0] hp = if ¬ x3 = nI 0 then if x5 < x6 then dn pg 168 59 [v0, v1, v2, some (.int x3), v4, some (.int x5), some (.int x6), some (.int s0), v8] [.int (nI 0)] hp else dn pg 168 59 [v0, v1, v2, some (.int x3), v4, some (.int x5), some (.int x6), some (.int s0), v8] [.int (nI 1)] hp else if x5 ≤ x6 then dn pg 168 59 [v0, v1, v2, some (.int x3), v4, some (.int x5), some (.int x6), some (.int s0), v8] [.int (nI 0)] hp else dn pg 168 59 [v0, v1, v2, some (.int x3), v4, some (.int x5), some (.int x6), some (.int s0), v8] [.int (nI 1)] hp := by
  refine (dn_istore (a := 7) (i := 43) rfl rfl _).trans ?_
  refine (dc_iload (a := 3) (i := 44) rfl rfl).trans ?_
  refine (dn_if (c := (fun x => decide (¬ x = 0))) (t := 53) (i := 45) rfl _).trans (q_ite ?_ ?_)
  · refine (dc_iload (a := 5) (i := 53) rfl rfl).trans ?_
    refine (dc_iload (a := 6) (i := 54) rfl rfl).trans ?_
    refine (dn_icmp (c := (fun x y => decide (x < y))) (t := 58) (i := 55) rfl _ _).trans (q_ite ?_ ?_)
    · refine (dc_ic (x := 0) (i := 58) rfl).trans ?_
      exact rfl
    · refine (dc_ic (x := 1) (i := 56) rfl).trans ?_
      refine (dc_goto (t := 59) (i := 57) rfl).trans ?_
      exact rfl
  · refine (dc_iload (a := 5) (i := 46) rfl rfl).trans ?_
    refine (dc_iload (a := 6) (i := 47) rfl rfl).trans ?_
    refine (dn_icmp (c := (fun x y => decide (x ≤ y))) (t := 51) (i := 48) rfl _ _).trans (q_ite ?_ ?_)
    · refine (dc_ic (x := 0) (i := 51) rfl).trans ?_
      refine (dc_goto (t := 59) (i := 52) rfl).trans ?_
      exact rfl
    · refine (dc_ic (x := 1) (i := 49) rfl).trans ?_
      refine (dc_goto (t := 59) (i := 50) rfl).trans ?_
      exact rfl
theorem B168_59 {o0 : Nat} {v1 : pO} {v2 : pO} {v3 : pO} {v4 : pO} {x5 : Int32} {x6 : Int32} {x7 : Int32} {v8 : pO} {s0 : Int32} {hp : pH} : dn pg 168 59 [some (.ref o0), v1, v2, v3, v4, some (.int x5), some (.int x6), some (.int x7), v8] [.int s0] hp = qg_a hp o0 9 28 (fun r1 => if x7 = nI 0 then qg_a hp o0 9 28 (fun r2 => qv hp o0 9 (qr_l (cl pg 169 [.ref o0, .ref r2, .int x5, .int x6] hp) (fun y3 hp1 => dn pg 168 77 [some (.ref o0), v1, v2, v3, v4, some (.int x5), some (.int x6), some (.int x7), some (.int s0)] [.long y3, .int (((nI 21) * x5) + x6), .ref r1] hp1))) else dn pg 168 77 [some (.ref o0), v1, v2, v3, v4, some (.int x5), some (.int x6), some (.int x7), some (.int s0)] [.long (lN 1), .int (((nI 21) * x5) + x6), .ref r1] hp) := by
  refine (dn_istore (a := 8) (i := 59) rfl rfl _).trans ?_
  refine (dc_aload (a := 0) (i := 60) rfl rfl).trans ?_
  refine (dn_getA (ci := 9) (j := 28) (i := 61) rfl _).trans (congrArg (qg_a _ _ _ _) (funext fun r1 => ?_))
  refine (dc_ic (x := 21) (i := 62) rfl).trans ?_
  refine (dc_iload (a := 5) (i := 63) rfl rfl).trans ?_
  refine (dc_bin (f := (fun x y => x * y)) (i := 64) rfl _ _).trans ?_
  refine (dc_iload (a := 6) (i := 65) rfl rfl).trans ?_
  refine (dc_bin (f := (fun x y => x + y)) (i := 66) rfl _ _).trans ?_
  refine (dc_iload (a := 7) (i := 67) rfl rfl).trans ?_
  refine (dn_if (c := (fun x => decide (x = 0))) (t := 71) (i := 68) rfl _).trans (q_ite ?_ ?_)
  · refine (dc_aload (a := 0) (i := 71) rfl rfl).trans ?_
    refine (dc_aload (a := 0) (i := 72) rfl rfl).trans ?_
    refine (dn_getA (ci := 9) (j := 28) (i := 73) rfl _).trans (congrArg (qg_a _ _ _ _) (funext fun r2 => ?_))
    refine (dc_iload (a := 5) (i := 74) rfl rfl).trans ?_
    refine (dc_iload (a := 6) (i := 75) rfl rfl).trans ?_
    refine (dn_cV_l (i := 76) (y := 169) (na := 4) (ci := 9) rfl (pa_4 _ _ _ _ _) (Nat.le_of_ble_eq_true rfl) (Nat.le_of_ble_eq_true rfl)).trans (congrArg (fun F => qv _ _ _ (qr_l _ F)) (funext fun y3 => funext fun hp1 => ?_))
    exact rfl
  · refine (dc_lc (x := 1) (i := 69) rfl).trans ?_
    refine (dc_goto (t := 77) (i := 70) rfl).trans ?_
    exact rfl
theorem B168_77 {o0 : Nat} {v1 : pO} {v2 : pO} {v3 : pO} {v4 : pO} {x5 : Int32} {x6 : Int32} {x7 : Int32} {x8 : Int32} {s0 : Int64} {s1 : Int32} {s2 : Nat} {hp : pH} : dn pg 168 77 [some (.ref o0), v1, v2, v3, v4, some (.int x5), some (.int x6), some (.int x7), some (.int x8)] [.long s0, .int s1, .ref s2] hp = qx_l hp s2 s1 s0 (fun hp1 => qg_a hp1 o0 9 29 (fun r1 => if x7 = nI 0 then if x8 = nI 0 then dn pg 168 99 [some (.ref o0), v1, v2, v3, v4, some (.int x5), some (.int x6), some (.int x7), some (.int x8)] [.long (lN 0), .int (((nI 21) * x5) + x6), .ref r1] hp1 else qg_a hp1 o0 9 29 (fun r2 => qv hp1 o0 9 (qr_l (cl pg 169 [.ref o0, .ref r2, .int x5, .int x6] hp1) (fun y3 hp2 => dn pg 168 99 [some (.ref o0), v1, v2, v3, v4, some (.int x5), some (.int x6), some (.int x7), some (.int x8)] [.long y3, .int (((nI 21) * x5) + x6), .ref r1] hp2))) else dn pg 168 99 [some (.ref o0), v1, v2, v3, v4, some (.int x5), some (.int x6), some (.int x7), some (.int x8)] [.long (lN 1), .int (((nI 21) * x5) + x6), .ref r1] hp1)) := by
  refine (dn_last (i := 77) rfl _ _ _).trans (congrArg (qx_l _ _ _ _) (funext fun hp1 => ?_))
  refine (dc_aload (a := 0) (i := 78) rfl rfl).trans ?_
  refine (dn_getA (ci := 9) (j := 29) (i := 79) rfl _).trans (congrArg (qg_a _ _ _ _) (funext fun r1 => ?_))
  refine (dc_ic (x := 21) (i := 80) rfl).trans ?_
  refine (dc_iload (a := 5) (i := 81) rfl rfl).trans ?_
  refine (dc_bin (f := (fun x y => x * y)) (i := 82) rfl _ _).trans ?_
  refine (dc_iload (a := 6) (i := 83) rfl rfl).trans ?_
  refine (dc_bin (f := (fun x y => x + y)) (i := 84) rfl _ _).trans ?_
  refine (dc_iload (a := 7) (i := 85) rfl rfl).trans ?_
  refine (dn_if (c := (fun x => decide (x = 0))) (t := 89) (i := 86) rfl _).trans (q_ite ?_ ?_)
  · refine (dc_iload (a := 8) (i := 89) rfl rfl).trans ?_
    refine (dn_if (c := (fun x => decide (x = 0))) (t := 98) (i := 90) rfl _).trans (q_ite ?_ ?_)
    · refine (dc_lc (x := 0) (i := 98) rfl).trans ?_
      exact rfl
    · refine (dc_aload (a := 0) (i := 91) rfl rfl).trans ?_
      refine (dc_aload (a := 0) (i := 92) rfl rfl).trans ?_
      refine (dn_getA (ci := 9) (j := 29) (i := 93) rfl _).trans (congrArg (qg_a _ _ _ _) (funext fun r2 => ?_))
      refine (dc_iload (a := 5) (i := 94) rfl rfl).trans ?_
      refine (dc_iload (a := 6) (i := 95) rfl rfl).trans ?_
      refine (dn_cV_l (i := 96) (y := 169) (na := 4) (ci := 9) rfl (pa_4 _ _ _ _ _) (Nat.le_of_ble_eq_true rfl) (Nat.le_of_ble_eq_true rfl)).trans (congrArg (fun F => qv _ _ _ (qr_l _ F)) (funext fun y3 => funext fun hp2 => ?_))
      refine (dc_goto (t := 99) (i := 97) rfl).trans ?_
      exact rfl
  · refine (dc_lc (x := 1) (i := 87) rfl).trans ?_
    refine (dc_goto (t := 99) (i := 88) rfl).trans ?_
    exact rfl
theorem B168_99 {v0 : pO} {v1 : pO} {v2 : pO} {v3 : pO} {v4 : pO} {v5 : pO} {x6 : Int32} {v7 : pO} {v8 : pO} {s0 : Int64} {s1 : Int32} {s2 : Nat} {hp : pH} (h5 : pm_nl v5 = true) : dn pg 168 99 [v0, v1, v2, v3, v4, v5, some (.int x6), v7, v8] [.long s0, .int s1, .ref s2] hp = qx_l hp s2 s1 s0 (fun hp1 => dn pg 168 33 [v0, v1, v2, v3, v4, v5, some (.int (x6 + nI 1)), v7, v8] [] hp1) := by
  refine (dn_last (i := 99) rfl _ _ _).trans (congrArg (qx_l _ _ _ _) (funext fun hp1 => ?_))
  refine (dn_iinc (a := 6) (d := 1) (i := 100) rfl (pm_ok_nl (Nat.le_of_ble_eq_true rfl) rfl h5) rfl).trans ?_
  refine (dc_goto (t := 33) (i := 101) rfl).trans ?_
  exact rfl
theorem B169_0 {v0 : pO} {o1 : Nat} {x2 : Int32} {x3 : Int32} {hp : pH} : dn pg 169 0 [v0, some (.ref o1), some (.int x2), some (.int x3)] [] hp = if x2 ≤ nI 0 then dn pg 169 13 [v0, some (.ref o1), some (.int x2), some (.int x3)] [.long (lN 0)] hp else qa_l hp o1 (((nI 21) * (x2 - (nI 1))) + x3) (fun y1 => dn pg 169 13 [v0, some (.ref o1), some (.int x2), some (.int x3)] [.long y1] hp) := by
  refine (dc_iload (a := 2) (i := 0) rfl rfl).trans ?_
  refine (dn_if (c := (fun x => decide (x ≤ 0))) (t := 12) (i := 1) rfl _).trans (q_ite ?_ ?_)
  · refine (dc_lc (x := 0) (i := 12) rfl).trans ?_
    exact rfl
  · refine (dc_aload (a := 1) (i := 2) rfl rfl).trans ?_
    refine (dc_ic (x := 21) (i := 3) rfl).trans ?_
    refine (dc_iload (a := 2) (i := 4) rfl rfl).trans ?_
    refine (dc_ic (x := 1) (i := 5) rfl).trans ?_
    refine (dc_bin (f := (fun x y => x - y)) (i := 6) rfl _ _).trans ?_
    refine (dc_bin (f := (fun x y => x * y)) (i := 7) rfl _ _).trans ?_
    refine (dc_iload (a := 3) (i := 8) rfl rfl).trans ?_
    refine (dc_bin (f := (fun x y => x + y)) (i := 9) rfl _ _).trans ?_
    refine (dn_lald (i := 10) rfl _ _).trans (congrArg (qa_l _ _ _) (funext fun y1 => ?_))
    refine (dc_goto (t := 13) (i := 11) rfl).trans ?_
    exact rfl
theorem B169_13 {v0 : pO} {o1 : Nat} {x2 : Int32} {x3 : Int32} {s0 : Int64} {hp : pH} : dn pg 169 13 [v0, some (.ref o1), some (.int x2), some (.int x3)] [.long s0] hp = if x3 ≤ nI 0 then dn pg 169 26 [v0, some (.ref o1), some (.int x2), some (.int x3)] [.long (lN 0), .long s0] hp else qa_l hp o1 ((((nI 21) * x2) + x3) - (nI 1)) (fun y1 => dn pg 169 26 [v0, some (.ref o1), some (.int x2), some (.int x3)] [.long y1, .long s0] hp) := by
  refine (dc_iload (a := 3) (i := 13) rfl rfl).trans ?_
  refine (dn_if (c := (fun x => decide (x ≤ 0))) (t := 25) (i := 14) rfl _).trans (q_ite ?_ ?_)
  · refine (dc_lc (x := 0) (i := 25) rfl).trans ?_
    exact rfl
  · refine (dc_aload (a := 1) (i := 15) rfl rfl).trans ?_
    refine (dc_ic (x := 21) (i := 16) rfl).trans ?_
    refine (dc_iload (a := 2) (i := 17) rfl rfl).trans ?_
    refine (dc_bin (f := (fun x y => x * y)) (i := 18) rfl _ _).trans ?_
    refine (dc_iload (a := 3) (i := 19) rfl rfl).trans ?_
    refine (dc_bin (f := (fun x y => x + y)) (i := 20) rfl _ _).trans ?_
    refine (dc_ic (x := 1) (i := 21) rfl).trans ?_
    refine (dc_bin (f := (fun x y => x - y)) (i := 22) rfl _ _).trans ?_
    refine (dn_lald (i := 23) rfl _ _).trans (congrArg (qa_l _ _ _) (funext fun y1 => ?_))
    refine (dc_goto (t := 26) (i := 24) rfl).trans ?_
    exact rfl
theorem B169_26 {v0 : pO} {v1 : pO} {v2 : pO} {v3 : pO} {s0 : Int64} {s1 : Int64} {hp : pH} : dn pg 169 26 [v0, v1, v2, v3] [.long s0, .long s1] hp = q_l (s1 + s0) hp := by
  refine (dc_lbin (f := (fun x y => x + y)) (i := 26) rfl _ _).trans ?_
  exact dc_lreturn (i := 27) rfl _
theorem B170_0 {l0 : Int64} {v1 : pO} {l2 : Int64} {v3 : pO} {v4 : pO} {v5 : pO} {v6 : pO} {v7 : pO} {v8 : pO} {v9 : pO} {v10 : pO} {hp : pH} (h4 : pm_nl v4 = true) : dn pg 170 0 [some (.long l0), v1, some (.long l2), v3, v4, v5, v6, v7, v8, v9, v10] [] hp = dn pg 170 4 [some (.long l0), v1, some (.long l2), v3, v4, some (.long l2), none, some (.long l0), none, v9, v10] [] hp := by
  refine (dc_lload (a := 2) (i := 0) rfl rfl).trans ?_
  refine (dn_lstore (a := 5) (i := 1) rfl (pm_ok_nl (Nat.le_of_ble_eq_true rfl) rfl h4) (Nat.le_of_ble_eq_true rfl) _).trans ?_
  refine (dc_lload (a := 0) (i := 2) rfl rfl).trans ?_
  refine (dn_lstore (a := 7) (i := 3) rfl (pm_ok_nl (Nat.le_of_ble_eq_true rfl) rfl nl_none) (Nat.le_of_ble_eq_true rfl) _).trans ?_
  exact rfl
theorem B170_4 {l0 : Int64} {v1 : pO} {l2 : Int64} {v3 : pO} {x4 : Int32} {l5 : Int64} {v6 : pO} {l7 : Int64} {v8 : pO} {v9 : pO} {v10 : pO} {hp : pH} (h8 : pm_nl v8 = true) : dn pg 170 4 [some (.long l0), v1, some (.long l2), v3, some (.int x4), some (.long l5), v6, some (.long l7), v8, v9, v10] [] hp = if (lg_cmp l7 (lN 0)) = nI 0 then if ¬ x4 = nI 0 then if l5 = lN 0 then none else dn pg 170 26 [some (.long l0), v1, some (.long l2), v3, some (.int x4), some (.long l5), v6, some (.long l7), v8, v9, v10] [.long (l2 / l5)] hp else if l5 = lN 0 then none else dn pg 170 26 [some (.long l0), v1, some (.long l2), v3, some (.int x4), some (.long l5), v6, some (.long l7), v8, v9, v10] [.long (l0 / l5)] hp else if l7 = lN 0 then none else dn pg 170 4 [some (.long l0), v1, some (.long l2), v3, some (.int x4), some (.long l7), none, some (.long (l5 - l5 / l7 * l7)), none, some (.long (l5 - l5 / l7 * l7)), none] [] hp := by
  refine (dc_lload (a := 7) (i := 4) rfl rfl).trans ?_
  refine (dc_lc (x := 0) (i := 5) rfl).trans ?_
  refine (dc_lcmp (i := 6) rfl _ _).trans ?_
  refine (dn_if (c := (fun x => decide (x = 0))) (t := 17) (i := 7) rfl _).trans (q_ite ?_ ?_)
  · refine (dc_iload (a := 4) (i := 17) rfl rfl).trans ?_
    refine (dn_if (c := (fun x => decide (¬ x = 0))) (t := 23) (i := 18) rfl _).trans (q_ite ?_ ?_)
    · refine (dc_lload (a := 2) (i := 23) rfl rfl).trans ?_
      refine (dc_lload (a := 5) (i := 24) rfl rfl).trans ?_
      refine (dn_ldiv (f := (fun x y => x / y)) (i := 25) rfl _ _).trans (q_ife rfl ?_)
      exact rfl
    · refine (dc_lload (a := 0) (i := 19) rfl rfl).trans ?_
      refine (dc_lload (a := 5) (i := 20) rfl rfl).trans ?_
      refine (dn_ldiv (f := (fun x y => x / y)) (i := 21) rfl _ _).trans (q_ife rfl ?_)
      refine (dc_goto (t := 26) (i := 22) rfl).trans ?_
      exact rfl
  · refine (dc_lload (a := 5) (i := 8) rfl rfl).trans ?_
    refine (dc_lload (a := 7) (i := 9) rfl rfl).trans ?_
    refine (dn_ldiv (f := (fun x y => x - x / y * y)) (i := 10) rfl _ _).trans (q_ife rfl ?_)
    refine (dn_lstore (a := 9) (i := 11) rfl (pm_ok_nl (Nat.le_of_ble_eq_true rfl) rfl h8) (Nat.le_of_ble_eq_true rfl) _).trans ?_
    refine (dc_lload (a := 7) (i := 12) rfl rfl).trans ?_
    refine (dn_lstore (a := 5) (i := 13) rfl rfl (Nat.le_of_ble_eq_true rfl) _).trans ?_
    refine (dc_lload (a := 9) (i := 14) rfl rfl).trans ?_
    refine (dn_lstore (a := 7) (i := 15) rfl (pm_ok_nl (Nat.le_of_ble_eq_true rfl) rfl nl_none) (Nat.le_of_ble_eq_true rfl) _).trans ?_
    refine (dc_goto (t := 4) (i := 16) rfl).trans ?_
    exact rfl
theorem B170_26 {v0 : pO} {v1 : pO} {v2 : pO} {v3 : pO} {v4 : pO} {v5 : pO} {v6 : pO} {v7 : pO} {v8 : pO} {v9 : pO} {v10 : pO} {s0 : Int64} {hp : pH} : dn pg 170 26 [v0, v1, v2, v3, v4, v5, v6, v7, v8, v9, v10] [.long s0] hp = q_l s0 hp := by
  exact dc_lreturn (i := 26) rfl _
theorem B171_0 {o0 : Nat} {x1 : Int32} {x2 : Int32} {x3 : Int32} {v4 : pO} {v5 : pO} {v6 : pO} {v7 : pO} {hp : pH} : dn pg 171 0 [some (.ref o0), some (.int x1), some (.int x2), some (.int x3), v4, v5, v6, v7] [] hp = qr_i (cl pg 109 [.long x1.toInt64, .long (lN 0), .long (lN 9999)] hp) (fun y1 hp1 => if y1 = nI 0 then dn pg 171 18 [some (.ref o0), some (.int x1), some (.int x2), some (.int x3), v4, v5, v6, v7] [] hp1 else qr_i (cl pg 109 [.long x2.toInt64, .long (lN 1), .long (lN 99)] hp1) (fun y2 hp2 => if y2 = nI 0 then dn pg 171 18 [some (.ref o0), some (.int x1), some (.int x2), some (.int x3), v4, v5, v6, v7] [] hp2 else qr_i (cl pg 109 [.long x3.toInt64, .long (lN 0), .long (lN 2)] hp2) (fun y3 hp3 => if ¬ y3 = nI 0 then qv hp3 o0 9 (qr_v (cl pg 127 [.ref o0] hp3) (fun hp4 => dn pg 171 26 [some (.ref o0), some (.int x1), some (.int x2), some (.int x3), some (.int x1), some (.int (nI 0)), v6, v7] [] hp4)) else dn pg 171 18 [some (.ref o0), some (.int x1), some (.int x2), some (.int x3), v4, v5, v6, v7] [] hp3))) := by
  refine (dc_iload (a := 1) (i := 0) rfl rfl).trans ?_
  refine (dc_i2l (i := 1) rfl _).trans ?_
  refine (dc_lc (x := 0) (i := 2) rfl).trans ?_
  refine (dc_lc (x := 9999) (i := 3) rfl).trans ?_
  refine (dn_cS_i (i := 4) (y := 109) (na := 3) rfl (pa_3 _ _ _ _) (Nat.le_of_ble_eq_true rfl) (Nat.le_of_ble_eq_true rfl)).trans (congrArg (qr_i _) (funext fun y1 => funext fun hp1 => ?_))
  refine (dn_if (c := (fun x => decide (x = 0))) (t := 18) (i := 5) rfl _).trans (q_ite ?_ ?_)
  · exact rfl
  · refine (dc_iload (a := 2) (i := 6) rfl rfl).trans ?_
    refine (dc_i2l (i := 7) rfl _).trans ?_
    refine (dc_lc (x := 1) (i := 8) rfl).trans ?_
    refine (dc_lc (x := 99) (i := 9) rfl).trans ?_
    refine (dn_cS_i (i := 10) (y := 109) (na := 3) rfl (pa_3 _ _ _ _) (Nat.le_of_ble_eq_true rfl) (Nat.le_of_ble_eq_true rfl)).trans (congrArg (qr_i _) (funext fun y2 => funext fun hp2 => ?_))
    refine (dn_if (c := (fun x => decide (x = 0))) (t := 18) (i := 11) rfl _).trans (q_ite ?_ ?_)
    · exact rfl
    · refine (dc_iload (a := 3) (i := 12) rfl rfl).trans ?_
      refine (dc_i2l (i := 13) rfl _).trans ?_
      refine (dc_lc (x := 0) (i := 14) rfl).trans ?_
      refine (dc_lc (x := 2) (i := 15) rfl).trans ?_
      refine (dn_cS_i (i := 16) (y := 109) (na := 3) rfl (pa_3 _ _ _ _) (Nat.le_of_ble_eq_true rfl) (Nat.le_of_ble_eq_true rfl)).trans (congrArg (qr_i _) (funext fun y3 => funext fun hp3 => ?_))
      refine (dn_if (c := (fun x => decide (¬ x = 0))) (t := 20) (i := 17) rfl _).trans (q_ite ?_ ?_)
      · refine (dc_aload (a := 0) (i := 20) rfl rfl).trans ?_
        refine (dn_cV_v (i := 21) (y := 127) (na := 1) (ci := 9) rfl (pa_1 _ _) (Nat.le_of_ble_eq_true rfl) (Nat.le_of_ble_eq_true rfl)).trans (congrArg (fun F => qv _ _ _ (qr_v _ F)) (funext fun hp4 => ?_))
        refine (dc_iload (a := 1) (i := 22) rfl rfl).trans ?_
        refine (dn_istore (a := 4) (i := 23) rfl rfl _).trans ?_
        refine (dc_ic (x := 0) (i := 24) rfl).trans ?_
        refine (dn_istore (a := 5) (i := 25) rfl rfl _).trans ?_
        exact rfl
      · exact rfl
theorem B171_18 {v0 : pO} {v1 : pO} {v2 : pO} {v3 : pO} {v4 : pO} {v5 : pO} {v6 : pO} {v7 : pO} {hp : pH} : dn pg 171 18 [v0, v1, v2, v3, v4, v5, v6, v7] [] hp = q_i (-2) hp := by
  refine (dc_ic (x := (-2)) (i := 18) rfl).trans ?_
  exact dc_ireturn (i := 19) rfl _
theorem B171_26 {o0 : Nat} {v1 : pO} {x2 : Int32} {x3 : Int32} {x4 : Int32} {x5 : Int32} {v6 : pO} {v7 : pO} {hp : pH} : dn pg 171 26 [some (.ref o0), v1, some (.int x2), some (.int x3), some (.int x4), some (.int x5), v6, v7] [] hp = if x2 ≤ x5 then if ¬ x3 = nI 0 then if ¬ x3 = (nI 1) then qv hp o0 9 (qr_i (cl pg 113 [.ref o0] hp) (fun y1 hp1 => dn pg 171 96 [some (.ref o0), v1, some (.int x2), some (.int x3), some (.int x4), some (.int x5), v6, v7] [.int y1, .ref o0] hp1)) else qg_i hp o0 9 4 (fun y2 => qr_i (cl pg 114 [.int y2] hp) (fun y3 hp2 => dn pg 171 96 [some (.ref o0), v1, some (.int x2), some (.int x3), some (.int x4), some (.int x5), v6, v7] [.int y3, .ref o0] hp2)) else qv hp o0 9 (qr_i (cl pg 144 [.ref o0, .int (nI 0)] hp) (fun y4 hp3 => dn pg 171 96 [some (.ref o0), v1, some (.int x2), some (.int x3), some (.int x4), some (.int x5), v6, v7] [.int y4, .ref o0] hp3)) else qr_i (cl pg 172 [.int (((((((lN 75) * x4.toInt64) + (lN 74)) - (((lN 75) * x4.toInt64) + (lN 74)) / (lN 65537) * (lN 65537)).toInt32) / (nI 8)) % (nI 8))] hp) (fun y5 hp4 => if ¬ y5 = (nI 6) then dn pg 171 62 [some (.ref o0), v1, some (.int x2), some (.int x3), some (.int (((((lN 75) * x4.toInt64) + (lN 74)) - (((lN 75) * x4.toInt64) + (lN 74)) / (lN 65537) * (lN 65537)).toInt32)), some (.int x5), some (.int y5), v7] [.int (((((((lN 75) * x4.toInt64) + (lN 74)) - (((lN 75) * x4.toInt64) + (lN 74)) / (lN 65537) * (lN 65537)).toInt32) / (nI 64)) % (nI 8))] hp4 else dn pg 171 62 [some (.ref o0), v1, some (.int x2), some (.int x3), some (.int (((((lN 75) * x4.toInt64) + (lN 74)) - (((lN 75) * x4.toInt64) + (lN 74)) / (lN 65537) * (lN 65537)).toInt32)), some (.int x5), some (.int y5), v7] [.int ((nI 1) + (((((((lN 75) * x4.toInt64) + (lN 74)) - (((lN 75) * x4.toInt64) + (lN 74)) / (lN 65537) * (lN 65537)).toInt32) / (nI 64)) % (nI 9)))] hp4) := by
  refine (dc_iload (a := 5) (i := 26) rfl rfl).trans ?_
  refine (dc_iload (a := 2) (i := 27) rfl rfl).trans ?_
  refine (dn_icmp (c := (fun x y => decide (y ≤ x))) (t := 80) (i := 28) rfl _ _).trans (q_ite ?_ ?_)
  · refine (dc_aload (a := 0) (i := 80) rfl rfl).trans ?_
    refine (dc_iload (a := 3) (i := 81) rfl rfl).trans ?_
    refine (dn_if (c := (fun x => decide (¬ x = 0))) (t := 87) (i := 82) rfl _).trans (q_ite ?_ ?_)
    · refine (dc_iload (a := 3) (i := 87) rfl rfl).trans ?_
      refine (dc_ic (x := 1) (i := 88) rfl).trans ?_
      refine (dn_icmp (c := (fun x y => decide (¬ x = y))) (t := 94) (i := 89) rfl _ _).trans (q_ite ?_ ?_)
      · refine (dc_aload (a := 0) (i := 94) rfl rfl).trans ?_
        refine (dn_cV_i (i := 95) (y := 113) (na := 1) (ci := 9) rfl (pa_1 _ _) (Nat.le_of_ble_eq_true rfl) (Nat.le_of_ble_eq_true rfl)).trans (congrArg (fun F => qv _ _ _ (qr_i _ F)) (funext fun y1 => funext fun hp1 => ?_))
        exact rfl
      · refine (dc_aload (a := 0) (i := 90) rfl rfl).trans ?_
        refine (dn_getI (ci := 9) (j := 4) (i := 91) rfl _).trans (congrArg (qg_i _ _ _ _) (funext fun y2 => ?_))
        refine (dn_cS_i (i := 92) (y := 114) (na := 1) rfl (pa_1 _ _) (Nat.le_of_ble_eq_true rfl) (Nat.le_of_ble_eq_true rfl)).trans (congrArg (qr_i _) (funext fun y3 => funext fun hp2 => ?_))
        refine (dc_goto (t := 96) (i := 93) rfl).trans ?_
        exact rfl
    · refine (dc_aload (a := 0) (i := 83) rfl rfl).trans ?_
      refine (dc_ic (x := 0) (i := 84) rfl).trans ?_
      refine (dn_cV_i (i := 85) (y := 144) (na := 2) (ci := 9) rfl (pa_2 _ _ _) (Nat.le_of_ble_eq_true rfl) (Nat.le_of_ble_eq_true rfl)).trans (congrArg (fun F => qv _ _ _ (qr_i _ F)) (funext fun y4 => funext fun hp3 => ?_))
      refine (dc_goto (t := 96) (i := 86) rfl).trans ?_
      exact rfl
  · refine (dc_lc (x := 75) (i := 29) rfl).trans ?_
    refine (dc_iload (a := 4) (i := 30) rfl rfl).trans ?_
    refine (dc_i2l (i := 31) rfl _).trans ?_
    refine (dc_lbin (f := (fun x y => x * y)) (i := 32) rfl _ _).trans ?_
    refine (dc_lc (x := 74) (i := 33) rfl).trans ?_
    refine (dc_lbin (f := (fun x y => x + y)) (i := 34) rfl _ _).trans ?_
    refine (dc_lc (x := 65537) (i := 35) rfl).trans ?_
    refine ((dn_ldiv (f := (fun x y => x - x / y * y)) (i := 36) rfl _ _).trans (if_neg (by decide))).trans ?_
    refine (dc_l2i (i := 37) rfl _).trans ?_
    refine (dn_istore (a := 4) (i := 38) rfl rfl _).trans ?_
    refine (dc_iload (a := 4) (i := 39) rfl rfl).trans ?_
    refine (dc_ic (x := 8) (i := 40) rfl).trans ?_
    refine ((dn_div (f := (fun x y => x / y)) (i := 41) rfl _ _).trans (if_neg (by decide))).trans ?_
    refine (dc_ic (x := 8) (i := 42) rfl).trans ?_
    refine ((dn_div (f := (fun x y => x % y)) (i := 43) rfl _ _).trans (if_neg (by decide))).trans ?_
    refine (dn_cS_i (i := 44) (y := 172) (na := 1) rfl (pa_1 _ _) (Nat.le_of_ble_eq_true rfl) (Nat.le_of_ble_eq_true rfl)).trans (congrArg (qr_i _) (funext fun y5 => funext fun hp4 => ?_))
    refine (dn_istore (a := 6) (i := 45) rfl rfl _).trans ?_
    refine (dc_iload (a := 6) (i := 46) rfl rfl).trans ?_
    refine (dc_ic (x := 6) (i := 47) rfl).trans ?_
    refine (dn_icmp (c := (fun x y => decide (¬ x = y))) (t := 57) (i := 48) rfl _ _).trans (q_ite ?_ ?_)
    · refine (dc_iload (a := 4) (i := 57) rfl rfl).trans ?_
      refine (dc_ic (x := 64) (i := 58) rfl).trans ?_
      refine ((dn_div (f := (fun x y => x / y)) (i := 59) rfl _ _).trans (if_neg (by decide))).trans ?_
      refine (dc_ic (x := 8) (i := 60) rfl).trans ?_
      refine ((dn_div (f := (fun x y => x % y)) (i := 61) rfl _ _).trans (if_neg (by decide))).trans ?_
      exact rfl
    · refine (dc_ic (x := 1) (i := 49) rfl).trans ?_
      refine (dc_iload (a := 4) (i := 50) rfl rfl).trans ?_
      refine (dc_ic (x := 64) (i := 51) rfl).trans ?_
      refine ((dn_div (f := (fun x y => x / y)) (i := 52) rfl _ _).trans (if_neg (by decide))).trans ?_
      refine (dc_ic (x := 9) (i := 53) rfl).trans ?_
      refine ((dn_div (f := (fun x y => x % y)) (i := 54) rfl _ _).trans (if_neg (by decide))).trans ?_
      refine (dc_bin (f := (fun x y => x + y)) (i := 55) rfl _ _).trans ?_
      refine (dc_goto (t := 62) (i := 56) rfl).trans ?_
      exact rfl
theorem B171_62 {o0 : Nat} {v1 : pO} {v2 : pO} {v3 : pO} {x4 : Int32} {v5 : pO} {x6 : Int32} {v7 : pO} {s0 : Int32} {hp : pH} : dn pg 171 62 [some (.ref o0), v1, v2, v3, some (.int x4), v5, some (.int x6), v7] [.int s0] hp = qv hp o0 9 (qr_i (cl pg 129 [.ref o0, .int x6, .int (x4 % (nI 8)), .int s0] hp) (fun y1 hp1 => if ¬ y1 = nI 0 then dn pg 171 78 [some (.ref o0), v1, v2, v3, some (.int x4), v5, some (.int x6), some (.int s0)] [] hp1 else qv hp1 o0 9 (qr_v (cl pg 133 [.ref o0, .int x6, .int (x4 % (nI 8)), .int s0] hp1) (fun hp2 => dn pg 171 78 [some (.ref o0), v1, v2, v3, some (.int x4), v5, some (.int x6), some (.int s0)] [] hp2)))) := by
  refine (dn_istore (a := 7) (i := 62) rfl rfl _).trans ?_
  refine (dc_aload (a := 0) (i := 63) rfl rfl).trans ?_
  refine (dc_iload (a := 6) (i := 64) rfl rfl).trans ?_
  refine (dc_iload (a := 4) (i := 65) rfl rfl).trans ?_
  refine (dc_ic (x := 8) (i := 66) rfl).trans ?_
  refine ((dn_div (f := (fun x y => x % y)) (i := 67) rfl _ _).trans (if_neg (by decide))).trans ?_
  refine (dc_iload (a := 7) (i := 68) rfl rfl).trans ?_
  refine (dn_cV_i (i := 69) (y := 129) (na := 4) (ci := 9) rfl (pa_4 _ _ _ _ _) (Nat.le_of_ble_eq_true rfl) (Nat.le_of_ble_eq_true rfl)).trans (congrArg (fun F => qv _ _ _ (qr_i _ F)) (funext fun y1 => funext fun hp1 => ?_))
  refine (dn_if (c := (fun x => decide (¬ x = 0))) (t := 78) (i := 70) rfl _).trans (q_ite ?_ ?_)
  · exact rfl
  · refine (dc_aload (a := 0) (i := 71) rfl rfl).trans ?_
    refine (dc_iload (a := 6) (i := 72) rfl rfl).trans ?_
    refine (dc_iload (a := 4) (i := 73) rfl rfl).trans ?_
    refine (dc_ic (x := 8) (i := 74) rfl).trans ?_
    refine ((dn_div (f := (fun x y => x % y)) (i := 75) rfl _ _).trans (if_neg (by decide))).trans ?_
    refine (dc_iload (a := 7) (i := 76) rfl rfl).trans ?_
    refine (dn_cV_v (i := 77) (y := 133) (na := 4) (ci := 9) rfl (pa_4 _ _ _ _ _) (Nat.le_of_ble_eq_true rfl) (Nat.le_of_ble_eq_true rfl)).trans (congrArg (fun F => qv _ _ _ (qr_v _ F)) (funext fun hp2 => ?_))
    exact rfl
theorem B171_78 {v0 : pO} {v1 : pO} {v2 : pO} {v3 : pO} {v4 : pO} {x5 : Int32} {v6 : pO} {v7 : pO} {hp : pH} (h4 : pm_nl v4 = true) : dn pg 171 78 [v0, v1, v2, v3, v4, some (.int x5), v6, v7] [] hp = dn pg 171 26 [v0, v1, v2, v3, v4, some (.int (x5 + nI 1)), v6, v7] [] hp := by
  refine (dn_iinc (a := 5) (d := 1) (i := 78) rfl (pm_ok_nl (Nat.le_of_ble_eq_true rfl) rfl h4) rfl).trans ?_
  refine (dc_goto (t := 26) (i := 79) rfl).trans ?_
  exact rfl
theorem B171_96 {v0 : pO} {v1 : pO} {v2 : pO} {v3 : pO} {v4 : pO} {v5 : pO} {v6 : pO} {v7 : pO} {s0 : Int32} {s1 : Nat} {hp : pH} : dn pg 171 96 [v0, v1, v2, v3, v4, v5, v6, v7] [.int s0, .ref s1] hp = qv hp s1 9 (qr_i (cl pg 139 [.ref s1, .int s0] hp) (fun y1 hp1 => q_i y1 hp1)) := by
  refine (dn_cV_i (i := 96) (y := 139) (na := 2) (ci := 9) rfl (pa_2 _ _ _) (Nat.le_of_ble_eq_true rfl) (Nat.le_of_ble_eq_true rfl)).trans (congrArg (fun F => qv _ _ _ (qr_i _ F)) (funext fun y1 => funext fun hp1 => ?_))
  exact dc_ireturn (i := 97) rfl _
theorem B172_0 {x0 : Int32} {hp : pH} : dn pg 172 0 [some (.int x0)] [] hp = if x0 = nI 0 then dn pg 172 2 [some (.int x0)] [] hp else if x0 = nI 1 then dn pg 172 2 [some (.int x0)] [] hp else if x0 = nI 2 then q_i (nI 1) hp else if x0 = nI 3 then q_i (nI 2) hp else if x0 = nI 4 then q_i (nI 3) hp else if x0 = nI 5 then q_i (nI 4) hp else if x0 = nI 6 then q_i (nI 6) hp else q_i (nI 7) hp := by
  refine (dc_iload (a := 0) (i := 0) rfl rfl).trans ?_
  refine (dn_sw2 (d := 14) (l := [(0, 2), (1, 2), (2, 4), (3, 6), (4, 8), (5, 10), (6, 12)]) (i := 1) rfl _).trans ?_
  refine q_swc ?_ ?_
  · exact rfl
  refine q_swc ?_ ?_
  · exact rfl
  refine q_swc ?_ ?_
  · refine (dc_ic (x := 1) (i := 4) rfl).trans ?_
    exact dc_ireturn (i := 5) rfl _
  refine q_swc ?_ ?_
  · refine (dc_ic (x := 2) (i := 6) rfl).trans ?_
    exact dc_ireturn (i := 7) rfl _
  refine q_swc ?_ ?_
  · refine (dc_ic (x := 3) (i := 8) rfl).trans ?_
    exact dc_ireturn (i := 9) rfl _
  refine q_swc ?_ ?_
  · refine (dc_ic (x := 4) (i := 10) rfl).trans ?_
    exact dc_ireturn (i := 11) rfl _
  refine q_swc ?_ ?_
  · refine (dc_ic (x := 6) (i := 12) rfl).trans ?_
    exact dc_ireturn (i := 13) rfl _
  refine q_swn ?_
  refine (dc_ic (x := 7) (i := 14) rfl).trans ?_
  exact dc_ireturn (i := 15) rfl _
theorem B172_2 {v0 : pO} {hp : pH} : dn pg 172 2 [v0] [] hp = q_i (nI 0) hp := by
  refine (dc_ic (x := 0) (i := 2) rfl).trans ?_
  exact dc_ireturn (i := 3) rfl _
theorem B173_0 {o0 : Nat} {x1 : Int32} {hp : pH} : dn pg 173 0 [some (.ref o0), some (.int x1)] [] hp = qr_i (cl pg 109 [.long x1.toInt64, .long (lN 0), .long (lN 1)] hp) (fun y1 hp1 => if ¬ y1 = nI 0 then qp_v hp1 o0 9 32 (.int ((nI 80) * x1)) (fun hp2 => qz (nI 1) (qp_v hp2 o0 9 33 (.int (nI 1)) (fun hp3 => qv hp3 o0 9 (qr_v (cl pg 174 [.ref o0] hp3) (fun hp4 => qg_a hp4 o0 9 31 (fun r2 => qz (nI 1) (qx_i hp4 r2 1 x1 (nI 1) (fun hp5 => q_i (nI 1) hp5)))))))) else q_i (-2) hp1) := by
  refine (dc_iload (a := 1) (i := 0) rfl rfl).trans ?_
  refine (dc_i2l (i := 1) rfl _).trans ?_
  refine (dc_lc (x := 0) (i := 2) rfl).trans ?_
  refine (dc_lc (x := 1) (i := 3) rfl).trans ?_
  refine (dn_cS_i (i := 4) (y := 109) (na := 3) rfl (pa_3 _ _ _ _) (Nat.le_of_ble_eq_true rfl) (Nat.le_of_ble_eq_true rfl)).trans (congrArg (qr_i _) (funext fun y1 => funext fun hp1 => ?_))
  refine (dn_if (c := (fun x => decide (¬ x = 0))) (t := 8) (i := 5) rfl _).trans (q_ite ?_ ?_)
  · refine (dc_aload (a := 0) (i := 8) rfl rfl).trans ?_
    refine (dc_ic (x := 80) (i := 9) rfl).trans ?_
    refine (dc_iload (a := 1) (i := 10) rfl rfl).trans ?_
    refine (dc_bin (f := (fun x y => x * y)) (i := 11) rfl _ _).trans ?_
    refine (dn_putI (ci := 9) (j := 32) (i := 12) rfl _ _).trans (congrArg (qp_v _ _ _ _ _) (funext fun hp2 => ?_))
    refine (dc_aload (a := 0) (i := 13) rfl rfl).trans ?_
    refine (dc_ic (x := 1) (i := 14) rfl).trans ?_
    refine (dn_putZ (ci := 9) (j := 33) (i := 15) rfl _ _).trans (congrArg (fun F => qz _ (qp_v _ _ _ _ _ F)) (funext fun hp3 => ?_))
    refine (dc_aload (a := 0) (i := 16) rfl rfl).trans ?_
    refine (dn_cV_v (i := 17) (y := 174) (na := 1) (ci := 9) rfl (pa_1 _ _) (Nat.le_of_ble_eq_true rfl) (Nat.le_of_ble_eq_true rfl)).trans (congrArg (fun F => qv _ _ _ (qr_v _ F)) (funext fun hp4 => ?_))
    refine (dc_aload (a := 0) (i := 18) rfl rfl).trans ?_
    refine (dn_getA (ci := 9) (j := 31) (i := 19) rfl _).trans (congrArg (qg_a _ _ _ _) (funext fun r2 => ?_))
    refine (dc_iload (a := 1) (i := 20) rfl rfl).trans ?_
    refine (dc_ic (x := 1) (i := 21) rfl).trans ?_
    refine (dn_zast (i := 22) rfl _ _ _).trans (congrArg (fun F => qz _ (qx_i _ _ _ _ _ F)) (funext fun hp5 => ?_))
    refine (dc_ic (x := 1) (i := 23) rfl).trans ?_
    exact dc_ireturn (i := 24) rfl _
  · refine (dc_ic (x := (-2)) (i := 6) rfl).trans ?_
    exact dc_ireturn (i := 7) rfl _
theorem B174_0 {o0 : Nat} {hp : pH} : dn pg 174 0 [some (.ref o0)] [] hp = qg_i hp o0 9 4 (fun y1 => qv hp o0 9 (qr_i (cl pg 175 [.ref o0, .int y1] hp) (fun y2 hp1 => qp_v hp1 o0 9 4 (.int y2) (fun hp2 => qg_i hp2 o0 9 5 (fun y3 => qv hp2 o0 9 (qr_i (cl pg 175 [.ref o0, .int y3] hp2) (fun y4 hp3 => qp_v hp3 o0 9 5 (.int y4) (fun hp4 => qg_i hp4 o0 9 6 (fun y5 => qv hp4 o0 9 (qr_i (cl pg 175 [.ref o0, .int y5] hp4) (fun y6 hp5 => qp_v hp5 o0 9 6 (.int y6) (fun hp6 => qg_i hp6 o0 9 11 (fun y7 => qv hp6 o0 9 (qr_i (cl pg 175 [.ref o0, .int y7] hp6) (fun y8 hp7 => qp_v hp7 o0 9 11 (.int y8) (fun hp8 => qg_a hp8 o0 9 0 (fun r9 => qv hp8 o0 9 (qr_v (cl pg 176 [.ref o0, .ref r9, .int (nI 8)] hp8) (fun hp9 => qg_a hp9 o0 9 1 (fun r10 => qv hp9 o0 9 (qr_v (cl pg 176 [.ref o0, .ref r10, .int (nI 8)] hp9) (fun hp10 => qg_a hp10 o0 9 2 (fun r11 => qv hp10 o0 9 (qr_v (cl pg 176 [.ref o0, .ref r11, .int (nI 8)] hp10) (fun hp11 => qg_a hp11 o0 9 3 (fun r12 => qv hp11 o0 9 (qr_v (cl pg 176 [.ref o0, .ref r12, .int (nI 8)] hp11) (fun hp12 => qg_a hp12 o0 9 7 (fun r13 => qv hp12 o0 9 (qr_v (cl pg 176 [.ref o0, .ref r13, .int (nI 6)] hp12) (fun hp13 => qg_a hp13 o0 9 8 (fun r14 => qv hp13 o0 9 (qr_v (cl pg 176 [.ref o0, .ref r14, .int (nI 6)] hp13) (fun hp14 => qg_a hp14 o0 9 9 (fun r15 => qv hp14 o0 9 (qr_v (cl pg 176 [.ref o0, .ref r15, .int (nI 8)] hp14) (fun hp15 => qg_a hp15 o0 9 10 (fun r16 => qv hp15 o0 9 (qr_v (cl pg 176 [.ref o0, .ref r16, .int (nI 8)] hp15) (fun hp16 => q_v hp16)))))))))))))))))))))))))))))))))))))))) := by
  refine (dc_aload (a := 0) (i := 0) rfl rfl).trans ?_
  refine (dc_aload (a := 0) (i := 1) rfl rfl).trans ?_
  refine (dc_aload (a := 0) (i := 2) rfl rfl).trans ?_
  refine (dn_getI (ci := 9) (j := 4) (i := 3) rfl _).trans (congrArg (qg_i _ _ _ _) (funext fun y1 => ?_))
  refine (dn_cV_i (i := 4) (y := 175) (na := 2) (ci := 9) rfl (pa_2 _ _ _) (Nat.le_of_ble_eq_true rfl) (Nat.le_of_ble_eq_true rfl)).trans (congrArg (fun F => qv _ _ _ (qr_i _ F)) (funext fun y2 => funext fun hp1 => ?_))
  refine (dn_putI (ci := 9) (j := 4) (i := 5) rfl _ _).trans (congrArg (qp_v _ _ _ _ _) (funext fun hp2 => ?_))
  refine (dc_aload (a := 0) (i := 6) rfl rfl).trans ?_
  refine (dc_aload (a := 0) (i := 7) rfl rfl).trans ?_
  refine (dc_aload (a := 0) (i := 8) rfl rfl).trans ?_
  refine (dn_getI (ci := 9) (j := 5) (i := 9) rfl _).trans (congrArg (qg_i _ _ _ _) (funext fun y3 => ?_))
  refine (dn_cV_i (i := 10) (y := 175) (na := 2) (ci := 9) rfl (pa_2 _ _ _) (Nat.le_of_ble_eq_true rfl) (Nat.le_of_ble_eq_true rfl)).trans (congrArg (fun F => qv _ _ _ (qr_i _ F)) (funext fun y4 => funext fun hp3 => ?_))
  refine (dn_putI (ci := 9) (j := 5) (i := 11) rfl _ _).trans (congrArg (qp_v _ _ _ _ _) (funext fun hp4 => ?_))
  refine (dc_aload (a := 0) (i := 12) rfl rfl).trans ?_
  refine (dc_aload (a := 0) (i := 13) rfl rfl).trans ?_
  refine (dc_aload (a := 0) (i := 14) rfl rfl).trans ?_
  refine (dn_getI (ci := 9) (j := 6) (i := 15) rfl _).trans (congrArg (qg_i _ _ _ _) (funext fun y5 => ?_))
  refine (dn_cV_i (i := 16) (y := 175) (na := 2) (ci := 9) rfl (pa_2 _ _ _) (Nat.le_of_ble_eq_true rfl) (Nat.le_of_ble_eq_true rfl)).trans (congrArg (fun F => qv _ _ _ (qr_i _ F)) (funext fun y6 => funext fun hp5 => ?_))
  refine (dn_putI (ci := 9) (j := 6) (i := 17) rfl _ _).trans (congrArg (qp_v _ _ _ _ _) (funext fun hp6 => ?_))
  refine (dc_aload (a := 0) (i := 18) rfl rfl).trans ?_
  refine (dc_aload (a := 0) (i := 19) rfl rfl).trans ?_
  refine (dc_aload (a := 0) (i := 20) rfl rfl).trans ?_
  refine (dn_getI (ci := 9) (j := 11) (i := 21) rfl _).trans (congrArg (qg_i _ _ _ _) (funext fun y7 => ?_))
  refine (dn_cV_i (i := 22) (y := 175) (na := 2) (ci := 9) rfl (pa_2 _ _ _) (Nat.le_of_ble_eq_true rfl) (Nat.le_of_ble_eq_true rfl)).trans (congrArg (fun F => qv _ _ _ (qr_i _ F)) (funext fun y8 => funext fun hp7 => ?_))
  refine (dn_putI (ci := 9) (j := 11) (i := 23) rfl _ _).trans (congrArg (qp_v _ _ _ _ _) (funext fun hp8 => ?_))
  refine (dc_aload (a := 0) (i := 24) rfl rfl).trans ?_
  refine (dc_aload (a := 0) (i := 25) rfl rfl).trans ?_
  refine (dn_getA (ci := 9) (j := 0) (i := 26) rfl _).trans (congrArg (qg_a _ _ _ _) (funext fun r9 => ?_))
  refine (dc_ic (x := 8) (i := 27) rfl).trans ?_
  refine (dn_cV_v (i := 28) (y := 176) (na := 3) (ci := 9) rfl (pa_3 _ _ _ _) (Nat.le_of_ble_eq_true rfl) (Nat.le_of_ble_eq_true rfl)).trans (congrArg (fun F => qv _ _ _ (qr_v _ F)) (funext fun hp9 => ?_))
  refine (dc_aload (a := 0) (i := 29) rfl rfl).trans ?_
  refine (dc_aload (a := 0) (i := 30) rfl rfl).trans ?_
  refine (dn_getA (ci := 9) (j := 1) (i := 31) rfl _).trans (congrArg (qg_a _ _ _ _) (funext fun r10 => ?_))
  refine (dc_ic (x := 8) (i := 32) rfl).trans ?_
  refine (dn_cV_v (i := 33) (y := 176) (na := 3) (ci := 9) rfl (pa_3 _ _ _ _) (Nat.le_of_ble_eq_true rfl) (Nat.le_of_ble_eq_true rfl)).trans (congrArg (fun F => qv _ _ _ (qr_v _ F)) (funext fun hp10 => ?_))
  refine (dc_aload (a := 0) (i := 34) rfl rfl).trans ?_
  refine (dc_aload (a := 0) (i := 35) rfl rfl).trans ?_
  refine (dn_getA (ci := 9) (j := 2) (i := 36) rfl _).trans (congrArg (qg_a _ _ _ _) (funext fun r11 => ?_))
  refine (dc_ic (x := 8) (i := 37) rfl).trans ?_
  refine (dn_cV_v (i := 38) (y := 176) (na := 3) (ci := 9) rfl (pa_3 _ _ _ _) (Nat.le_of_ble_eq_true rfl) (Nat.le_of_ble_eq_true rfl)).trans (congrArg (fun F => qv _ _ _ (qr_v _ F)) (funext fun hp11 => ?_))
  refine (dc_aload (a := 0) (i := 39) rfl rfl).trans ?_
  refine (dc_aload (a := 0) (i := 40) rfl rfl).trans ?_
  refine (dn_getA (ci := 9) (j := 3) (i := 41) rfl _).trans (congrArg (qg_a _ _ _ _) (funext fun r12 => ?_))
  refine (dc_ic (x := 8) (i := 42) rfl).trans ?_
  refine (dn_cV_v (i := 43) (y := 176) (na := 3) (ci := 9) rfl (pa_3 _ _ _ _) (Nat.le_of_ble_eq_true rfl) (Nat.le_of_ble_eq_true rfl)).trans (congrArg (fun F => qv _ _ _ (qr_v _ F)) (funext fun hp12 => ?_))
  refine (dc_aload (a := 0) (i := 44) rfl rfl).trans ?_
  refine (dc_aload (a := 0) (i := 45) rfl rfl).trans ?_
  refine (dn_getA (ci := 9) (j := 7) (i := 46) rfl _).trans (congrArg (qg_a _ _ _ _) (funext fun r13 => ?_))
  refine (dc_ic (x := 6) (i := 47) rfl).trans ?_
  refine (dn_cV_v (i := 48) (y := 176) (na := 3) (ci := 9) rfl (pa_3 _ _ _ _) (Nat.le_of_ble_eq_true rfl) (Nat.le_of_ble_eq_true rfl)).trans (congrArg (fun F => qv _ _ _ (qr_v _ F)) (funext fun hp13 => ?_))
  refine (dc_aload (a := 0) (i := 49) rfl rfl).trans ?_
  refine (dc_aload (a := 0) (i := 50) rfl rfl).trans ?_
  refine (dn_getA (ci := 9) (j := 8) (i := 51) rfl _).trans (congrArg (qg_a _ _ _ _) (funext fun r14 => ?_))
  refine (dc_ic (x := 6) (i := 52) rfl).trans ?_
  refine (dn_cV_v (i := 53) (y := 176) (na := 3) (ci := 9) rfl (pa_3 _ _ _ _) (Nat.le_of_ble_eq_true rfl) (Nat.le_of_ble_eq_true rfl)).trans (congrArg (fun F => qv _ _ _ (qr_v _ F)) (funext fun hp14 => ?_))
  refine (dc_aload (a := 0) (i := 54) rfl rfl).trans ?_
  refine (dc_aload (a := 0) (i := 55) rfl rfl).trans ?_
  refine (dn_getA (ci := 9) (j := 9) (i := 56) rfl _).trans (congrArg (qg_a _ _ _ _) (funext fun r15 => ?_))
  refine (dc_ic (x := 8) (i := 57) rfl).trans ?_
  refine (dn_cV_v (i := 58) (y := 176) (na := 3) (ci := 9) rfl (pa_3 _ _ _ _) (Nat.le_of_ble_eq_true rfl) (Nat.le_of_ble_eq_true rfl)).trans (congrArg (fun F => qv _ _ _ (qr_v _ F)) (funext fun hp15 => ?_))
  refine (dc_aload (a := 0) (i := 59) rfl rfl).trans ?_
  refine (dc_aload (a := 0) (i := 60) rfl rfl).trans ?_
  refine (dn_getA (ci := 9) (j := 10) (i := 61) rfl _).trans (congrArg (qg_a _ _ _ _) (funext fun r16 => ?_))
  refine (dc_ic (x := 8) (i := 62) rfl).trans ?_
  refine (dn_cV_v (i := 63) (y := 176) (na := 3) (ci := 9) rfl (pa_3 _ _ _ _) (Nat.le_of_ble_eq_true rfl) (Nat.le_of_ble_eq_true rfl)).trans (congrArg (fun F => qv _ _ _ (qr_v _ F)) (funext fun hp16 => ?_))
  exact dc_return (i := 64) rfl
