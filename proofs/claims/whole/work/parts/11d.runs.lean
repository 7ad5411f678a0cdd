/-! Stretches of the code as equations; printed by wip/whole/gen_dn.py. -/
theorem B70_0 {v0 : pO} {v1 : pO} {v2 : pO} {hp : pH} (h1 : pm_nl v1 = true) : dn pg 70 0 [v0, v1, v2] [] hp = dn pg 70 2 [v0, v1, some (.int (nI 0))] [] hp := by
  refine (dc_ic (x := 0) (i := 0) rfl).trans ?_
  refine (dn_istore (a := 2) (i := 1) rfl (pm_ok_nl (Nat.le_of_ble_eq_true rfl) rfl h1) _).trans ?_
  exact rfl
theorem B70_2 {o0 : Nat} {x1 : Int32} {x2 : Int32} {hp : pH} : dn pg 70 2 [some (.ref o0), some (.int x1), some (.int x2)] [] hp = if (nI 6) ≤ x2 then qz (nI 1) (q_i (nI 1) hp) else qr_i (cl pg 45 [.int x1, .int x2] hp) (fun y1 hp1 => if y1 = nI 0 then dn pg 70 23 [some (.ref o0), some (.int x1), some (.int x2)] [] hp1 else qg_a hp1 o0 0 1 (fun r2 => qa_i hp1 r2 0 x2 (fun y3 => qv hp1 o0 0 (qr_i (cl pg 71 [.ref o0, .int y3, .int x1] hp1) (fun y4 hp2 => qg_a hp2 o0 0 1 (fun r5 => qa_i hp2 r5 0 x2 (fun y6 => if y4 ≤ y6 then dn pg 70 23 [some (.ref o0), some (.int x1), some (.int x2)] [] hp2 else qz (nI 0) (q_i (nI 0) hp2)))))))) := by
  refine (dc_iload (a := 2) (i := 2) rfl rfl).trans ?_
  refine (dc_ic (x := 6) (i := 3) rfl).trans ?_
  refine (dn_icmp (c := (fun x y => decide (y ≤ x))) (t := 25) (i := 4) rfl _ _).trans (q_ite ?_ ?_)
  · refine (dc_ic (x := 1) (i := 25) rfl).trans ?_
    exact dn_zret (i := 26) rfl _
  · refine (dc_iload (a := 1) (i := 5) rfl rfl).trans ?_
    refine (dc_iload (a := 2) (i := 6) rfl rfl).trans ?_
    refine (dn_cS_i (i := 7) (y := 45) (na := 2) rfl (pa_2 _ _ _) (Nat.le_of_ble_eq_true rfl) (Nat.le_of_ble_eq_true rfl)).trans (congrArg (qr_i _) (funext fun y1 => funext fun hp1 => ?_))
    refine (dn_if (c := (fun x => decide (x = 0))) (t := 23) (i := 8) rfl _).trans (q_ite ?_ ?_)
    · exact rfl
    · refine (dc_aload (a := 0) (i := 9) rfl rfl).trans ?_
      refine (dc_aload (a := 0) (i := 10) rfl rfl).trans ?_
      refine (dn_getA (ci := 0) (j := 1) (i := 11) rfl _).trans (congrArg (qg_a _ _ _ _) (funext fun r2 => ?_))
      refine (dc_iload (a := 2) (i := 12) rfl rfl).trans ?_
      refine (dn_iald (t := 0) (i := 13) rfl _ _).trans (congrArg (qa_i _ _ _ _) (funext fun y3 => ?_))
      refine (dc_iload (a := 1) (i := 14) rfl rfl).trans ?_
      refine (dn_cV_i (i := 15) (y := 71) (na := 3) (ci := 0) rfl (pa_3 _ _ _ _) (Nat.le_of_ble_eq_true rfl) (Nat.le_of_ble_eq_true rfl)).trans (congrArg (fun F => qv _ _ _ (qr_i _ F)) (funext fun y4 => funext fun hp2 => ?_))
      refine (dc_aload (a := 0) (i := 16) rfl rfl).trans ?_
      refine (dn_getA (ci := 0) (j := 1) (i := 17) rfl _).trans (congrArg (qg_a _ _ _ _) (funext fun r5 => ?_))
      refine (dc_iload (a := 2) (i := 18) rfl rfl).trans ?_
      refine (dn_iald (t := 0) (i := 19) rfl _ _).trans (congrArg (qa_i _ _ _ _) (funext fun y6 => ?_))
      refine (dn_icmp (c := (fun x y => decide (x ≤ y))) (t := 23) (i := 20) rfl _ _).trans (q_ite ?_ ?_)
      · exact rfl
      · refine (dc_ic (x := 0) (i := 21) rfl).trans ?_
        exact dn_zret (i := 22) rfl _
theorem B70_23 {v0 : pO} {v1 : pO} {x2 : Int32} {hp : pH} (h1 : pm_nl v1 = true) : dn pg 70 23 [v0, v1, some (.int x2)] [] hp = dn pg 70 2 [v0, v1, some (.int (x2 + nI 1))] [] hp := by
  refine (dn_iinc (a := 2) (d := 1) (i := 23) rfl (pm_ok_nl (Nat.le_of_ble_eq_true rfl) rfl h1) rfl).trans ?_
  refine (dc_goto (t := 2) (i := 24) rfl).trans ?_
  exact rfl
theorem B71_0 {v0 : pO} {v1 : pO} {v2 : pO} {v3 : pO} {v4 : pO} {hp : pH} (h2 : pm_nl v2 = true) : dn pg 71 0 [v0, v1, v2, v3, v4] [] hp = dn pg 71 4 [v0, v1, v2, some (.int (nI 0)), some (.int (nI 0))] [] hp := by
  refine (dc_ic (x := 0) (i := 0) rfl).trans ?_
  refine (dn_istore (a := 3) (i := 1) rfl (pm_ok_nl (Nat.le_of_ble_eq_true rfl) rfl h2) _).trans ?_
  refine (dc_ic (x := 0) (i := 2) rfl).trans ?_
  refine (dn_istore (a := 4) (i := 3) rfl rfl _).trans ?_
  exact rfl
theorem B71_4 {o0 : Nat} {x1 : Int32} {x2 : Int32} {x3 : Int32} {x4 : Int32} {hp : pH} : dn pg 71 4 [some (.ref o0), some (.int x1), some (.int x2), some (.int x3), some (.int x4)] [] hp = if (nI 6) ≤ x4 then q_i x3 hp else qr_i (cl pg 45 [.int x2, .int x4] hp) (fun y1 hp1 => if y1 = nI 0 then dn pg 71 23 [some (.ref o0), some (.int x1), some (.int x2), some (.int x3), some (.int x4)] [.int x3] hp1 else qg_a hp1 o0 0 1 (fun r2 => qa_i hp1 r2 0 x4 (fun y3 => if x1 < y3 then dn pg 71 23 [some (.ref o0), some (.int x1), some (.int x2), some (.int x3), some (.int x4)] [.int x3] hp1 else qg_a hp1 o0 0 0 (fun r4 => qa_i hp1 r4 0 x4 (fun y5 => dn pg 71 24 [some (.ref o0), some (.int x1), some (.int x2), some (.int x3), some (.int x4)] [.int y5, .int x3] hp1))))) := by
  refine (dc_iload (a := 4) (i := 4) rfl rfl).trans ?_
  refine (dc_ic (x := 6) (i := 5) rfl).trans ?_
  refine (dn_icmp (c := (fun x y => decide (y ≤ x))) (t := 28) (i := 6) rfl _ _).trans (q_ite ?_ ?_)
  · refine (dc_iload (a := 3) (i := 28) rfl rfl).trans ?_
    exact dc_ireturn (i := 29) rfl _
  · refine (dc_iload (a := 3) (i := 7) rfl rfl).trans ?_
    refine (dc_iload (a := 2) (i := 8) rfl rfl).trans ?_
    refine (dc_iload (a := 4) (i := 9) rfl rfl).trans ?_
    refine (dn_cS_i (i := 10) (y := 45) (na := 2) rfl (pa_2 _ _ _) (Nat.le_of_ble_eq_true rfl) (Nat.le_of_ble_eq_true rfl)).trans (congrArg (qr_i _) (funext fun y1 => funext fun hp1 => ?_))
    refine (dn_if (c := (fun x => decide (x = 0))) (t := 23) (i := 11) rfl _).trans (q_ite ?_ ?_)
    · exact rfl
    · refine (dc_aload (a := 0) (i := 12) rfl rfl).trans ?_
      refine (dn_getA (ci := 0) (j := 1) (i := 13) rfl _).trans (congrArg (qg_a _ _ _ _) (funext fun r2 => ?_))
      refine (dc_iload (a := 4) (i := 14) rfl rfl).trans ?_
      refine (dn_iald (t := 0) (i := 15) rfl _ _).trans (congrArg (qa_i _ _ _ _) (funext fun y3 => ?_))
      refine (dc_iload (a := 1) (i := 16) rfl rfl).trans ?_
      refine (dn_icmp (c := (fun x y => decide (y < x))) (t := 23) (i := 17) rfl _ _).trans (q_ite ?_ ?_)
      · exact rfl
      · refine (dc_aload (a := 0) (i := 18) rfl rfl).trans ?_
        refine (dn_getA (ci := 0) (j := 0) (i := 19) rfl _).trans (congrArg (qg_a _ _ _ _) (funext fun r4 => ?_))
        refine (dc_iload (a := 4) (i := 20) rfl rfl).trans ?_
        refine (dn_iald (t := 0) (i := 21) rfl _ _).trans (congrArg (qa_i _ _ _ _) (funext fun y5 => ?_))
        refine (dc_goto (t := 24) (i := 22) rfl).trans ?_
        exact rfl
theorem B71_23 {v0 : pO} {v1 : pO} {v2 : pO} {v3 : pO} {v4 : pO} {s0 : Int32} {hp : pH} : dn pg 71 23 [v0, v1, v2, v3, v4] [.int s0] hp = dn pg 71 24 [v0, v1, v2, v3, v4] [.int (nI 0), .int s0] hp := by
  refine (dc_ic (x := 0) (i := 23) rfl).trans ?_
  exact rfl
theorem B71_24 {v0 : pO} {v1 : pO} {v2 : pO} {v3 : pO} {x4 : Int32} {s0 : Int32} {s1 : Int32} {hp : pH} (h2 : pm_nl v2 = true) : dn pg 71 24 [v0, v1, v2, v3, some (.int x4)] [.int s0, .int s1] hp = dn pg 71 4 [v0, v1, v2, some (.int (s1 + s0)), some (.int (x4 + nI 1))] [] hp := by
  refine (dc_bin (f := (fun x y => x + y)) (i := 24) rfl _ _).trans ?_
  refine (dn_istore (a := 3) (i := 25) rfl (pm_ok_nl (Nat.le_of_ble_eq_true rfl) rfl h2) _).trans ?_
  refine (dn_iinc (a := 4) (d := 1) (i := 26) rfl rfl rfl).trans ?_
  refine (dc_goto (t := 4) (i := 27) rfl).trans ?_
  exact rfl
theorem B72_0 {o0 : Nat} {x1 : Int32} {x2 : Int32} {x3 : Int32} {x4 : Int32} {x5 : Int32} {hp : pH} : dn pg 72 0 [some (.ref o0), some (.int x1), some (.int x2), some (.int x3), some (.int x4), some (.int x5)] [] hp = qr_i (cl pg 11 [.int x1, .int (nI 1), .int (nI 20)] hp) (fun y1 hp1 => if y1 = nI 0 then dn pg 72 25 [some (.ref o0), some (.int x1), some (.int x2), some (.int x3), some (.int x4), some (.int x5)] [] hp1 else qr_i (cl pg 11 [.int x2, .int (nI 1), .int (nI 20)] hp1) (fun y2 hp2 => if y2 = nI 0 then dn pg 72 25 [some (.ref o0), some (.int x1), some (.int x2), some (.int x3), some (.int x4), some (.int x5)] [] hp2 else qr_i (cl pg 11 [.int x3, .int (nI 1), .int (nI 20)] hp2) (fun y3 hp3 => if y3 = nI 0 then dn pg 72 25 [some (.ref o0), some (.int x1), some (.int x2), some (.int x3), some (.int x4), some (.int x5)] [] hp3 else qr_i (cl pg 11 [.int x4, .int (nI 0), .int (nI 200)] hp3) (fun y4 hp4 => if y4 = nI 0 then dn pg 72 25 [some (.ref o0), some (.int x1), some (.int x2), some (.int x3), some (.int x4), some (.int x5)] [] hp4 else qr_i (cl pg 11 [.int x5, .int (nI 0), .int (nI 2)] hp4) (fun y5 hp5 => if ¬ y5 = nI 0 then qg_a hp5 o0 8 7 (fun r6 => qv hp5 r6 5 (qr_v (cl pg 73 [.ref r6, .int x1, .int x2, .int x3] hp5) (fun hp6 => if ¬ x5 = nI 0 then if ¬ x5 = (nI 1) then qg_a hp6 o0 8 7 (fun r7 => qv hp6 r7 5 (qr_i (cl pg 77 [.ref r7] hp6) (fun y8 hp7 => dn pg 72 51 [some (.ref o0), some (.int x1), some (.int x2), some (.int x3), some (.int x4), some (.int x5)] [.int y8] hp7))) else qg_a hp6 o0 8 7 (fun r9 => qv hp6 r9 5 (qr_i (cl pg 76 [.ref r9, .int x4] hp6) (fun y10 hp8 => dn pg 72 51 [some (.ref o0), some (.int x1), some (.int x2), some (.int x3), some (.int x4), some (.int x5)] [.int y10] hp8))) else qg_a hp6 o0 8 7 (fun r11 => qv hp6 r11 5 (qr_i (cl pg 74 [.ref r11, .int x4] hp6) (fun y12 hp9 => q_i y12 hp9)))))) else dn pg 72 25 [some (.ref o0), some (.int x1), some (.int x2), some (.int x3), some (.int x4), some (.int x5)] [] hp5))))) := by
  refine (dc_iload (a := 1) (i := 0) rfl rfl).trans ?_
  refine (dc_ic (x := 1) (i := 1) rfl).trans ?_
  refine (dc_ic (x := 20) (i := 2) rfl).trans ?_
  refine (dn_cS_i (i := 3) (y := 11) (na := 3) rfl (pa_3 _ _ _ _) (Nat.le_of_ble_eq_true rfl) (Nat.le_of_ble_eq_true rfl)).trans (congrArg (qr_i _) (funext fun y1 => funext fun hp1 => ?_))
  refine (dn_if (c := (fun x => decide (x = 0))) (t := 25) (i := 4) rfl _).trans (q_ite ?_ ?_)
  · exact rfl
  · refine (dc_iload (a := 2) (i := 5) rfl rfl).trans ?_
    refine (dc_ic (x := 1) (i := 6) rfl).trans ?_
    refine (dc_ic (x := 20) (i := 7) rfl).trans ?_
    refine (dn_cS_i (i := 8) (y := 11) (na := 3) rfl (pa_3 _ _ _ _) (Nat.le_of_ble_eq_true rfl) (Nat.le_of_ble_eq_true rfl)).trans (congrArg (qr_i _) (funext fun y2 => funext fun hp2 => ?_))
    refine (dn_if (c := (fun x => decide (x = 0))) (t := 25) (i := 9) rfl _).trans (q_ite ?_ ?_)
    · exact rfl
    · refine (dc_iload (a := 3) (i := 10) rfl rfl).trans ?_
      refine (dc_ic (x := 1) (i := 11) rfl).trans ?_
      refine (dc_ic (x := 20) (i := 12) rfl).trans ?_
      refine (dn_cS_i (i := 13) (y := 11) (na := 3) rfl (pa_3 _ _ _ _) (Nat.le_of_ble_eq_true rfl) (Nat.le_of_ble_eq_true rfl)).trans (congrArg (qr_i _) (funext fun y3 => funext fun hp3 => ?_))
      refine (dn_if (c := (fun x => decide (x = 0))) (t := 25) (i := 14) rfl _).trans (q_ite ?_ ?_)
      · exact rfl
      · refine (dc_iload (a := 4) (i := 15) rfl rfl).trans ?_
        refine (dc_ic (x := 0) (i := 16) rfl).trans ?_
        refine (dc_ic (x := 200) (i := 17) rfl).trans ?_
        refine (dn_cS_i (i := 18) (y := 11) (na := 3) rfl (pa_3 _ _ _ _) (Nat.le_of_ble_eq_true rfl) (Nat.le_of_ble_eq_true rfl)).trans (congrArg (qr_i _) (funext fun y4 => funext fun hp4 => ?_))
        refine (dn_if (c := (fun x => decide (x = 0))) (t := 25) (i := 19) rfl _).trans (q_ite ?_ ?_)
        · exact rfl
        · refine (dc_iload (a := 5) (i := 20) rfl rfl).trans ?_
          refine (dc_ic (x := 0) (i := 21) rfl).trans ?_
          refine (dc_ic (x := 2) (i := 22) rfl).trans ?_
          refine (dn_cS_i (i := 23) (y := 11) (na := 3) rfl (pa_3 _ _ _ _) (Nat.le_of_ble_eq_true rfl) (Nat.le_of_ble_eq_true rfl)).trans (congrArg (qr_i _) (funext fun y5 => funext fun hp5 => ?_))
          refine (dn_if (c := (fun x => decide (¬ x = 0))) (t := 27) (i := 24) rfl _).trans (q_ite ?_ ?_)
          · refine (dc_aload (a := 0) (i := 27) rfl rfl).trans ?_
            refine (dn_getA (ci := 8) (j := 7) (i := 28) rfl _).trans (congrArg (qg_a _ _ _ _) (funext fun r6 => ?_))
            refine (dc_iload (a := 1) (i := 29) rfl rfl).trans ?_
            refine (dc_iload (a := 2) (i := 30) rfl rfl).trans ?_
            refine (dc_iload (a := 3) (i := 31) rfl rfl).trans ?_
            refine (dn_cV_v (i := 32) (y := 73) (na := 4) (ci := 5) rfl (pa_4 _ _ _ _ _) (Nat.le_of_ble_eq_true rfl) (Nat.le_of_ble_eq_true rfl)).trans (congrArg (fun F => qv _ _ _ (qr_v _ F)) (funext fun hp6 => ?_))
            refine (dc_iload (a := 5) (i := 33) rfl rfl).trans ?_
            refine (dn_if (c := (fun x => decide (¬ x = 0))) (t := 40) (i := 34) rfl _).trans (q_ite ?_ ?_)
            · refine (dc_iload (a := 5) (i := 40) rfl rfl).trans ?_
              refine (dc_ic (x := 1) (i := 41) rfl).trans ?_
              refine (dn_icmp (c := (fun x y => decide (¬ x = y))) (t := 48) (i := 42) rfl _ _).trans (q_ite ?_ ?_)
              · refine (dc_aload (a := 0) (i := 48) rfl rfl).trans ?_
                refine (dn_getA (ci := 8) (j := 7) (i := 49) rfl _).trans (congrArg (qg_a _ _ _ _) (funext fun r7 => ?_))
                refine (dn_cV_i (i := 50) (y := 77) (na := 1) (ci := 5) rfl (pa_1 _ _) (Nat.le_of_ble_eq_true rfl) (Nat.le_of_ble_eq_true rfl)).trans (congrArg (fun F => qv _ _ _ (qr_i _ F)) (funext fun y8 => funext fun hp7 => ?_))
                exact rfl
              · refine (dc_aload (a := 0) (i := 43) rfl rfl).trans ?_
                refine (dn_getA (ci := 8) (j := 7) (i := 44) rfl _).trans (congrArg (qg_a _ _ _ _) (funext fun r9 => ?_))
                refine (dc_iload (a := 4) (i := 45) rfl rfl).trans ?_
                refine (dn_cV_i (i := 46) (y := 76) (na := 2) (ci := 5) rfl (pa_2 _ _ _) (Nat.le_of_ble_eq_true rfl) (Nat.le_of_ble_eq_true rfl)).trans (congrArg (fun F => qv _ _ _ (qr_i _ F)) (funext fun y10 => funext fun hp8 => ?_))
                refine (dc_goto (t := 51) (i := 47) rfl).trans ?_
                exact rfl
            · refine (dc_aload (a := 0) (i := 35) rfl rfl).trans ?_
              refine (dn_getA (ci := 8) (j := 7) (i := 36) rfl _).trans (congrArg (qg_a _ _ _ _) (funext fun r11 => ?_))
              refine (dc_iload (a := 4) (i := 37) rfl rfl).trans ?_
              refine (dn_cV_i (i := 38) (y := 74) (na := 2) (ci := 5) rfl (pa_2 _ _ _) (Nat.le_of_ble_eq_true rfl) (Nat.le_of_ble_eq_true rfl)).trans (congrArg (fun F => qv _ _ _ (qr_i _ F)) (funext fun y12 => funext fun hp9 => ?_))
              exact dc_ireturn (i := 39) rfl _
          · exact rfl
theorem B72_25 {v0 : pO} {v1 : pO} {v2 : pO} {v3 : pO} {v4 : pO} {v5 : pO} {hp : pH} : dn pg 72 25 [v0, v1, v2, v3, v4, v5] [] hp = q_i (-2) hp := by
  refine (dc_ic (x := (-2)) (i := 25) rfl).trans ?_
  exact dc_ireturn (i := 26) rfl _
theorem B72_51 {v0 : pO} {v1 : pO} {v2 : pO} {v3 : pO} {v4 : pO} {v5 : pO} {s0 : Int32} {hp : pH} : dn pg 72 51 [v0, v1, v2, v3, v4, v5] [.int s0] hp = q_i s0 hp := by
  exact dc_ireturn (i := 51) rfl _
theorem B73_0 {o0 : Nat} {x1 : Int32} {x2 : Int32} {x3 : Int32} {hp : pH} : dn pg 73 0 [some (.ref o0), some (.int x1), some (.int x2), some (.int x3)] [] hp = qg_a hp o0 5 0 (fun r1 => qx_i hp r1 0 (nI 0) x1 (fun hp1 => qg_a hp1 o0 5 0 (fun r2 => qx_i hp1 r2 0 (nI 1) x2 (fun hp2 => qg_a hp2 o0 5 0 (fun r3 => qx_i hp2 r3 0 (nI 2) x3 (fun hp3 => q_v hp3)))))) := by
  refine (dc_aload (a := 0) (i := 0) rfl rfl).trans ?_
  refine (dn_getA (ci := 5) (j := 0) (i := 1) rfl _).trans (congrArg (qg_a _ _ _ _) (funext fun r1 => ?_))
  refine (dc_ic (x := 0) (i := 2) rfl).trans ?_
  refine (dc_iload (a := 1) (i := 3) rfl rfl).trans ?_
  refine (dn_iast (i := 4) rfl _ _ _).trans (congrArg (qx_i _ _ _ _ _) (funext fun hp1 => ?_))
  refine (dc_aload (a := 0) (i := 5) rfl rfl).trans ?_
  refine (dn_getA (ci := 5) (j := 0) (i := 6) rfl _).trans (congrArg (qg_a _ _ _ _) (funext fun r2 => ?_))
  refine (dc_ic (x := 1) (i := 7) rfl).trans ?_
  refine (dc_iload (a := 2) (i := 8) rfl rfl).trans ?_
  refine (dn_iast (i := 9) rfl _ _ _).trans (congrArg (qx_i _ _ _ _ _) (funext fun hp2 => ?_))
  refine (dc_aload (a := 0) (i := 10) rfl rfl).trans ?_
  refine (dn_getA (ci := 5) (j := 0) (i := 11) rfl _).trans (congrArg (qg_a _ _ _ _) (funext fun r3 => ?_))
  refine (dc_ic (x := 2) (i := 12) rfl).trans ?_
  refine (dc_iload (a := 3) (i := 13) rfl rfl).trans ?_
  refine (dn_iast (i := 14) rfl _ _ _).trans (congrArg (qx_i _ _ _ _ _) (funext fun hp3 => ?_))
  exact dc_return (i := 15) rfl
theorem B74_0 {o0 : Nat} {x1 : Int32} {hp : pH} : dn pg 74 0 [some (.ref o0), some (.int x1)] [] hp = qv hp o0 5 (qr_v (cl pg 75 [.ref o0, .int x1] hp) (fun hp1 => qr_i (cl pg 11 [.int x1, .int (nI 0), .int (nI 400)] hp1) (fun y1 hp2 => if y1 = nI 0 then dn pg 74 14 [some (.ref o0), some (.int x1)] [.int (-6)] hp2 else qg_a hp2 o0 5 1 (fun r2 => qa_i hp2 r2 0 x1 (fun y3 => dn pg 74 14 [some (.ref o0), some (.int x1)] [.int y3] hp2))))) := by
  refine (dc_aload (a := 0) (i := 0) rfl rfl).trans ?_
  refine (dc_iload (a := 1) (i := 1) rfl rfl).trans ?_
  refine (dn_cV_v (i := 2) (y := 75) (na := 2) (ci := 5) rfl (pa_2 _ _ _) (Nat.le_of_ble_eq_true rfl) (Nat.le_of_ble_eq_true rfl)).trans (congrArg (fun F => qv _ _ _ (qr_v _ F)) (funext fun hp1 => ?_))
  refine (dc_iload (a := 1) (i := 3) rfl rfl).trans ?_
  refine (dc_ic (x := 0) (i := 4) rfl).trans ?_
  refine (dc_ic (x := 400) (i := 5) rfl).trans ?_
  refine (dn_cS_i (i := 6) (y := 11) (na := 3) rfl (pa_3 _ _ _ _) (Nat.le_of_ble_eq_true rfl) (Nat.le_of_ble_eq_true rfl)).trans (congrArg (qr_i _) (funext fun y1 => funext fun hp2 => ?_))
  refine (dn_if (c := (fun x => decide (x = 0))) (t := 13) (i := 7) rfl _).trans (q_ite ?_ ?_)
  · refine (dc_ic (x := (-6)) (i := 13) rfl).trans ?_
    exact rfl
  · refine (dc_aload (a := 0) (i := 8) rfl rfl).trans ?_
    refine (dn_getA (ci := 5) (j := 1) (i := 9) rfl _).trans (congrArg (qg_a _ _ _ _) (funext fun r2 => ?_))
    refine (dc_iload (a := 1) (i := 10) rfl rfl).trans ?_
    refine (dn_iald (t := 0) (i := 11) rfl _ _).trans (congrArg (qa_i _ _ _ _) (funext fun y3 => ?_))
    refine (dc_goto (t := 14) (i := 12) rfl).trans ?_
    exact rfl
theorem B74_14 {v0 : pO} {v1 : pO} {s0 : Int32} {hp : pH} : dn pg 74 14 [v0, v1] [.int s0] hp = q_i s0 hp := by
  exact dc_ireturn (i := 14) rfl _
theorem B75_0 {o0 : Nat} {v1 : pO} {v2 : pO} {v3 : pO} {v4 : pO} {v5 : pO} {v6 : pO} {v7 : pO} {hp : pH} (h1 : pm_nl v1 = true) : dn pg 75 0 [some (.ref o0), v1, v2, v3, v4, v5, v6, v7] [] hp = qg_a hp o0 5 1 (fun r1 => qx_i hp r1 0 (nI 0) (nI 0) (fun hp1 => dn pg 75 7 [some (.ref o0), v1, some (.int (nI 1)), v3, v4, v5, v6, v7] [] hp1)) := by
  refine (dc_aload (a := 0) (i := 0) rfl rfl).trans ?_
  refine (dn_getA (ci := 5) (j := 1) (i := 1) rfl _).trans (congrArg (qg_a _ _ _ _) (funext fun r1 => ?_))
  refine (dc_ic (x := 0) (i := 2) rfl).trans ?_
  refine (dc_ic (x := 0) (i := 3) rfl).trans ?_
  refine (dn_iast (i := 4) rfl _ _ _).trans (congrArg (qx_i _ _ _ _ _) (funext fun hp1 => ?_))
  refine (dc_ic (x := 1) (i := 5) rfl).trans ?_
  refine (dn_istore (a := 2) (i := 6) rfl (pm_ok_nl (Nat.le_of_ble_eq_true rfl) rfl h1) _).trans ?_
  exact rfl
theorem B75_7 {o0 : Nat} {x1 : Int32} {x2 : Int32} {v3 : pO} {v4 : pO} {v5 : pO} {v6 : pO} {v7 : pO} {hp : pH} : dn pg 75 7 [some (.ref o0), some (.int x1), some (.int x2), v3, v4, v5, v6, v7] [] hp = if x1 < x2 then dn pg 75 75 [some (.ref o0), some (.int x1), some (.int x2), v3, v4, v5, v6, v7] [] hp else if (nI 401) ≤ x2 then dn pg 75 75 [some (.ref o0), some (.int x1), some (.int x2), v3, v4, v5, v6, v7] [] hp else qg_a hp o0 5 1 (fun r1 => qx_i hp r1 0 x2 (-6) (fun hp1 => qg_a hp1 o0 5 0 (fun r2 => qn_a hp1 r2 0 (fun y3 => dn pg 75 26 [some (.ref o0), some (.int x1), some (.int x2), some (.ref r2), some (.int y3), some (.int (nI 0)), v6, v7] [] hp1)))) := by
  refine (dc_iload (a := 2) (i := 7) rfl rfl).trans ?_
  refine (dc_iload (a := 1) (i := 8) rfl rfl).trans ?_
  refine (dn_icmp (c := (fun x y => decide (y < x))) (t := 75) (i := 9) rfl _ _).trans (q_ite ?_ ?_)
  · exact rfl
  · refine (dc_iload (a := 2) (i := 10) rfl rfl).trans ?_
    refine (dc_ic (x := 401) (i := 11) rfl).trans ?_
    refine (dn_icmp (c := (fun x y => decide (y ≤ x))) (t := 75) (i := 12) rfl _ _).trans (q_ite ?_ ?_)
    · exact rfl
    · refine (dc_aload (a := 0) (i := 13) rfl rfl).trans ?_
      refine (dn_getA (ci := 5) (j := 1) (i := 14) rfl _).trans (congrArg (qg_a _ _ _ _) (funext fun r1 => ?_))
      refine (dc_iload (a := 2) (i := 15) rfl rfl).trans ?_
      refine (dc_ic (x := (-6)) (i := 16) rfl).trans ?_
      refine (dn_iast (i := 17) rfl _ _ _).trans (congrArg (qx_i _ _ _ _ _) (funext fun hp1 => ?_))
      refine (dc_aload (a := 0) (i := 18) rfl rfl).trans ?_
      refine (dn_getA (ci := 5) (j := 0) (i := 19) rfl _).trans (congrArg (qg_a _ _ _ _) (funext fun r2 => ?_))
      refine (dn_astore (a := 3) (i := 20) rfl rfl _).trans ?_
      refine (dc_aload (a := 3) (i := 21) rfl rfl).trans ?_
      refine (dn_alen (t := 0) (i := 22) rfl _).trans (congrArg (qn_a _ _ _) (funext fun y3 => ?_))
      refine (dn_istore (a := 4) (i := 23) rfl rfl _).trans ?_
      refine (dc_ic (x := 0) (i := 24) rfl).trans ?_
      refine (dn_istore (a := 5) (i := 25) rfl rfl _).trans ?_
      exact rfl
theorem B75_26 {o0 : Nat} {v1 : pO} {x2 : Int32} {o3 : Nat} {x4 : Int32} {x5 : Int32} {v6 : pO} {v7 : pO} {hp : pH} (h1 : pm_nl v1 = true) : dn pg 75 26 [some (.ref o0), v1, some (.int x2), some (.ref o3), some (.int x4), some (.int x5), v6, v7] [] hp = if x4 ≤ x5 then dn pg 75 7 [some (.ref o0), v1, some (.int (x2 + nI 1)), some (.ref o3), some (.int x4), some (.int x5), v6, v7] [] hp else qa_i hp o3 0 x5 (fun y1 => if x2 < y1 then dn pg 75 45 [some (.ref o0), v1, some (.int x2), some (.ref o3), some (.int x4), some (.int x5), some (.int y1), v7] [] hp else if y1 ≤ nI 0 then dn pg 75 45 [some (.ref o0), v1, some (.int x2), some (.ref o3), some (.int x4), some (.int x5), some (.int y1), v7] [] hp else qg_a hp o0 5 1 (fun r2 => qa_i hp r2 0 (x2 - y1) (fun y3 => dn pg 75 46 [some (.ref o0), v1, some (.int x2), some (.ref o3), some (.int x4), some (.int x5), some (.int y1), v7] [.int y3] hp))) := by
  refine (dc_iload (a := 5) (i := 26) rfl rfl).trans ?_
  refine (dc_iload (a := 4) (i := 27) rfl rfl).trans ?_
  refine (dn_icmp (c := (fun x y => decide (y ≤ x))) (t := 73) (i := 28) rfl _ _).trans (q_ite ?_ ?_)
  · refine (dn_iinc (a := 2) (d := 1) (i := 73) rfl (pm_ok_nl (Nat.le_of_ble_eq_true rfl) rfl h1) rfl).trans ?_
    refine (dc_goto (t := 7) (i := 74) rfl).trans ?_
    exact rfl
  · refine (dc_aload (a := 3) (i := 29) rfl rfl).trans ?_
    refine (dc_iload (a := 5) (i := 30) rfl rfl).trans ?_
    refine (dn_iald (t := 0) (i := 31) rfl _ _).trans (congrArg (qa_i _ _ _ _) (funext fun y1 => ?_))
    refine (dn_istore (a := 6) (i := 32) rfl rfl _).trans ?_
    refine (dc_iload (a := 2) (i := 33) rfl rfl).trans ?_
    refine (dc_iload (a := 6) (i := 34) rfl rfl).trans ?_
    refine (dn_icmp (c := (fun x y => decide (x < y))) (t := 45) (i := 35) rfl _ _).trans (q_ite ?_ ?_)
    · exact rfl
    · refine (dc_iload (a := 6) (i := 36) rfl rfl).trans ?_
      refine (dn_if (c := (fun x => decide (x ≤ 0))) (t := 45) (i := 37) rfl _).trans (q_ite ?_ ?_)
      · exact rfl
      · refine (dc_aload (a := 0) (i := 38) rfl rfl).trans ?_
        refine (dn_getA (ci := 5) (j := 1) (i := 39) rfl _).trans (congrArg (qg_a _ _ _ _) (funext fun r2 => ?_))
        refine (dc_iload (a := 2) (i := 40) rfl rfl).trans ?_
        refine (dc_iload (a := 6) (i := 41) rfl rfl).trans ?_
        refine (dc_bin (f := (fun x y => x - y)) (i := 42) rfl _ _).trans ?_
        refine (dn_iald (t := 0) (i := 43) rfl _ _).trans (congrArg (qa_i _ _ _ _) (funext fun y3 => ?_))
        refine (dc_goto (t := 46) (i := 44) rfl).trans ?_
        exact rfl
theorem B75_45 {v0 : pO} {v1 : pO} {v2 : pO} {v3 : pO} {v4 : pO} {v5 : pO} {v6 : pO} {v7 : pO} {hp : pH} : dn pg 75 45 [v0, v1, v2, v3, v4, v5, v6, v7] [] hp = dn pg 75 46 [v0, v1, v2, v3, v4, v5, v6, v7] [.int (-6)] hp := by
  refine (dc_ic (x := (-6)) (i := 45) rfl).trans ?_
  exact rfl
theorem B75_46 {o0 : Nat} {v1 : pO} {x2 : Int32} {v3 : pO} {v4 : pO} {v5 : pO} {v6 : pO} {v7 : pO} {s0 : Int32} {hp : pH} (h6 : pm_nl v6 = true) : dn pg 75 46 [some (.ref o0), v1, some (.int x2), v3, v4, v5, v6, v7] [.int s0] hp = if s0 = (-6) then dn pg 75 71 [some (.ref o0), v1, some (.int x2), v3, v4, v5, v6, some (.int s0)] [] hp else qg_a hp o0 5 1 (fun r1 => qa_i hp r1 0 x2 (fun y2 => if y2 = (-6) then dn pg 75 64 [some (.ref o0), v1, some (.int x2), v3, v4, v5, v6, some (.int s0)] [] hp else qg_a hp o0 5 1 (fun r3 => qa_i hp r3 0 x2 (fun y4 => if y4 ≤ (s0 + (nI 1)) then dn pg 75 71 [some (.ref o0), v1, some (.int x2), v3, v4, v5, v6, some (.int s0)] [] hp else dn pg 75 64 [some (.ref o0), v1, some (.int x2), v3, v4, v5, v6, some (.int s0)] [] hp)))) := by
  refine (dn_istore (a := 7) (i := 46) rfl (pm_ok_nl (Nat.le_of_ble_eq_true rfl) rfl h6) _).trans ?_
  refine (dc_iload (a := 7) (i := 47) rfl rfl).trans ?_
  refine (dc_ic (x := (-6)) (i := 48) rfl).trans ?_
  refine (dn_icmp (c := (fun x y => decide (x = y))) (t := 71) (i := 49) rfl _ _).trans (q_ite ?_ ?_)
  · exact rfl
  · refine (dc_aload (a := 0) (i := 50) rfl rfl).trans ?_
    refine (dn_getA (ci := 5) (j := 1) (i := 51) rfl _).trans (congrArg (qg_a _ _ _ _) (funext fun r1 => ?_))
    refine (dc_iload (a := 2) (i := 52) rfl rfl).trans ?_
    refine (dn_iald (t := 0) (i := 53) rfl _ _).trans (congrArg (qa_i _ _ _ _) (funext fun y2 => ?_))
    refine (dc_ic (x := (-6)) (i := 54) rfl).trans ?_
    refine (dn_icmp (c := (fun x y => decide (x = y))) (t := 64) (i := 55) rfl _ _).trans (q_ite ?_ ?_)
    · exact rfl
    · refine (dc_iload (a := 7) (i := 56) rfl rfl).trans ?_
      refine (dc_ic (x := 1) (i := 57) rfl).trans ?_
      refine (dc_bin (f := (fun x y => x + y)) (i := 58) rfl _ _).trans ?_
      refine (dc_aload (a := 0) (i := 59) rfl rfl).trans ?_
      refine (dn_getA (ci := 5) (j := 1) (i := 60) rfl _).trans (congrArg (qg_a _ _ _ _) (funext fun r3 => ?_))
      refine (dc_iload (a := 2) (i := 61) rfl rfl).trans ?_
      refine (dn_iald (t := 0) (i := 62) rfl _ _).trans (congrArg (qa_i _ _ _ _) (funext fun y4 => ?_))
      refine (dn_icmp (c := (fun x y => decide (y ≤ x))) (t := 71) (i := 63) rfl _ _).trans (q_ite ?_ ?_)
      · exact rfl
      · exact rfl
theorem B75_64 {o0 : Nat} {v1 : pO} {x2 : Int32} {v3 : pO} {v4 : pO} {v5 : pO} {v6 : pO} {x7 : Int32} {hp : pH} : dn pg 75 64 [some (.ref o0), v1, some (.int x2), v3, v4, v5, v6, some (.int x7)] [] hp = qg_a hp o0 5 1 (fun r1 => qx_i hp r1 0 x2 (x7 + (nI 1)) (fun hp1 => dn pg 75 71 [some (.ref o0), v1, some (.int x2), v3, v4, v5, v6, some (.int x7)] [] hp1)) := by
  refine (dc_aload (a := 0) (i := 64) rfl rfl).trans ?_
  refine (dn_getA (ci := 5) (j := 1) (i := 65) rfl _).trans (congrArg (qg_a _ _ _ _) (funext fun r1 => ?_))
  refine (dc_iload (a := 2) (i := 66) rfl rfl).trans ?_
  refine (dc_iload (a := 7) (i := 67) rfl rfl).trans ?_
  refine (dc_ic (x := 1) (i := 68) rfl).trans ?_
  refine (dc_bin (f := (fun x y => x + y)) (i := 69) rfl _ _).trans ?_
  refine (dn_iast (i := 70) rfl _ _ _).trans (congrArg (qx_i _ _ _ _ _) (funext fun hp1 => ?_))
  exact rfl
theorem B75_71 {v0 : pO} {v1 : pO} {v2 : pO} {v3 : pO} {v4 : pO} {x5 : Int32} {v6 : pO} {v7 : pO} {hp : pH} (h4 : pm_nl v4 = true) : dn pg 75 71 [v0, v1, v2, v3, v4, some (.int x5), v6, v7] [] hp = dn pg 75 26 [v0, v1, v2, v3, v4, some (.int (x5 + nI 1)), v6, v7] [] hp := by
  refine (dn_iinc (a := 5) (d := 1) (i := 71) rfl (pm_ok_nl (Nat.le_of_ble_eq_true rfl) rfl h4) rfl).trans ?_
  refine (dc_goto (t := 26) (i := 72) rfl).trans ?_
  exact rfl
theorem B75_75 {v0 : pO} {v1 : pO} {v2 : pO} {v3 : pO} {v4 : pO} {v5 : pO} {v6 : pO} {v7 : pO} {hp : pH} : dn pg 75 75 [v0, v1, v2, v3, v4, v5, v6, v7] [] hp = q_v hp := by
  exact dc_return (i := 75) rfl
theorem B76_0 {v0 : pO} {v1 : pO} {v2 : pO} {v3 : pO} {v4 : pO} {v5 : pO} {v6 : pO} {hp : pH} (h1 : pm_nl v1 = true) : dn pg 76 0 [v0, v1, v2, v3, v4, v5, v6] [] hp = dn pg 76 2 [v0, v1, some (.int (nI 0)), v3, v4, v5, v6] [] hp := by
  refine (dc_ic (x := 0) (i := 0) rfl).trans ?_
  refine (dn_istore (a := 2) (i := 1) rfl (pm_ok_nl (Nat.le_of_ble_eq_true rfl) rfl h1) _).trans ?_
  exact rfl
theorem B76_2 {o0 : Nat} {v1 : pO} {x2 : Int32} {v3 : pO} {v4 : pO} {v5 : pO} {v6 : pO} {hp : pH} (h1 : pm_nl v1 = true) : dn pg 76 2 [some (.ref o0), v1, some (.int x2), v3, v4, v5, v6] [] hp = if (nI 401) ≤ x2 then qg_a hp o0 5 0 (fun r1 => qn_a hp r1 0 (fun y2 => dn pg 76 24 [some (.ref o0), v1, some (.ref r1), some (.int y2), some (.int (nI 0)), v5, v6] [] hp)) else qg_a hp o0 5 1 (fun r3 => if ¬ x2 = nI 0 then dn pg 76 13 [some (.ref o0), v1, some (.int x2), v3, v4, v5, v6] [.int (nI 0), .int x2, .ref r3] hp else dn pg 76 13 [some (.ref o0), v1, some (.int x2), v3, v4, v5, v6] [.int (nI 1), .int x2, .ref r3] hp) := by
  refine (dc_iload (a := 2) (i := 2) rfl rfl).trans ?_
  refine (dc_ic (x := 401) (i := 3) rfl).trans ?_
  refine (dn_icmp (c := (fun x y => decide (y ≤ x))) (t := 16) (i := 4) rfl _ _).trans (q_ite ?_ ?_)
  · refine (dc_aload (a := 0) (i := 16) rfl rfl).trans ?_
    refine (dn_getA (ci := 5) (j := 0) (i := 17) rfl _).trans (congrArg (qg_a _ _ _ _) (funext fun r1 => ?_))
    refine (dn_astore (a := 2) (i := 18) rfl (pm_ok_nl (Nat.le_of_ble_eq_true rfl) rfl h1) _).trans ?_
    refine (dc_aload (a := 2) (i := 19) rfl rfl).trans ?_
    refine (dn_alen (t := 0) (i := 20) rfl _).trans (congrArg (qn_a _ _ _) (funext fun y2 => ?_))
    refine (dn_istore (a := 3) (i := 21) rfl rfl _).trans ?_
    refine (dc_ic (x := 0) (i := 22) rfl).trans ?_
    refine (dn_istore (a := 4) (i := 23) rfl rfl _).trans ?_
    exact rfl
  · refine (dc_aload (a := 0) (i := 5) rfl rfl).trans ?_
    refine (dn_getA (ci := 5) (j := 1) (i := 6) rfl _).trans (congrArg (qg_a _ _ _ _) (funext fun r3 => ?_))
    refine (dc_iload (a := 2) (i := 7) rfl rfl).trans ?_
    refine (dc_iload (a := 2) (i := 8) rfl rfl).trans ?_
    refine (dn_if (c := (fun x => decide (¬ x = 0))) (t := 12) (i := 9) rfl _).trans (q_ite ?_ ?_)
    · refine (dc_ic (x := 0) (i := 12) rfl).trans ?_
      exact rfl
    · refine (dc_ic (x := 1) (i := 10) rfl).trans ?_
      refine (dc_goto (t := 13) (i := 11) rfl).trans ?_
      exact rfl
theorem B76_13 {v0 : pO} {v1 : pO} {x2 : Int32} {v3 : pO} {v4 : pO} {v5 : pO} {v6 : pO} {s0 : Int32} {s1 : Int32} {s2 : Nat} {hp : pH} (h1 : pm_nl v1 = true) : dn pg 76 13 [v0, v1, some (.int x2), v3, v4, v5, v6] [.int s0, .int s1, .ref s2] hp = qx_i hp s2 0 s1 s0 (fun hp1 => dn pg 76 2 [v0, v1, some (.int (x2 + nI 1)), v3, v4, v5, v6] [] hp1) := by
  refine (dn_iast (i := 13) rfl _ _ _).trans (congrArg (qx_i _ _ _ _ _) (funext fun hp1 => ?_))
  refine (dn_iinc (a := 2) (d := 1) (i := 14) rfl (pm_ok_nl (Nat.le_of_ble_eq_true rfl) rfl h1) rfl).trans ?_
  refine (dc_goto (t := 2) (i := 15) rfl).trans ?_
  exact rfl
theorem B76_24 {o0 : Nat} {x1 : Int32} {o2 : Nat} {x3 : Int32} {x4 : Int32} {v5 : pO} {v6 : pO} {hp : pH} : dn pg 76 24 [some (.ref o0), some (.int x1), some (.ref o2), some (.int x3), some (.int x4), v5, v6] [] hp = if x3 ≤ x4 then qr_i (cl pg 11 [.int x1, .int (nI 0), .int (nI 400)] hp) (fun y1 hp1 => if y1 = nI 0 then dn pg 76 69 [some (.ref o0), some (.int x1), some (.ref o2), some (.int x3), some (.int x4), v5, v6] [.int (nI 0)] hp1 else qg_a hp1 o0 5 1 (fun r2 => qa_i hp1 r2 0 x1 (fun y3 => dn pg 76 69 [some (.ref o0), some (.int x1), some (.ref o2), some (.int x3), some (.int x4), v5, v6] [.int y3] hp1))) else qa_i hp o2 0 x4 (fun y4 => dn pg 76 33 [some (.ref o0), some (.int x1), some (.ref o2), some (.int x3), some (.int x4), some (.int y4), some (.int y4)] [] hp) := by
  refine (dc_iload (a := 4) (i := 24) rfl rfl).trans ?_
  refine (dc_iload (a := 3) (i := 25) rfl rfl).trans ?_
  refine (dn_icmp (c := (fun x y => decide (y ≤ x))) (t := 58) (i := 26) rfl _ _).trans (q_ite ?_ ?_)
  · refine (dc_iload (a := 1) (i := 58) rfl rfl).trans ?_
    refine (dc_ic (x := 0) (i := 59) rfl).trans ?_
    refine (dc_ic (x := 400) (i := 60) rfl).trans ?_
    refine (dn_cS_i (i := 61) (y := 11) (na := 3) rfl (pa_3 _ _ _ _) (Nat.le_of_ble_eq_true rfl) (Nat.le_of_ble_eq_true rfl)).trans (congrArg (qr_i _) (funext fun y1 => funext fun hp1 => ?_))
    refine (dn_if (c := (fun x => decide (x = 0))) (t := 68) (i := 62) rfl _).trans (q_ite ?_ ?_)
    · refine (dc_ic (x := 0) (i := 68) rfl).trans ?_
      exact rfl
    · refine (dc_aload (a := 0) (i := 63) rfl rfl).trans ?_
      refine (dn_getA (ci := 5) (j := 1) (i := 64) rfl _).trans (congrArg (qg_a _ _ _ _) (funext fun r2 => ?_))
      refine (dc_iload (a := 1) (i := 65) rfl rfl).trans ?_
      refine (dn_iald (t := 0) (i := 66) rfl _ _).trans (congrArg (qa_i _ _ _ _) (funext fun y3 => ?_))
      refine (dc_goto (t := 69) (i := 67) rfl).trans ?_
      exact rfl
  · refine (dc_aload (a := 2) (i := 27) rfl rfl).trans ?_
    refine (dc_iload (a := 4) (i := 28) rfl rfl).trans ?_
    refine (dn_iald (t := 0) (i := 29) rfl _ _).trans (congrArg (qa_i _ _ _ _) (funext fun y4 => ?_))
    refine (dn_istore (a := 5) (i := 30) rfl rfl _).trans ?_
    refine (dc_iload (a := 5) (i := 31) rfl rfl).trans ?_
    refine (dn_istore (a := 6) (i := 32) rfl rfl _).trans ?_
    exact rfl
theorem B76_33 {o0 : Nat} {x1 : Int32} {v2 : pO} {v3 : pO} {v4 : pO} {x5 : Int32} {x6 : Int32} {hp : pH} : dn pg 76 33 [some (.ref o0), some (.int x1), v2, v3, v4, some (.int x5), some (.int x6)] [] hp = if x5 ≤ nI 0 then dn pg 76 56 [some (.ref o0), some (.int x1), v2, v3, v4, some (.int x5), some (.int x6)] [] hp else if x1 < x6 then dn pg 76 56 [some (.ref o0), some (.int x1), v2, v3, v4, some (.int x5), some (.int x6)] [] hp else if (nI 401) ≤ x6 then dn pg 76 56 [some (.ref o0), some (.int x1), v2, v3, v4, some (.int x5), some (.int x6)] [] hp else qg_a hp o0 5 1 (fun r1 => qa_i hp r1 0 x6 (fun y2 => qg_a hp o0 5 1 (fun r3 => qa_i hp r3 0 (x6 - x5) (fun y4 => qx_i hp r1 0 x6 (y2 + y4) (fun hp1 => dn pg 76 33 [some (.ref o0), some (.int x1), v2, v3, v4, some (.int x5), some (.int (x6 + nI 1))] [] hp1))))) := by
  refine (dc_iload (a := 5) (i := 33) rfl rfl).trans ?_
  refine (dn_if (c := (fun x => decide (x ≤ 0))) (t := 56) (i := 34) rfl _).trans (q_ite ?_ ?_)
  · exact rfl
  · refine (dc_iload (a := 6) (i := 35) rfl rfl).trans ?_
    refine (dc_iload (a := 1) (i := 36) rfl rfl).trans ?_
    refine (dn_icmp (c := (fun x y => decide (y < x))) (t := 56) (i := 37) rfl _ _).trans (q_ite ?_ ?_)
    · exact rfl
    · refine (dc_iload (a := 6) (i := 38) rfl rfl).trans ?_
      refine (dc_ic (x := 401) (i := 39) rfl).trans ?_
      refine (dn_icmp (c := (fun x y => decide (y ≤ x))) (t := 56) (i := 40) rfl _ _).trans (q_ite ?_ ?_)
      · exact rfl
      · refine (dc_aload (a := 0) (i := 41) rfl rfl).trans ?_
        refine (dn_getA (ci := 5) (j := 1) (i := 42) rfl _).trans (congrArg (qg_a _ _ _ _) (funext fun r1 => ?_))
        refine (dc_iload (a := 6) (i := 43) rfl rfl).trans ?_
        refine (dc_dup2 (i := 44) rfl _ _).trans ?_
        refine (dn_iald (t := 0) (i := 45) rfl _ _).trans (congrArg (qa_i _ _ _ _) (funext fun y2 => ?_))
        refine (dc_aload (a := 0) (i := 46) rfl rfl).trans ?_
        refine (dn_getA (ci := 5) (j := 1) (i := 47) rfl _).trans (congrArg (qg_a _ _ _ _) (funext fun r3 => ?_))
        refine (dc_iload (a := 6) (i := 48) rfl rfl).trans ?_
        refine (dc_iload (a := 5) (i := 49) rfl rfl).trans ?_
        refine (dc_bin (f := (fun x y => x - y)) (i := 50) rfl _ _).trans ?_
        refine (dn_iald (t := 0) (i := 51) rfl _ _).trans (congrArg (qa_i _ _ _ _) (funext fun y4 => ?_))
        refine (dc_bin (f := (fun x y => x + y)) (i := 52) rfl _ _).trans ?_
        refine (dn_iast (i := 53) rfl _ _ _).trans (congrArg (qx_i _ _ _ _ _) (funext fun hp1 => ?_))
        refine (dn_iinc (a := 6) (d := 1) (i := 54) rfl rfl rfl).trans ?_
        refine (dc_goto (t := 33) (i := 55) rfl).trans ?_
        exact rfl
theorem B76_56 {v0 : pO} {v1 : pO} {v2 : pO} {v3 : pO} {x4 : Int32} {v5 : pO} {v6 : pO} {hp : pH} (h3 : pm_nl v3 = true) : dn pg 76 56 [v0, v1, v2, v3, some (.int x4), v5, v6] [] hp = dn pg 76 24 [v0, v1, v2, v3, some (.int (x4 + nI 1)), v5, v6] [] hp := by
  refine (dn_iinc (a := 4) (d := 1) (i := 56) rfl (pm_ok_nl (Nat.le_of_ble_eq_true rfl) rfl h3) rfl).trans ?_
  refine (dc_goto (t := 24) (i := 57) rfl).trans ?_
  exact rfl
theorem B76_69 {v0 : pO} {v1 : pO} {v2 : pO} {v3 : pO} {v4 : pO} {v5 : pO} {v6 : pO} {s0 : Int32} {hp : pH} : dn pg 76 69 [v0, v1, v2, v3, v4, v5, v6] [.int s0] hp = q_i s0 hp := by
  exact dc_ireturn (i := 69) rfl _
theorem B77_0 {o0 : Nat} {v1 : pO} {hp : pH} : dn pg 77 0 [some (.ref o0), v1] [] hp = qv hp o0 5 (qr_i (cl pg 78 [.ref o0] hp) (fun y1 hp1 => if y1 = nI 0 then qv hp1 o0 5 (qr_v (cl pg 75 [.ref o0, .int (nI 400)] hp1) (fun hp2 => dn pg 77 10 [some (.ref o0), some (.int (nI 400))] [] hp2)) else q_i (-6) hp1)) := by
  refine (dc_aload (a := 0) (i := 0) rfl rfl).trans ?_
  refine (dn_cV_i (i := 1) (y := 78) (na := 1) (ci := 5) rfl (pa_1 _ _) (Nat.le_of_ble_eq_true rfl) (Nat.le_of_ble_eq_true rfl)).trans (congrArg (fun F => qv _ _ _ (qr_i _ F)) (funext fun y1 => funext fun hp1 => ?_))
  refine (dn_if (c := (fun x => decide (x = 0))) (t := 5) (i := 2) rfl _).trans (q_ite ?_ ?_)
  · refine (dc_aload (a := 0) (i := 5) rfl rfl).trans ?_
    refine (dc_ic (x := 400) (i := 6) rfl).trans ?_
    refine (dn_cV_v (i := 7) (y := 75) (na := 2) (ci := 5) rfl (pa_2 _ _ _) (Nat.le_of_ble_eq_true rfl) (Nat.le_of_ble_eq_true rfl)).trans (congrArg (fun F => qv _ _ _ (qr_v _ F)) (funext fun hp2 => ?_))
    refine (dc_ic (x := 400) (i := 8) rfl).trans ?_
    refine (dn_istore (a := 1) (i := 9) rfl rfl _).trans ?_
    exact rfl
  · refine (dc_ic (x := (-6)) (i := 3) rfl).trans ?_
    exact dc_ireturn (i := 4) rfl _
theorem B77_10 {o0 : Nat} {x1 : Int32} {hp : pH} : dn pg 77 10 [some (.ref o0), some (.int x1)] [] hp = if x1 ≤ nI 0 then q_i (-6) hp else qg_a hp o0 5 1 (fun r1 => qa_i hp r1 0 x1 (fun y2 => if ¬ y2 = (-6) then dn pg 77 10 [some (.ref o0), some (.int (x1 + (-1)))] [] hp else q_i x1 hp)) := by
  refine (dc_iload (a := 1) (i := 10) rfl rfl).trans ?_
  refine (dn_if (c := (fun x => decide (x ≤ 0))) (t := 22) (i := 11) rfl _).trans (q_ite ?_ ?_)
  · refine (dc_ic (x := (-6)) (i := 22) rfl).trans ?_
    exact dc_ireturn (i := 23) rfl _
  · refine (dc_aload (a := 0) (i := 12) rfl rfl).trans ?_
    refine (dn_getA (ci := 5) (j := 1) (i := 13) rfl _).trans (congrArg (qg_a _ _ _ _) (funext fun r1 => ?_))
    refine (dc_iload (a := 1) (i := 14) rfl rfl).trans ?_
    refine (dn_iald (t := 0) (i := 15) rfl _ _).trans (congrArg (qa_i _ _ _ _) (funext fun y2 => ?_))
    refine (dc_ic (x := (-6)) (i := 16) rfl).trans ?_
    refine (dn_icmp (c := (fun x y => decide (¬ x = y))) (t := 20) (i := 17) rfl _ _).trans (q_ite ?_ ?_)
    · refine (dn_iinc (a := 1) (d := (-1)) (i := 20) rfl rfl rfl).trans ?_
      refine (dc_goto (t := 10) (i := 21) rfl).trans ?_
      exact rfl
    · refine (dc_iload (a := 1) (i := 18) rfl rfl).trans ?_
      exact dc_ireturn (i := 19) rfl _
theorem B78_0 {v0 : pO} {v1 : pO} {hp : pH} (h0 : pm_nl v0 = true) : dn pg 78 0 [v0, v1] [] hp = dn pg 78 2 [v0, some (.int (nI 2))] [] hp := by
  refine (dc_ic (x := 2) (i := 0) rfl).trans ?_
  refine (dn_istore (a := 1) (i := 1) rfl (pm_ok_nl (Nat.le_of_ble_eq_true rfl) rfl h0) _).trans ?_
  exact rfl
theorem B78_2 {o0 : Nat} {x1 : Int32} {hp : pH} : dn pg 78 2 [some (.ref o0), some (.int x1)] [] hp = if (nI 20) < x1 then qz (nI 0) (q_i (nI 0) hp) else qg_a hp o0 5 0 (fun r1 => qa_i hp r1 0 (nI 0) (fun y2 => if x1 = nI 0 then none else if ¬ (y2 % x1) = nI 0 then dn pg 78 28 [some (.ref o0), some (.int x1)] [] hp else qg_a hp o0 5 0 (fun r3 => qa_i hp r3 0 (nI 1) (fun y4 => if x1 = nI 0 then none else if ¬ (y4 % x1) = nI 0 then dn pg 78 28 [some (.ref o0), some (.int x1)] [] hp else qg_a hp o0 5 0 (fun r5 => qa_i hp r5 0 (nI 2) (fun y6 => if x1 = nI 0 then none else if ¬ (y6 % x1) = nI 0 then dn pg 78 28 [some (.ref o0), some (.int x1)] [] hp else qz (nI 1) (q_i (nI 1) hp))))))) := by
  refine (dc_iload (a := 1) (i := 2) rfl rfl).trans ?_
  refine (dc_ic (x := 20) (i := 3) rfl).trans ?_
  refine (dn_icmp (c := (fun x y => decide (y < x))) (t := 30) (i := 4) rfl _ _).trans (q_ite ?_ ?_)
  · refine (dc_ic (x := 0) (i := 30) rfl).trans ?_
    exact dn_zret (i := 31) rfl _
  · refine (dc_aload (a := 0) (i := 5) rfl rfl).trans ?_
    refine (dn_getA (ci := 5) (j := 0) (i := 6) rfl _).trans (congrArg (qg_a _ _ _ _) (funext fun r1 => ?_))
    refine (dc_ic (x := 0) (i := 7) rfl).trans ?_
    refine (dn_iald (t := 0) (i := 8) rfl _ _).trans (congrArg (qa_i _ _ _ _) (funext fun y2 => ?_))
    refine (dc_iload (a := 1) (i := 9) rfl rfl).trans ?_
    refine (dn_div (f := (fun x y => x % y)) (i := 10) rfl _ _).trans (q_ife rfl ?_)
    refine (dn_if (c := (fun x => decide (¬ x = 0))) (t := 28) (i := 11) rfl _).trans (q_ite ?_ ?_)
    · exact rfl
    · refine (dc_aload (a := 0) (i := 12) rfl rfl).trans ?_
      refine (dn_getA (ci := 5) (j := 0) (i := 13) rfl _).trans (congrArg (qg_a _ _ _ _) (funext fun r3 => ?_))
      refine (dc_ic (x := 1) (i := 14) rfl).trans ?_
      refine (dn_iald (t := 0) (i := 15) rfl _ _).trans (congrArg (qa_i _ _ _ _) (funext fun y4 => ?_))
      refine (dc_iload (a := 1) (i := 16) rfl rfl).trans ?_
      refine (dn_div (f := (fun x y => x % y)) (i := 17) rfl _ _).trans (q_ife rfl ?_)
      refine (dn_if (c := (fun x => decide (¬ x = 0))) (t := 28) (i := 18) rfl _).trans (q_ite ?_ ?_)
      · exact rfl
      · refine (dc_aload (a := 0) (i := 19) rfl rfl).trans ?_
        refine (dn_getA (ci := 5) (j := 0) (i := 20) rfl _).trans (congrArg (qg_a _ _ _ _) (funext fun r5 => ?_))
        refine (dc_ic (x := 2) (i := 21) rfl).trans ?_
        refine (dn_iald (t := 0) (i := 22) rfl _ _).trans (congrArg (qa_i _ _ _ _) (funext fun y6 => ?_))
        refine (dc_iload (a := 1) (i := 23) rfl rfl).trans ?_
        refine (dn_div (f := (fun x y => x % y)) (i := 24) rfl _ _).trans (q_ife rfl ?_)
        refine (dn_if (c := (fun x => decide (¬ x = 0))) (t := 28) (i := 25) rfl _).trans (q_ite ?_ ?_)
        · exact rfl
        · refine (dc_ic (x := 1) (i := 26) rfl).trans ?_
          exact dn_zret (i := 27) rfl _
theorem B78_28 {v0 : pO} {x1 : Int32} {hp : pH} (h0 : pm_nl v0 = true) : dn pg 78 28 [v0, some (.int x1)] [] hp = dn pg 78 2 [v0, some (.int (x1 + nI 1))] [] hp := by
  refine (dn_iinc (a := 1) (d := 1) (i := 28) rfl (pm_ok_nl (Nat.le_of_ble_eq_true rfl) rfl h0) rfl).trans ?_
  refine (dc_goto (t := 2) (i := 29) rfl).trans ?_
  exact rfl
theorem B79_0 {o0 : Nat} {x1 : Int32} {x2 : Int32} {hp : pH} : dn pg 79 0 [some (.ref o0), some (.int x1), some (.int x2)] [] hp = qr_i (cl pg 11 [.int x1, .int (nI 0), .int (nI 60)] hp) (fun y1 hp1 => if ¬ y1 = nI 0 then qg_a hp1 o0 8 0 (fun r2 => qg_a hp1 r2 6 2 (fun r3 => qv hp1 r3 4 (qr_i (cl pg 80 [.ref r3, .int x1, .int x2] hp1) (fun y4 hp2 => if y4 = nI 0 then dn pg 79 20 [some (.ref o0), some (.int x1), some (.int x2)] [.int (-4)] hp2 else qg_a hp2 o0 8 0 (fun r5 => qg_a hp2 r5 6 2 (fun r6 => qg_i hp2 r6 4 2 (fun y7 => dn pg 79 20 [some (.ref o0), some (.int x1), some (.int x2)] [.int y7] hp2))))))) else q_i (-2) hp1) := by
  refine (dc_iload (a := 1) (i := 0) rfl rfl).trans ?_
  refine (dc_ic (x := 0) (i := 1) rfl).trans ?_
  refine (dc_ic (x := 60) (i := 2) rfl).trans ?_
  refine (dn_cS_i (i := 3) (y := 11) (na := 3) rfl (pa_3 _ _ _ _) (Nat.le_of_ble_eq_true rfl) (Nat.le_of_ble_eq_true rfl)).trans (congrArg (qr_i _) (funext fun y1 => funext fun hp1 => ?_))
  refine (dn_if (c := (fun x => decide (¬ x = 0))) (t := 7) (i := 4) rfl _).trans (q_ite ?_ ?_)
  · refine (dc_aload (a := 0) (i := 7) rfl rfl).trans ?_
    refine (dn_getA (ci := 8) (j := 0) (i := 8) rfl _).trans (congrArg (qg_a _ _ _ _) (funext fun r2 => ?_))
    refine (dn_getA (ci := 6) (j := 2) (i := 9) rfl _).trans (congrArg (qg_a _ _ _ _) (funext fun r3 => ?_))
    refine (dc_iload (a := 1) (i := 10) rfl rfl).trans ?_
    refine (dc_iload (a := 2) (i := 11) rfl rfl).trans ?_
    refine (dn_cV_i (i := 12) (y := 80) (na := 3) (ci := 4) rfl (pa_3 _ _ _ _) (Nat.le_of_ble_eq_true rfl) (Nat.le_of_ble_eq_true rfl)).trans (congrArg (fun F => qv _ _ _ (qr_i _ F)) (funext fun y4 => funext fun hp2 => ?_))
    refine (dn_if (c := (fun x => decide (x = 0))) (t := 19) (i := 13) rfl _).trans (q_ite ?_ ?_)
    · refine (dc_ic (x := (-4)) (i := 19) rfl).trans ?_
      exact rfl
    · refine (dc_aload (a := 0) (i := 14) rfl rfl).trans ?_
      refine (dn_getA (ci := 8) (j := 0) (i := 15) rfl _).trans (congrArg (qg_a _ _ _ _) (funext fun r5 => ?_))
      refine (dn_getA (ci := 6) (j := 2) (i := 16) rfl _).trans (congrArg (qg_a _ _ _ _) (funext fun r6 => ?_))
      refine (dn_getI (ci := 4) (j := 2) (i := 17) rfl _).trans (congrArg (qg_i _ _ _ _) (funext fun y7 => ?_))
      refine (dc_goto (t := 20) (i := 18) rfl).trans ?_
      exact rfl
  · refine (dc_ic (x := (-2)) (i := 5) rfl).trans ?_
    exact dc_ireturn (i := 6) rfl _
theorem B79_20 {v0 : pO} {v1 : pO} {v2 : pO} {s0 : Int32} {hp : pH} : dn pg 79 20 [v0, v1, v2] [.int s0] hp = q_i s0 hp := by
  exact dc_ireturn (i := 20) rfl _
theorem B80_0 {o0 : Nat} {x1 : Int32} {x2 : Int32} {hp : pH} : dn pg 80 0 [some (.ref o0), some (.int x1), some (.int x2)] [] hp = qg_i hp o0 4 2 (fun y1 => qr_i (cl pg 11 [.int y1, .int (nI 0), .int (nI 7)] hp) (fun y2 hp1 => if ¬ y2 = nI 0 then qg_a hp1 o0 4 0 (fun r3 => qg_i hp1 o0 4 2 (fun y4 => qx_i hp1 r3 0 y4 x1 (fun hp2 => qg_i hp2 o0 4 1 (fun y5 => if x2 = nI 0 then dn pg 80 25 [some (.ref o0), some (.int x1), some (.int x2)] [.int (nI 0), .int y5, .ref o0] hp2 else qg_i hp2 o0 4 2 (fun y6 => dn pg 80 25 [some (.ref o0), some (.int x1), some (.int x2)] [.int ((nI 1) <<< (y6 &&& nI 31)), .int y5, .ref o0] hp2))))) else qz (nI 0) (q_i (nI 0) hp1))) := by
  refine (dc_aload (a := 0) (i := 0) rfl rfl).trans ?_
  refine (dn_getI (ci := 4) (j := 2) (i := 1) rfl _).trans (congrArg (qg_i _ _ _ _) (funext fun y1 => ?_))
  refine (dc_ic (x := 0) (i := 2) rfl).trans ?_
  refine (dc_ic (x := 7) (i := 3) rfl).trans ?_
  refine (dn_cS_i (i := 4) (y := 11) (na := 3) rfl (pa_3 _ _ _ _) (Nat.le_of_ble_eq_true rfl) (Nat.le_of_ble_eq_true rfl)).trans (congrArg (qr_i _) (funext fun y2 => funext fun hp1 => ?_))
  refine (dn_if (c := (fun x => decide (¬ x = 0))) (t := 8) (i := 5) rfl _).trans (q_ite ?_ ?_)
  · refine (dc_aload (a := 0) (i := 8) rfl rfl).trans ?_
    refine (dn_getA (ci := 4) (j := 0) (i := 9) rfl _).trans (congrArg (qg_a _ _ _ _) (funext fun r3 => ?_))
    refine (dc_aload (a := 0) (i := 10) rfl rfl).trans ?_
    refine (dn_getI (ci := 4) (j := 2) (i := 11) rfl _).trans (congrArg (qg_i _ _ _ _) (funext fun y4 => ?_))
    refine (dc_iload (a := 1) (i := 12) rfl rfl).trans ?_
    refine (dn_iast (i := 13) rfl _ _ _).trans (congrArg (qx_i _ _ _ _ _) (funext fun hp2 => ?_))
    refine (dc_aload (a := 0) (i := 14) rfl rfl).trans ?_
    refine (dc_dupA (i := 15) rfl _).trans ?_
    refine (dn_getI (ci := 4) (j := 1) (i := 16) rfl _).trans (congrArg (qg_i _ _ _ _) (funext fun y5 => ?_))
    refine (dc_iload (a := 2) (i := 17) rfl rfl).trans ?_
    refine (dn_if (c := (fun x => decide (x = 0))) (t := 24) (i := 18) rfl _).trans (q_ite ?_ ?_)
    · refine (dc_ic (x := 0) (i := 24) rfl).trans ?_
      exact rfl
    · refine (dc_ic (x := 1) (i := 19) rfl).trans ?_
      refine (dc_aload (a := 0) (i := 20) rfl rfl).trans ?_
      refine (dn_getI (ci := 4) (j := 2) (i := 21) rfl _).trans (congrArg (qg_i _ _ _ _) (funext fun y6 => ?_))
      refine (dc_bin (f := (fun x y => x <<< (y &&& 31))) (i := 22) rfl _ _).trans ?_
      refine (dc_goto (t := 25) (i := 23) rfl).trans ?_
      exact rfl
  · refine (dc_ic (x := 0) (i := 6) rfl).trans ?_
    exact dn_zret (i := 7) rfl _
theorem B80_25 {o0 : Nat} {v1 : pO} {v2 : pO} {s0 : Int32} {s1 : Int32} {s2 : Nat} {hp : pH} : dn pg 80 25 [some (.ref o0), v1, v2] [.int s0, .int s1, .ref s2] hp = qp_v hp s2 4 1 (.int (s1 ||| s0)) (fun hp1 => qg_i hp1 o0 4 2 (fun y1 => qp_v hp1 o0 4 2 (.int (y1 + (nI 1))) (fun hp2 => qz (nI 1) (q_i (nI 1) hp2)))) := by
  refine (dc_bin (f := (fun x y => x ||| y)) (i := 25) rfl _ _).trans ?_
  refine (dn_putI (ci := 4) (j := 1) (i := 26) rfl _ _).trans (congrArg (qp_v _ _ _ _ _) (funext fun hp1 => ?_))
  refine (dc_aload (a := 0) (i := 27) rfl rfl).trans ?_
  refine (dc_dupA (i := 28) rfl _).trans ?_
  refine (dn_getI (ci := 4) (j := 2) (i := 29) rfl _).trans (congrArg (qg_i _ _ _ _) (funext fun y1 => ?_))
  refine (dc_ic (x := 1) (i := 30) rfl).trans ?_
  refine (dc_bin (f := (fun x y => x + y)) (i := 31) rfl _ _).trans ?_
  refine (dn_putI (ci := 4) (j := 2) (i := 32) rfl _ _).trans (congrArg (qp_v _ _ _ _ _) (funext fun hp2 => ?_))
  refine (dc_ic (x := 1) (i := 33) rfl).trans ?_
  exact dn_zret (i := 34) rfl _
theorem B81_0 {o0 : Nat} {v1 : pO} {hp : pH} : dn pg 81 0 [some (.ref o0), v1] [] hp = qg_a hp o0 8 0 (fun r1 => qg_a hp r1 6 2 (fun r2 => qg_i hp r2 4 2 (fun y3 => qg_a hp o0 8 0 (fun r4 => qg_a hp r4 6 2 (fun r5 => qv hp r5 4 (qr_v (cl pg 82 [.ref r5] hp) (fun hp1 => q_i y3 hp1))))))) := by
  refine (dc_aload (a := 0) (i := 0) rfl rfl).trans ?_
  refine (dn_getA (ci := 8) (j := 0) (i := 1) rfl _).trans (congrArg (qg_a _ _ _ _) (funext fun r1 => ?_))
  refine (dn_getA (ci := 6) (j := 2) (i := 2) rfl _).trans (congrArg (qg_a _ _ _ _) (funext fun r2 => ?_))
  refine (dn_getI (ci := 4) (j := 2) (i := 3) rfl _).trans (congrArg (qg_i _ _ _ _) (funext fun y3 => ?_))
  refine (dn_istore (a := 1) (i := 4) rfl rfl _).trans ?_
  refine (dc_aload (a := 0) (i := 5) rfl rfl).trans ?_
  refine (dn_getA (ci := 8) (j := 0) (i := 6) rfl _).trans (congrArg (qg_a _ _ _ _) (funext fun r4 => ?_))
  refine (dn_getA (ci := 6) (j := 2) (i := 7) rfl _).trans (congrArg (qg_a _ _ _ _) (funext fun r5 => ?_))
  refine (dn_cV_v (i := 8) (y := 82) (na := 1) (ci := 4) rfl (pa_1 _ _) (Nat.le_of_ble_eq_true rfl) (Nat.le_of_ble_eq_true rfl)).trans (congrArg (fun F => qv _ _ _ (qr_v _ F)) (funext fun hp1 => ?_))
  refine (dc_iload (a := 1) (i := 9) rfl rfl).trans ?_
  exact dc_ireturn (i := 10) rfl _
theorem B82_0 {o0 : Nat} {hp : pH} : dn pg 82 0 [some (.ref o0)] [] hp = qp_v hp o0 4 1 (.int (nI 0)) (fun hp1 => qp_v hp1 o0 4 2 (.int (nI 0)) (fun hp2 => q_v hp2)) := by
  refine (dc_aload (a := 0) (i := 0) rfl rfl).trans ?_
  refine (dc_ic (x := 0) (i := 1) rfl).trans ?_
  refine (dn_putI (ci := 4) (j := 1) (i := 2) rfl _ _).trans (congrArg (qp_v _ _ _ _ _) (funext fun hp1 => ?_))
  refine (dc_aload (a := 0) (i := 3) rfl rfl).trans ?_
  refine (dc_ic (x := 0) (i := 4) rfl).trans ?_
  refine (dn_putI (ci := 4) (j := 2) (i := 5) rfl _ _).trans (congrArg (qp_v _ _ _ _ _) (funext fun hp2 => ?_))
  exact dc_return (i := 6) rfl
theorem B83_0 {o0 : Nat} {x1 : Int32} {hp : pH} : dn pg 83 0 [some (.ref o0), some (.int x1)] [] hp = if (-1) ≤ x1 then qg_a hp o0 8 6 (fun r1 => qg_a hp o0 8 0 (fun r2 => qg_a hp r2 6 2 (fun r3 => qv hp r1 3 (qr_v (cl pg 84 [.ref r1, .ref r3] hp) (fun hp1 => if ¬ x1 = (-1) then qg_a hp1 o0 8 6 (fun r4 => qv hp1 r4 3 (qr_i (cl pg 88 [.ref r4, .int x1] hp1) (fun y5 hp2 => dn pg 83 22 [some (.ref o0), some (.int x1)] [.int y5] hp2))) else qg_a hp1 o0 8 6 (fun r6 => qg_i hp1 r6 3 1 (fun y7 => dn pg 83 22 [some (.ref o0), some (.int x1)] [.int y7] hp1))))))) else q_i (-6) hp := by
  refine (dc_iload (a := 1) (i := 0) rfl rfl).trans ?_
  refine (dc_ic (x := (-1)) (i := 1) rfl).trans ?_
  refine (dn_icmp (c := (fun x y => decide (y ≤ x))) (t := 5) (i := 2) rfl _ _).trans (q_ite ?_ ?_)
  · refine (dc_aload (a := 0) (i := 5) rfl rfl).trans ?_
    refine (dn_getA (ci := 8) (j := 6) (i := 6) rfl _).trans (congrArg (qg_a _ _ _ _) (funext fun r1 => ?_))
    refine (dc_aload (a := 0) (i := 7) rfl rfl).trans ?_
    refine (dn_getA (ci := 8) (j := 0) (i := 8) rfl _).trans (congrArg (qg_a _ _ _ _) (funext fun r2 => ?_))
    refine (dn_getA (ci := 6) (j := 2) (i := 9) rfl _).trans (congrArg (qg_a _ _ _ _) (funext fun r3 => ?_))
    refine (dn_cV_v (i := 10) (y := 84) (na := 2) (ci := 3) rfl (pa_2 _ _ _) (Nat.le_of_ble_eq_true rfl) (Nat.le_of_ble_eq_true rfl)).trans (congrArg (fun F => qv _ _ _ (qr_v _ F)) (funext fun hp1 => ?_))
    refine (dc_iload (a := 1) (i := 11) rfl rfl).trans ?_
    refine (dc_ic (x := (-1)) (i := 12) rfl).trans ?_
    refine (dn_icmp (c := (fun x y => decide (¬ x = y))) (t := 18) (i := 13) rfl _ _).trans (q_ite ?_ ?_)
    · refine (dc_aload (a := 0) (i := 18) rfl rfl).trans ?_
      refine (dn_getA (ci := 8) (j := 6) (i := 19) rfl _).trans (congrArg (qg_a _ _ _ _) (funext fun r4 => ?_))
      refine (dc_iload (a := 1) (i := 20) rfl rfl).trans ?_
      refine (dn_cV_i (i := 21) (y := 88) (na := 2) (ci := 3) rfl (pa_2 _ _ _) (Nat.le_of_ble_eq_true rfl) (Nat.le_of_ble_eq_true rfl)).trans (congrArg (fun F => qv _ _ _ (qr_i _ F)) (funext fun y5 => funext fun hp2 => ?_))
      exact rfl
    · refine (dc_aload (a := 0) (i := 14) rfl rfl).trans ?_
      refine (dn_getA (ci := 8) (j := 6) (i := 15) rfl _).trans (congrArg (qg_a _ _ _ _) (funext fun r6 => ?_))
      refine (dn_getI (ci := 3) (j := 1) (i := 16) rfl _).trans (congrArg (qg_i _ _ _ _) (funext fun y7 => ?_))
      refine (dc_goto (t := 22) (i := 17) rfl).trans ?_
      exact rfl
  · refine (dc_ic (x := (-6)) (i := 3) rfl).trans ?_
    exact dc_ireturn (i := 4) rfl _
theorem B83_22 {v0 : pO} {v1 : pO} {s0 : Int32} {hp : pH} : dn pg 83 22 [v0, v1] [.int s0] hp = q_i s0 hp := by
  exact dc_ireturn (i := 22) rfl _
theorem B84_0 {o0 : Nat} {v1 : pO} {v2 : pO} {v3 : pO} {v4 : pO} {hp : pH} (h1 : pm_nl v1 = true) : dn pg 84 0 [some (.ref o0), v1, v2, v3, v4] [] hp = qp_v hp o0 3 1 (.int (nI 0)) (fun hp1 => dn pg 84 5 [some (.ref o0), v1, some (.int (nI 2)), v3, v4] [] hp1) := by
  refine (dc_aload (a := 0) (i := 0) rfl rfl).trans ?_
  refine (dc_ic (x := 0) (i := 1) rfl).trans ?_
  refine (dn_putI (ci := 3) (j := 1) (i := 2) rfl _ _).trans (congrArg (qp_v _ _ _ _ _) (funext fun hp1 => ?_))
  refine (dc_ic (x := 2) (i := 3) rfl).trans ?_
  refine (dn_istore (a := 2) (i := 4) rfl (pm_ok_nl (Nat.le_of_ble_eq_true rfl) rfl h1) _).trans ?_
  exact rfl
theorem B84_5 {v0 : pO} {v1 : pO} {x2 : Int32} {v3 : pO} {v4 : pO} {hp : pH} : dn pg 84 5 [v0, v1, some (.int x2), v3, v4] [] hp = if (nI 7) < x2 then q_v hp else dn pg 84 10 [v0, v1, some (.int x2), some (.int (nI 1)), v4] [] hp := by
  refine (dc_iload (a := 2) (i := 5) rfl rfl).trans ?_
  refine (dc_ic (x := 7) (i := 6) rfl).trans ?_
  refine (dn_icmp (c := (fun x y => decide (y < x))) (t := 36) (i := 7) rfl _ _).trans (q_ite ?_ ?_)
  · exact dc_return (i := 36) rfl
  · refine (dc_ic (x := 1) (i := 8) rfl).trans ?_
    refine (dn_istore (a := 3) (i := 9) rfl rfl _).trans ?_
    exact rfl
theorem B84_10 {v0 : pO} {v1 : pO} {x2 : Int32} {x3 : Int32} {v4 : pO} {hp : pH} (h1 : pm_nl v1 = true) : dn pg 84 10 [v0, v1, some (.int x2), some (.int x3), v4] [] hp = if x2 ≤ x3 then dn pg 84 5 [v0, v1, some (.int (x2 + nI 1)), some (.int x3), v4] [] hp else dn pg 84 15 [v0, v1, some (.int x2), some (.int x3), some (.int (nI 0))] [] hp := by
  refine (dc_iload (a := 3) (i := 10) rfl rfl).trans ?_
  refine (dc_iload (a := 2) (i := 11) rfl rfl).trans ?_
  refine (dn_icmp (c := (fun x y => decide (y ≤ x))) (t := 34) (i := 12) rfl _ _).trans (q_ite ?_ ?_)
  · refine (dn_iinc (a := 2) (d := 1) (i := 34) rfl (pm_ok_nl (Nat.le_of_ble_eq_true rfl) rfl h1) rfl).trans ?_
    refine (dc_goto (t := 5) (i := 35) rfl).trans ?_
    exact rfl
  · refine (dc_ic (x := 0) (i := 13) rfl).trans ?_
    refine (dn_istore (a := 4) (i := 14) rfl rfl _).trans ?_
    exact rfl
theorem B84_15 {o0 : Nat} {o1 : Nat} {x2 : Int32} {x3 : Int32} {x4 : Int32} {hp : pH} : dn pg 84 15 [some (.ref o0), some (.ref o1), some (.int x2), some (.int x3), some (.int x4)] [] hp = if x2 ≤ x4 then dn pg 84 10 [some (.ref o0), some (.ref o1), some (.int x2), some (.int (x3 + nI 1)), some (.int x4)] [] hp else qv hp o0 3 (qr_v (cl pg 85 [.ref o0, .int ((((nI 100) * x2) + ((nI 10) * x3)) + x4), .ref o1] hp) (fun hp1 => dn pg 84 15 [some (.ref o0), some (.ref o1), some (.int x2), some (.int x3), some (.int (x4 + nI 1))] [] hp1)) := by
  refine (dc_iload (a := 4) (i := 15) rfl rfl).trans ?_
  refine (dc_iload (a := 2) (i := 16) rfl rfl).trans ?_
  refine (dn_icmp (c := (fun x y => decide (y ≤ x))) (t := 32) (i := 17) rfl _ _).trans (q_ite ?_ ?_)
  · refine (dn_iinc (a := 3) (d := 1) (i := 32) rfl rfl rfl).trans ?_
    refine (dc_goto (t := 10) (i := 33) rfl).trans ?_
    exact rfl
  · refine (dc_aload (a := 0) (i := 18) rfl rfl).trans ?_
    refine (dc_ic (x := 100) (i := 19) rfl).trans ?_
    refine (dc_iload (a := 2) (i := 20) rfl rfl).trans ?_
    refine (dc_bin (f := (fun x y => x * y)) (i := 21) rfl _ _).trans ?_
    refine (dc_ic (x := 10) (i := 22) rfl).trans ?_
    refine (dc_iload (a := 3) (i := 23) rfl rfl).trans ?_
    refine (dc_bin (f := (fun x y => x * y)) (i := 24) rfl _ _).trans ?_
    refine (dc_bin (f := (fun x y => x + y)) (i := 25) rfl _ _).trans ?_
    refine (dc_iload (a := 4) (i := 26) rfl rfl).trans ?_
    refine (dc_bin (f := (fun x y => x + y)) (i := 27) rfl _ _).trans ?_
    refine (dc_aload (a := 1) (i := 28) rfl rfl).trans ?_
    refine (dn_cV_v (i := 29) (y := 85) (na := 3) (ci := 3) rfl (pa_3 _ _ _ _) (Nat.le_of_ble_eq_true rfl) (Nat.le_of_ble_eq_true rfl)).trans (congrArg (fun F => qv _ _ _ (qr_v _ F)) (funext fun hp1 => ?_))
    refine (dn_iinc (a := 4) (d := 1) (i := 30) rfl rfl rfl).trans ?_
    refine (dc_goto (t := 15) (i := 31) rfl).trans ?_
    exact rfl
theorem B85_0 {o0 : Nat} {x1 : Int32} {o2 : Nat} {hp : pH} : dn pg 85 0 [some (.ref o0), some (.int x1), some (.ref o2)] [] hp = qg_i hp o0 3 1 (fun y1 => qr_i (cl pg 11 [.int y1, .int (nI 0), .int (nI 111)] hp) (fun y2 hp1 => if y2 = nI 0 then dn pg 85 22 [some (.ref o0), some (.int x1), some (.ref o2)] [] hp1 else qv hp1 o2 4 (qr_i (cl pg 86 [.ref o2, .int x1] hp1) (fun y3 hp2 => if y3 = nI 0 then dn pg 85 22 [some (.ref o0), some (.int x1), some (.ref o2)] [] hp2 else qg_a hp2 o0 3 0 (fun r4 => qg_i hp2 o0 3 1 (fun y5 => qx_i hp2 r4 0 y5 x1 (fun hp3 => qg_i hp3 o0 3 1 (fun y6 => qp_v hp3 o0 3 1 (.int (y6 + (nI 1))) (fun hp4 => dn pg 85 22 [some (.ref o0), some (.int x1), some (.ref o2)] [] hp4))))))))) := by
  refine (dc_aload (a := 0) (i := 0) rfl rfl).trans ?_
  refine (dn_getI (ci := 3) (j := 1) (i := 1) rfl _).trans (congrArg (qg_i _ _ _ _) (funext fun y1 => ?_))
  refine (dc_ic (x := 0) (i := 2) rfl).trans ?_
  refine (dc_ic (x := 111) (i := 3) rfl).trans ?_
  refine (dn_cS_i (i := 4) (y := 11) (na := 3) rfl (pa_3 _ _ _ _) (Nat.le_of_ble_eq_true rfl) (Nat.le_of_ble_eq_true rfl)).trans (congrArg (qr_i _) (funext fun y2 => funext fun hp1 => ?_))
  refine (dn_if (c := (fun x => decide (x = 0))) (t := 22) (i := 5) rfl _).trans (q_ite ?_ ?_)
  · exact rfl
  · refine (dc_aload (a := 2) (i := 6) rfl rfl).trans ?_
    refine (dc_iload (a := 1) (i := 7) rfl rfl).trans ?_
    refine (dn_cV_i (i := 8) (y := 86) (na := 2) (ci := 4) rfl (pa_2 _ _ _) (Nat.le_of_ble_eq_true rfl) (Nat.le_of_ble_eq_true rfl)).trans (congrArg (fun F => qv _ _ _ (qr_i _ F)) (funext fun y3 => funext fun hp2 => ?_))
    refine (dn_if (c := (fun x => decide (x = 0))) (t := 22) (i := 9) rfl _).trans (q_ite ?_ ?_)
    · exact rfl
    · refine (dc_aload (a := 0) (i := 10) rfl rfl).trans ?_
      refine (dn_getA (ci := 3) (j := 0) (i := 11) rfl _).trans (congrArg (qg_a _ _ _ _) (funext fun r4 => ?_))
      refine (dc_aload (a := 0) (i := 12) rfl rfl).trans ?_
      refine (dn_getI (ci := 3) (j := 1) (i := 13) rfl _).trans (congrArg (qg_i _ _ _ _) (funext fun y5 => ?_))
      refine (dc_iload (a := 1) (i := 14) rfl rfl).trans ?_
      refine (dn_iast (i := 15) rfl _ _ _).trans (congrArg (qx_i _ _ _ _ _) (funext fun hp3 => ?_))
      refine (dc_aload (a := 0) (i := 16) rfl rfl).trans ?_
      refine (dc_dupA (i := 17) rfl _).trans ?_
      refine (dn_getI (ci := 3) (j := 1) (i := 18) rfl _).trans (congrArg (qg_i _ _ _ _) (funext fun y6 => ?_))
      refine (dc_ic (x := 1) (i := 19) rfl).trans ?_
      refine (dc_bin (f := (fun x y => x + y)) (i := 20) rfl _ _).trans ?_
      refine (dn_putI (ci := 3) (j := 1) (i := 21) rfl _ _).trans (congrArg (qp_v _ _ _ _ _) (funext fun hp4 => ?_))
      exact rfl
theorem B85_22 {v0 : pO} {v1 : pO} {v2 : pO} {hp : pH} : dn pg 85 22 [v0, v1, v2] [] hp = q_v hp := by
  exact dc_return (i := 22) rfl
theorem B86_0 {v0 : pO} {v1 : pO} {v2 : pO} {hp : pH} (h1 : pm_nl v1 = true) : dn pg 86 0 [v0, v1, v2] [] hp = dn pg 86 2 [v0, v1, some (.int (nI 0))] [] hp := by
  refine (dc_ic (x := 0) (i := 0) rfl).trans ?_
  refine (dn_istore (a := 2) (i := 1) rfl (pm_ok_nl (Nat.le_of_ble_eq_true rfl) rfl h1) _).trans ?_
  exact rfl
theorem B86_2 {o0 : Nat} {x1 : Int32} {x2 : Int32} {hp : pH} : dn pg 86 2 [some (.ref o0), some (.int x1), some (.int x2)] [] hp = qg_i hp o0 4 2 (fun y1 => if y1 ≤ x2 then dn pg 86 24 [some (.ref o0), some (.int x1), some (.int x2)] [] hp else if (nI 8) ≤ x2 then dn pg 86 24 [some (.ref o0), some (.int x1), some (.int x2)] [] hp else qg_a hp o0 4 0 (fun r2 => qa_i hp r2 0 x2 (fun y3 => qr_i (cl pg 87 [.int x1, .int y3] hp) (fun y4 hp1 => qg_i hp1 o0 4 1 (fun y5 => qr_i (cl pg 45 [.int y5, .int x2] hp1) (fun y6 hp2 => if y4 = y6 then dn pg 86 2 [some (.ref o0), some (.int x1), some (.int (x2 + nI 1))] [] hp2 else qz (nI 0) (q_i (nI 0) hp2))))))) := by
  refine (dc_iload (a := 2) (i := 2) rfl rfl).trans ?_
  refine (dc_aload (a := 0) (i := 3) rfl rfl).trans ?_
  refine (dn_getI (ci := 4) (j := 2) (i := 4) rfl _).trans (congrArg (qg_i _ _ _ _) (funext fun y1 => ?_))
  refine (dn_icmp (c := (fun x y => decide (y ≤ x))) (t := 24) (i := 5) rfl _ _).trans (q_ite ?_ ?_)
  · exact rfl
  · refine (dc_iload (a := 2) (i := 6) rfl rfl).trans ?_
    refine (dc_ic (x := 8) (i := 7) rfl).trans ?_
    refine (dn_icmp (c := (fun x y => decide (y ≤ x))) (t := 24) (i := 8) rfl _ _).trans (q_ite ?_ ?_)
    · exact rfl
    · refine (dc_iload (a := 1) (i := 9) rfl rfl).trans ?_
      refine (dc_aload (a := 0) (i := 10) rfl rfl).trans ?_
      refine (dn_getA (ci := 4) (j := 0) (i := 11) rfl _).trans (congrArg (qg_a _ _ _ _) (funext fun r2 => ?_))
      refine (dc_iload (a := 2) (i := 12) rfl rfl).trans ?_
      refine (dn_iald (t := 0) (i := 13) rfl _ _).trans (congrArg (qa_i _ _ _ _) (funext fun y3 => ?_))
      refine (dn_cS_i (i := 14) (y := 87) (na := 2) rfl (pa_2 _ _ _) (Nat.le_of_ble_eq_true rfl) (Nat.le_of_ble_eq_true rfl)).trans (congrArg (qr_i _) (funext fun y4 => funext fun hp1 => ?_))
      refine (dc_aload (a := 0) (i := 15) rfl rfl).trans ?_
      refine (dn_getI (ci := 4) (j := 1) (i := 16) rfl _).trans (congrArg (qg_i _ _ _ _) (funext fun y5 => ?_))
      refine (dc_iload (a := 2) (i := 17) rfl rfl).trans ?_
      refine (dn_cS_i (i := 18) (y := 45) (na := 2) rfl (pa_2 _ _ _) (Nat.le_of_ble_eq_true rfl) (Nat.le_of_ble_eq_true rfl)).trans (congrArg (qr_i _) (funext fun y6 => funext fun hp2 => ?_))
      refine (dn_icmp (c := (fun x y => decide (x = y))) (t := 22) (i := 19) rfl _ _).trans (q_ite ?_ ?_)
      · refine (dn_iinc (a := 2) (d := 1) (i := 22) rfl rfl rfl).trans ?_
        refine (dc_goto (t := 2) (i := 23) rfl).trans ?_
        exact rfl
      · refine (dc_ic (x := 0) (i := 20) rfl).trans ?_
        exact dn_zret (i := 21) rfl _
theorem B86_24 {v0 : pO} {v1 : pO} {v2 : pO} {hp : pH} : dn pg 86 24 [v0, v1, v2] [] hp = qz (nI 1) (q_i (nI 1) hp) := by
  refine (dc_ic (x := 1) (i := 24) rfl).trans ?_
  exact dn_zret (i := 25) rfl _
theorem B87_0 {x0 : Int32} {x1 : Int32} {v2 : pO} {hp : pH} : dn pg 87 0 [some (.int x0), some (.int x1), v2] [] hp = if (x0 / (nI 100)) ≤ nI 0 then dn pg 87 21 [some (.int x0), some (.int x1), some (.int (x0 / (nI 100)))] [] hp else if x0 / (nI 100) = nI 0 then none else if ((x0 / (nI 10)) % (nI 10)) ≤ ((x1 + (x0 % (nI 10))) % (x0 / (nI 100))) then dn pg 87 21 [some (.int x0), some (.int x1), some (.int (x0 / (nI 100)))] [] hp else dn pg 87 22 [some (.int x0), some (.int x1), some (.int (x0 / (nI 100)))] [.int (nI 1)] hp := by
  refine (dc_iload (a := 0) (i := 0) rfl rfl).trans ?_
  refine (dc_ic (x := 100) (i := 1) rfl).trans ?_
  refine ((dn_div (f := (fun x y => x / y)) (i := 2) rfl _ _).trans (if_neg (by decide))).trans ?_
  refine (dn_istore (a := 2) (i := 3) rfl rfl _).trans ?_
  refine (dc_iload (a := 2) (i := 4) rfl rfl).trans ?_
  refine (dn_if (c := (fun x => decide (x ≤ 0))) (t := 21) (i := 5) rfl _).trans (q_ite ?_ ?_)
  · exact rfl
  · refine (dc_iload (a := 1) (i := 6) rfl rfl).trans ?_
    refine (dc_iload (a := 0) (i := 7) rfl rfl).trans ?_
    refine (dc_ic (x := 10) (i := 8) rfl).trans ?_
    refine ((dn_div (f := (fun x y => x % y)) (i := 9) rfl _ _).trans (if_neg (by decide))).trans ?_
    refine (dc_bin (f := (fun x y => x + y)) (i := 10) rfl _ _).trans ?_
    refine (dc_iload (a := 2) (i := 11) rfl rfl).trans ?_
    refine (dn_div (f := (fun x y => x % y)) (i := 12) rfl _ _).trans (q_ife rfl ?_)
    refine (dc_iload (a := 0) (i := 13) rfl rfl).trans ?_
    refine (dc_ic (x := 10) (i := 14) rfl).trans ?_
    refine ((dn_div (f := (fun x y => x / y)) (i := 15) rfl _ _).trans (if_neg (by decide))).trans ?_
    refine (dc_ic (x := 10) (i := 16) rfl).trans ?_
    refine ((dn_div (f := (fun x y => x % y)) (i := 17) rfl _ _).trans (if_neg (by decide))).trans ?_
    refine (dn_icmp (c := (fun x y => decide (y ≤ x))) (t := 21) (i := 18) rfl _ _).trans (q_ite ?_ ?_)
    · exact rfl
    · refine (dc_ic (x := 1) (i := 19) rfl).trans ?_
      refine (dc_goto (t := 22) (i := 20) rfl).trans ?_
      exact rfl
theorem B87_21 {v0 : pO} {v1 : pO} {v2 : pO} {hp : pH} : dn pg 87 21 [v0, v1, v2] [] hp = dn pg 87 22 [v0, v1, v2] [.int (nI 0)] hp := by
  refine (dc_ic (x := 0) (i := 21) rfl).trans ?_
  exact rfl
theorem B87_22 {v0 : pO} {v1 : pO} {v2 : pO} {s0 : Int32} {hp : pH} : dn pg 87 22 [v0, v1, v2] [.int s0] hp = qz s0 (q_i s0 hp) := by
  exact dn_zret (i := 22) rfl _
theorem B88_0 {o0 : Nat} {x1 : Int32} {hp : pH} : dn pg 88 0 [some (.ref o0), some (.int x1)] [] hp = qg_i hp o0 3 1 (fun y1 => qr_i (cl pg 11 [.int x1, .int (nI 0), .int (y1 - (nI 1))] hp) (fun y2 hp1 => if y2 = nI 0 then dn pg 88 16 [some (.ref o0), some (.int x1)] [] hp1 else if (nI 112) ≤ x1 then dn pg 88 16 [some (.ref o0), some (.int x1)] [] hp1 else qg_a hp1 o0 3 0 (fun r3 => qa_i hp1 r3 0 x1 (fun y4 => dn pg 88 17 [some (.ref o0), some (.int x1)] [.int y4] hp1)))) := by
  refine (dc_iload (a := 1) (i := 0) rfl rfl).trans ?_
  refine (dc_ic (x := 0) (i := 1) rfl).trans ?_
  refine (dc_aload (a := 0) (i := 2) rfl rfl).trans ?_
  refine (dn_getI (ci := 3) (j := 1) (i := 3) rfl _).trans (congrArg (qg_i _ _ _ _) (funext fun y1 => ?_))
  refine (dc_ic (x := 1) (i := 4) rfl).trans ?_
  refine (dc_bin (f := (fun x y => x - y)) (i := 5) rfl _ _).trans ?_
  refine (dn_cS_i (i := 6) (y := 11) (na := 3) rfl (pa_3 _ _ _ _) (Nat.le_of_ble_eq_true rfl) (Nat.le_of_ble_eq_true rfl)).trans (congrArg (qr_i _) (funext fun y2 => funext fun hp1 => ?_))
  refine (dn_if (c := (fun x => decide (x = 0))) (t := 16) (i := 7) rfl _).trans (q_ite ?_ ?_)
  · exact rfl
  · refine (dc_iload (a := 1) (i := 8) rfl rfl).trans ?_
    refine (dc_ic (x := 112) (i := 9) rfl).trans ?_
    refine (dn_icmp (c := (fun x y => decide (y ≤ x))) (t := 16) (i := 10) rfl _ _).trans (q_ite ?_ ?_)
    · exact rfl
    · refine (dc_aload (a := 0) (i := 11) rfl rfl).trans ?_
      refine (dn_getA (ci := 3) (j := 0) (i := 12) rfl _).trans (congrArg (qg_a _ _ _ _) (funext fun r3 => ?_))
      refine (dc_iload (a := 1) (i := 13) rfl rfl).trans ?_
      refine (dn_iald (t := 0) (i := 14) rfl _ _).trans (congrArg (qa_i _ _ _ _) (funext fun y4 => ?_))
      refine (dc_goto (t := 17) (i := 15) rfl).trans ?_
      exact rfl
theorem B88_16 {v0 : pO} {v1 : pO} {hp : pH} : dn pg 88 16 [v0, v1] [] hp = dn pg 88 17 [v0, v1] [.int (-6)] hp := by
  refine (dc_ic (x := (-6)) (i := 16) rfl).trans ?_
  exact rfl
theorem B88_17 {v0 : pO} {v1 : pO} {s0 : Int32} {hp : pH} : dn pg 88 17 [v0, v1] [.int s0] hp = q_i s0 hp := by
  exact dc_ireturn (i := 17) rfl _
theorem B89_0 {o0 : Nat} {x1 : Int32} {v2 : pO} {hp : pH} : dn pg 89 0 [some (.ref o0), some (.int x1), v2] [] hp = qr_i (cl pg 11 [.int x1, .int (nI 0), .int (nI 1)] hp) (fun y1 hp1 => if ¬ y1 = nI 0 then qg_a hp1 o0 8 6 (fun r2 => qg_a hp1 o0 8 0 (fun r3 => qg_a hp1 r3 6 2 (fun r4 => qv hp1 r2 3 (qr_v (cl pg 84 [.ref r2, .ref r4] hp1) (fun hp2 => qg_a hp2 o0 8 6 (fun r5 => qv hp2 r5 3 (qr_i (cl pg 90 [.ref r5] hp2) (fun y6 hp3 => if x1 = nI 0 then dn pg 89 22 [some (.ref o0), some (.int x1), some (.int y6)] [] hp3 else if ¬ y6 = (-6) then qg_a hp3 o0 8 6 (fun r7 => qv hp3 r7 3 (qr_i (cl pg 91 [.ref r7, .int y6] hp3) (fun y8 hp4 => dn pg 89 28 [some (.ref o0), some (.int x1), some (.int y6)] [.int y8] hp4))) else dn pg 89 22 [some (.ref o0), some (.int x1), some (.int y6)] [] hp3)))))))) else q_i (-2) hp1) := by
  refine (dc_iload (a := 1) (i := 0) rfl rfl).trans ?_
  refine (dc_ic (x := 0) (i := 1) rfl).trans ?_
  refine (dc_ic (x := 1) (i := 2) rfl).trans ?_
  refine (dn_cS_i (i := 3) (y := 11) (na := 3) rfl (pa_3 _ _ _ _) (Nat.le_of_ble_eq_true rfl) (Nat.le_of_ble_eq_true rfl)).trans (congrArg (qr_i _) (funext fun y1 => funext fun hp1 => ?_))
  refine (dn_if (c := (fun x => decide (¬ x = 0))) (t := 7) (i := 4) rfl _).trans (q_ite ?_ ?_)
  · refine (dc_aload (a := 0) (i := 7) rfl rfl).trans ?_
    refine (dn_getA (ci := 8) (j := 6) (i := 8) rfl _).trans (congrArg (qg_a _ _ _ _) (funext fun r2 => ?_))
    refine (dc_aload (a := 0) (i := 9) rfl rfl).trans ?_
    refine (dn_getA (ci := 8) (j := 0) (i := 10) rfl _).trans (congrArg (qg_a _ _ _ _) (funext fun r3 => ?_))
    refine (dn_getA (ci := 6) (j := 2) (i := 11) rfl _).trans (congrArg (qg_a _ _ _ _) (funext fun r4 => ?_))
    refine (dn_cV_v (i := 12) (y := 84) (na := 2) (ci := 3) rfl (pa_2 _ _ _) (Nat.le_of_ble_eq_true rfl) (Nat.le_of_ble_eq_true rfl)).trans (congrArg (fun F => qv _ _ _ (qr_v _ F)) (funext fun hp2 => ?_))
    refine (dc_aload (a := 0) (i := 13) rfl rfl).trans ?_
    refine (dn_getA (ci := 8) (j := 6) (i := 14) rfl _).trans (congrArg (qg_a _ _ _ _) (funext fun r5 => ?_))
    refine (dn_cV_i (i := 15) (y := 90) (na := 1) (ci := 3) rfl (pa_1 _ _) (Nat.le_of_ble_eq_true rfl) (Nat.le_of_ble_eq_true rfl)).trans (congrArg (fun F => qv _ _ _ (qr_i _ F)) (funext fun y6 => funext fun hp3 => ?_))
    refine (dn_istore (a := 2) (i := 16) rfl rfl _).trans ?_
    refine (dc_iload (a := 1) (i := 17) rfl rfl).trans ?_
    refine (dn_if (c := (fun x => decide (x = 0))) (t := 22) (i := 18) rfl _).trans (q_ite ?_ ?_)
    · exact rfl
    · refine (dc_iload (a := 2) (i := 19) rfl rfl).trans ?_
      refine (dc_ic (x := (-6)) (i := 20) rfl).trans ?_
      refine (dn_icmp (c := (fun x y => decide (¬ x = y))) (t := 24) (i := 21) rfl _ _).trans (q_ite ?_ ?_)
      · refine (dc_aload (a := 0) (i := 24) rfl rfl).trans ?_
        refine (dn_getA (ci := 8) (j := 6) (i := 25) rfl _).trans (congrArg (qg_a _ _ _ _) (funext fun r7 => ?_))
        refine (dc_iload (a := 2) (i := 26) rfl rfl).trans ?_
        refine (dn_cV_i (i := 27) (y := 91) (na := 2) (ci := 3) rfl (pa_2 _ _ _) (Nat.le_of_ble_eq_true rfl) (Nat.le_of_ble_eq_true rfl)).trans (congrArg (fun F => qv _ _ _ (qr_i _ F)) (funext fun y8 => funext fun hp4 => ?_))
        exact rfl
      · exact rfl
  · refine (dc_ic (x := (-2)) (i := 5) rfl).trans ?_
    exact dc_ireturn (i := 6) rfl _
theorem B89_22 {v0 : pO} {v1 : pO} {x2 : Int32} {hp : pH} : dn pg 89 22 [v0, v1, some (.int x2)] [] hp = dn pg 89 28 [v0, v1, some (.int x2)] [.int x2] hp := by
  refine (dc_iload (a := 2) (i := 22) rfl rfl).trans ?_
  refine (dc_goto (t := 28) (i := 23) rfl).trans ?_
  exact rfl
theorem B89_28 {v0 : pO} {v1 : pO} {v2 : pO} {s0 : Int32} {hp : pH} : dn pg 89 28 [v0, v1, v2] [.int s0] hp = q_i s0 hp := by
  exact dc_ireturn (i := 28) rfl _
theorem B90_0 {o0 : Nat} {v1 : pO} {v2 : pO} {v3 : pO} {v4 : pO} {hp : pH} : dn pg 90 0 [some (.ref o0), v1, v2, v3, v4] [] hp = qg_i hp o0 3 1 (fun y1 => dn pg 90 7 [some (.ref o0), some (.int (-6)), some (.int y1), some (.int (nI 0)), v4] [] hp) := by
  refine (dc_ic (x := (-6)) (i := 0) rfl).trans ?_
  refine (dn_istore (a := 1) (i := 1) rfl rfl _).trans ?_
  refine (dc_aload (a := 0) (i := 2) rfl rfl).trans ?_
  refine (dn_getI (ci := 3) (j := 1) (i := 3) rfl _).trans (congrArg (qg_i _ _ _ _) (funext fun y1 => ?_))
  refine (dn_istore (a := 2) (i := 4) rfl rfl _).trans ?_
  refine (dc_ic (x := 0) (i := 5) rfl).trans ?_
  refine (dn_istore (a := 3) (i := 6) rfl rfl _).trans ?_
  exact rfl
theorem B90_7 {o0 : Nat} {x1 : Int32} {x2 : Int32} {x3 : Int32} {v4 : pO} {hp : pH} : dn pg 90 7 [some (.ref o0), some (.int x1), some (.int x2), some (.int x3), v4] [] hp = if (nI 60) < x3 then dn pg 90 29 [some (.ref o0), some (.int x1), some (.int x2), some (.int x3), v4] [] hp else qg_i hp o0 3 1 (fun y1 => if y1 ≤ nI 0 then dn pg 90 29 [some (.ref o0), some (.int x1), some (.int x2), some (.int x3), v4] [] hp else qv hp o0 3 (qr_i (cl pg 91 [.ref o0, .int x3] hp) (fun y2 hp1 => if x1 = (-6) then dn pg 90 23 [some (.ref o0), some (.int x1), some (.int x2), some (.int x3), some (.int y2)] [] hp1 else if x2 ≤ y2 then dn pg 90 27 [some (.ref o0), some (.int x1), some (.int x2), some (.int x3), some (.int y2)] [] hp1 else dn pg 90 23 [some (.ref o0), some (.int x1), some (.int x2), some (.int x3), some (.int y2)] [] hp1))) := by
  refine (dc_iload (a := 3) (i := 7) rfl rfl).trans ?_
  refine (dc_ic (x := 60) (i := 8) rfl).trans ?_
  refine (dn_icmp (c := (fun x y => decide (y < x))) (t := 29) (i := 9) rfl _ _).trans (q_ite ?_ ?_)
  · exact rfl
  · refine (dc_aload (a := 0) (i := 10) rfl rfl).trans ?_
    refine (dn_getI (ci := 3) (j := 1) (i := 11) rfl _).trans (congrArg (qg_i _ _ _ _) (funext fun y1 => ?_))
    refine (dn_if (c := (fun x => decide (x ≤ 0))) (t := 29) (i := 12) rfl _).trans (q_ite ?_ ?_)
    · exact rfl
    · refine (dc_aload (a := 0) (i := 13) rfl rfl).trans ?_
      refine (dc_iload (a := 3) (i := 14) rfl rfl).trans ?_
      refine (dn_cV_i (i := 15) (y := 91) (na := 2) (ci := 3) rfl (pa_2 _ _ _) (Nat.le_of_ble_eq_true rfl) (Nat.le_of_ble_eq_true rfl)).trans (congrArg (fun F => qv _ _ _ (qr_i _ F)) (funext fun y2 => funext fun hp1 => ?_))
      refine (dn_istore (a := 4) (i := 16) rfl rfl _).trans ?_
      refine (dc_iload (a := 1) (i := 17) rfl rfl).trans ?_
      refine (dc_ic (x := (-6)) (i := 18) rfl).trans ?_
      refine (dn_icmp (c := (fun x y => decide (x = y))) (t := 23) (i := 19) rfl _ _).trans (q_ite ?_ ?_)
      · exact rfl
      · refine (dc_iload (a := 4) (i := 20) rfl rfl).trans ?_
        refine (dc_iload (a := 2) (i := 21) rfl rfl).trans ?_
        refine (dn_icmp (c := (fun x y => decide (y ≤ x))) (t := 27) (i := 22) rfl _ _).trans (q_ite ?_ ?_)
        · exact rfl
        · exact rfl
theorem B90_23 {v0 : pO} {v1 : pO} {v2 : pO} {x3 : Int32} {x4 : Int32} {hp : pH} (h0 : pm_nl v0 = true) : dn pg 90 23 [v0, v1, v2, some (.int x3), some (.int x4)] [] hp = dn pg 90 27 [v0, some (.int x3), some (.int x4), some (.int x3), some (.int x4)] [] hp := by
  refine (dc_iload (a := 3) (i := 23) rfl rfl).trans ?_
  refine (dn_istore (a := 1) (i := 24) rfl (pm_ok_nl (Nat.le_of_ble_eq_true rfl) rfl h0) _).trans ?_
  refine (dc_iload (a := 4) (i := 25) rfl rfl).trans ?_
  refine (dn_istore (a := 2) (i := 26) rfl rfl _).trans ?_
  exact rfl
theorem B90_27 {v0 : pO} {v1 : pO} {v2 : pO} {x3 : Int32} {v4 : pO} {hp : pH} (h2 : pm_nl v2 = true) : dn pg 90 27 [v0, v1, v2, some (.int x3), v4] [] hp = dn pg 90 7 [v0, v1, v2, some (.int (x3 + nI 1)), v4] [] hp := by
  refine (dn_iinc (a := 3) (d := 1) (i := 27) rfl (pm_ok_nl (Nat.le_of_ble_eq_true rfl) rfl h2) rfl).trans ?_
  refine (dc_goto (t := 7) (i := 28) rfl).trans ?_
  exact rfl
theorem B90_29 {v0 : pO} {x1 : Int32} {v2 : pO} {v3 : pO} {v4 : pO} {hp : pH} : dn pg 90 29 [v0, some (.int x1), v2, v3, v4] [] hp = q_i x1 hp := by
  refine (dc_iload (a := 1) (i := 29) rfl rfl).trans ?_
  exact dc_ireturn (i := 30) rfl _
theorem B91_0 {v0 : pO} {v1 : pO} {v2 : pO} {v3 : pO} {hp : pH} (h1 : pm_nl v1 = true) : dn pg 91 0 [v0, v1, v2, v3] [] hp = dn pg 91 4 [v0, v1, some (.int (nI 0)), some (.int (nI 0))] [] hp := by
  refine (dc_ic (x := 0) (i := 0) rfl).trans ?_
  refine (dn_istore (a := 2) (i := 1) rfl (pm_ok_nl (Nat.le_of_ble_eq_true rfl) rfl h1) _).trans ?_
  refine (dc_ic (x := 0) (i := 2) rfl).trans ?_
  refine (dn_istore (a := 3) (i := 3) rfl rfl _).trans ?_
  exact rfl
theorem B91_4 {o0 : Nat} {x1 : Int32} {x2 : Int32} {x3 : Int32} {hp : pH} : dn pg 91 4 [some (.ref o0), some (.int x1), some (.int x2), some (.int x3)] [] hp = qg_i hp o0 3 1 (fun y1 => if y1 ≤ x3 then dn pg 91 26 [some (.ref o0), some (.int x1), some (.int x2), some (.int x3)] [] hp else if (nI 112) ≤ x3 then dn pg 91 26 [some (.ref o0), some (.int x1), some (.int x2), some (.int x3)] [] hp else qg_a hp o0 3 0 (fun r2 => qa_i hp r2 0 x3 (fun y3 => qr_i (cl pg 87 [.int y3, .int x1] hp) (fun y4 hp1 => if y4 = nI 0 then dn pg 91 22 [some (.ref o0), some (.int x1), some (.int x2), some (.int x3)] [.int (nI 0), .int x2] hp1 else dn pg 91 22 [some (.ref o0), some (.int x1), some (.int x2), some (.int x3)] [.int (nI 1), .int x2] hp1)))) := by
  refine (dc_iload (a := 3) (i := 4) rfl rfl).trans ?_
  refine (dc_aload (a := 0) (i := 5) rfl rfl).trans ?_
  refine (dn_getI (ci := 3) (j := 1) (i := 6) rfl _).trans (congrArg (qg_i _ _ _ _) (funext fun y1 => ?_))
  refine (dn_icmp (c := (fun x y => decide (y ≤ x))) (t := 26) (i := 7) rfl _ _).trans (q_ite ?_ ?_)
  · exact rfl
  · refine (dc_iload (a := 3) (i := 8) rfl rfl).trans ?_
    refine (dc_ic (x := 112) (i := 9) rfl).trans ?_
    refine (dn_icmp (c := (fun x y => decide (y ≤ x))) (t := 26) (i := 10) rfl _ _).trans (q_ite ?_ ?_)
    · exact rfl
    · refine (dc_iload (a := 2) (i := 11) rfl rfl).trans ?_
      refine (dc_aload (a := 0) (i := 12) rfl rfl).trans ?_
      refine (dn_getA (ci := 3) (j := 0) (i := 13) rfl _).trans (congrArg (qg_a _ _ _ _) (funext fun r2 => ?_))
      refine (dc_iload (a := 3) (i := 14) rfl rfl).trans ?_
      refine (dn_iald (t := 0) (i := 15) rfl _ _).trans (congrArg (qa_i _ _ _ _) (funext fun y3 => ?_))
      refine (dc_iload (a := 1) (i := 16) rfl rfl).trans ?_
      refine (dn_cS_i (i := 17) (y := 87) (na := 2) rfl (pa_2 _ _ _) (Nat.le_of_ble_eq_true rfl) (Nat.le_of_ble_eq_true rfl)).trans (congrArg (qr_i _) (funext fun y4 => funext fun hp1 => ?_))
      refine (dn_if (c := (fun x => decide (x = 0))) (t := 21) (i := 18) rfl _).trans (q_ite ?_ ?_)
      · refine (dc_ic (x := 0) (i := 21) rfl).trans ?_
        exact rfl
      · refine (dc_ic (x := 1) (i := 19) rfl).trans ?_
        refine (dc_goto (t := 22) (i := 20) rfl).trans ?_
        exact rfl
theorem B91_22 {v0 : pO} {v1 : pO} {v2 : pO} {x3 : Int32} {s0 : Int32} {s1 : Int32} {hp : pH} (h1 : pm_nl v1 = true) : dn pg 91 22 [v0, v1, v2, some (.int x3)] [.int s0, .int s1] hp = dn pg 91 4 [v0, v1, some (.int (s1 + s0)), some (.int (x3 + nI 1))] [] hp := by
  refine (dc_bin (f := (fun x y => x + y)) (i := 22) rfl _ _).trans ?_
  refine (dn_istore (a := 2) (i := 23) rfl (pm_ok_nl (Nat.le_of_ble_eq_true rfl) rfl h1) _).trans ?_
  refine (dn_iinc (a := 3) (d := 1) (i := 24) rfl rfl rfl).trans ?_
  refine (dc_goto (t := 4) (i := 25) rfl).trans ?_
  exact rfl
theorem B91_26 {o0 : Nat} {v1 : pO} {x2 : Int32} {v3 : pO} {hp : pH} : dn pg 91 26 [some (.ref o0), v1, some (.int x2), v3] [] hp = qg_i hp o0 3 1 (fun y1 => q_i (if x2 < y1 - x2 then y1 - x2 else x2) hp) := by
  refine (dc_iload (a := 2) (i := 26) rfl rfl).trans ?_
  refine (dc_aload (a := 0) (i := 27) rfl rfl).trans ?_
  refine (dn_getI (ci := 3) (j := 1) (i := 28) rfl _).trans (congrArg (qg_i _ _ _ _) (funext fun y1 => ?_))
  refine (dc_iload (a := 2) (i := 29) rfl rfl).trans ?_
  refine (dc_bin (f := (fun x y => x - y)) (i := 30) rfl _ _).trans ?_
  refine (dn_max (i := 31) rfl (Nat.le_of_ble_eq_true rfl) _ _).trans ?_
  exact dc_ireturn (i := 32) rfl _
theorem B92_0 {o0 : Nat} {x1 : Int32} {v2 : pO} {hp : pH} : dn pg 92 0 [some (.ref o0), some (.int x1), v2] [] hp = qr_i (cl pg 11 [.int x1, .int (nI 0), .int (nI 1)] hp) (fun y1 hp1 => if ¬ y1 = nI 0 then qg_a hp1 o0 8 0 (fun r2 => qg_a hp1 r2 6 0 (fun r3 => qg_i hp1 r3 7 5 (fun y4 => qr_i (cl pg 93 [.int y4] hp1) (fun y5 hp2 => if ¬ x1 = nI 0 then q_i y5 hp2 else if ¬ y5 = (-6) then dn pg 92 21 [some (.ref o0), some (.int x1), some (.int y5)] [.int (nI 1)] hp2 else dn pg 92 21 [some (.ref o0), some (.int x1), some (.int y5)] [.int (nI 0)] hp2)))) else q_i (-2) hp1) := by
  refine (dc_iload (a := 1) (i := 0) rfl rfl).trans ?_
  refine (dc_ic (x := 0) (i := 1) rfl).trans ?_
  refine (dc_ic (x := 1) (i := 2) rfl).trans ?_
  refine (dn_cS_i (i := 3) (y := 11) (na := 3) rfl (pa_3 _ _ _ _) (Nat.le_of_ble_eq_true rfl) (Nat.le_of_ble_eq_true rfl)).trans (congrArg (qr_i _) (funext fun y1 => funext fun hp1 => ?_))
  refine (dn_if (c := (fun x => decide (¬ x = 0))) (t := 7) (i := 4) rfl _).trans (q_ite ?_ ?_)
  · refine (dc_aload (a := 0) (i := 7) rfl rfl).trans ?_
    refine (dn_getA (ci := 8) (j := 0) (i := 8) rfl _).trans (congrArg (qg_a _ _ _ _) (funext fun r2 => ?_))
    refine (dn_getA (ci := 6) (j := 0) (i := 9) rfl _).trans (congrArg (qg_a _ _ _ _) (funext fun r3 => ?_))
    refine (dn_getI (ci := 7) (j := 5) (i := 10) rfl _).trans (congrArg (qg_i _ _ _ _) (funext fun y4 => ?_))
    refine (dn_cS_i (i := 11) (y := 93) (na := 1) rfl (pa_1 _ _) (Nat.le_of_ble_eq_true rfl) (Nat.le_of_ble_eq_true rfl)).trans (congrArg (qr_i _) (funext fun y5 => funext fun hp2 => ?_))
    refine (dn_istore (a := 2) (i := 12) rfl rfl _).trans ?_
    refine (dc_iload (a := 1) (i := 13) rfl rfl).trans ?_
    refine (dn_if (c := (fun x => decide (¬ x = 0))) (t := 22) (i := 14) rfl _).trans (q_ite ?_ ?_)
    · refine (dc_iload (a := 2) (i := 22) rfl rfl).trans ?_
      exact dc_ireturn (i := 23) rfl _
    · refine (dc_iload (a := 2) (i := 15) rfl rfl).trans ?_
      refine (dc_ic (x := (-6)) (i := 16) rfl).trans ?_
      refine (dn_icmp (c := (fun x y => decide (¬ x = y))) (t := 20) (i := 17) rfl _ _).trans (q_ite ?_ ?_)
      · refine (dc_ic (x := 1) (i := 20) rfl).trans ?_
        exact rfl
      · refine (dc_ic (x := 0) (i := 18) rfl).trans ?_
        refine (dc_goto (t := 21) (i := 19) rfl).trans ?_
        exact rfl
  · refine (dc_ic (x := (-2)) (i := 5) rfl).trans ?_
    exact dc_ireturn (i := 6) rfl _
theorem B92_21 {v0 : pO} {v1 : pO} {v2 : pO} {s0 : Int32} {hp : pH} : dn pg 92 21 [v0, v1, v2] [.int s0] hp = q_i s0 hp := by
  exact dc_ireturn (i := 21) rfl _
theorem B93_0 {v0 : pO} {v1 : pO} {v2 : pO} {v3 : pO} {v4 : pO} {hp : pH} (h0 : pm_nl v0 = true) : dn pg 93 0 [v0, v1, v2, v3, v4] [] hp = dn pg 93 4 [v0, some (.int (nI 0)), some (.int (nI 0)), v3, v4] [] hp := by
  refine (dc_ic (x := 0) (i := 0) rfl).trans ?_
  refine (dn_istore (a := 1) (i := 1) rfl (pm_ok_nl (Nat.le_of_ble_eq_true rfl) rfl h0) _).trans ?_
  refine (dc_ic (x := 0) (i := 2) rfl).trans ?_
  refine (dn_istore (a := 2) (i := 3) rfl rfl _).trans ?_
  exact rfl
theorem B93_4 {x0 : Int32} {x1 : Int32} {x2 : Int32} {v3 : pO} {v4 : pO} {hp : pH} : dn pg 93 4 [some (.int x0), some (.int x1), some (.int x2), v3, v4] [] hp = if (nI 8) ≤ x2 then dn pg 93 23 [some (.int x0), some (.int x1), some (.int (nI 0)), v3, v4] [] hp else qr_i (cl pg 45 [.int x0, .int x2] hp) (fun y1 hp1 => if y1 = nI 0 then dn pg 93 17 [some (.int x0), some (.int x1), some (.int x2), v3, v4] [.int (nI 0), .int x1] hp1 else dn pg 93 17 [some (.int x0), some (.int x1), some (.int x2), v3, v4] [.int (x2 + (nI 1)), .int x1] hp1) := by
  refine (dc_iload (a := 2) (i := 4) rfl rfl).trans ?_
  refine (dc_ic (x := 8) (i := 5) rfl).trans ?_
  refine (dn_icmp (c := (fun x y => decide (y ≤ x))) (t := 21) (i := 6) rfl _ _).trans (q_ite ?_ ?_)
  · refine (dc_ic (x := 0) (i := 21) rfl).trans ?_
    refine (dn_istore (a := 2) (i := 22) rfl rfl _).trans ?_
    exact rfl
  · refine (dc_iload (a := 1) (i := 7) rfl rfl).trans ?_
    refine (dc_iload (a := 0) (i := 8) rfl rfl).trans ?_
    refine (dc_iload (a := 2) (i := 9) rfl rfl).trans ?_
    refine (dn_cS_i (i := 10) (y := 45) (na := 2) rfl (pa_2 _ _ _) (Nat.le_of_ble_eq_true rfl) (Nat.le_of_ble_eq_true rfl)).trans (congrArg (qr_i _) (funext fun y1 => funext fun hp1 => ?_))
    refine (dn_if (c := (fun x => decide (x = 0))) (t := 16) (i := 11) rfl _).trans (q_ite ?_ ?_)
    · refine (dc_ic (x := 0) (i := 16) rfl).trans ?_
      exact rfl
    · refine (dc_iload (a := 2) (i := 12) rfl rfl).trans ?_
      refine (dc_ic (x := 1) (i := 13) rfl).trans ?_
      refine (dc_bin (f := (fun x y => x + y)) (i := 14) rfl _ _).trans ?_
      refine (dc_goto (t := 17) (i := 15) rfl).trans ?_
      exact rfl
theorem B93_17 {v0 : pO} {v1 : pO} {x2 : Int32} {v3 : pO} {v4 : pO} {s0 : Int32} {s1 : Int32} {hp : pH} (h0 : pm_nl v0 = true) : dn pg 93 17 [v0, v1, some (.int x2), v3, v4] [.int s0, .int s1] hp = dn pg 93 4 [v0, some (.int (s1 ^^^ s0)), some (.int (x2 + nI 1)), v3, v4] [] hp := by
  refine (dc_bin (f := (fun x y => x ^^^ y)) (i := 17) rfl _ _).trans ?_
  refine (dn_istore (a := 1) (i := 18) rfl (pm_ok_nl (Nat.le_of_ble_eq_true rfl) rfl h0) _).trans ?_
  refine (dn_iinc (a := 2) (d := 1) (i := 19) rfl rfl rfl).trans ?_
  refine (dc_goto (t := 4) (i := 20) rfl).trans ?_
  exact rfl
theorem B93_23 {v0 : pO} {v1 : pO} {x2 : Int32} {v3 : pO} {v4 : pO} {hp : pH} : dn pg 93 23 [v0, v1, some (.int x2), v3, v4] [] hp = if (nI 8) ≤ x2 then q_i (-6) hp else dn pg 93 28 [v0, v1, some (.int x2), some (.int (nI 0)), v4] [] hp := by
  refine (dc_iload (a := 2) (i := 23) rfl rfl).trans ?_
  refine (dc_ic (x := 8) (i := 24) rfl).trans ?_
  refine (dn_icmp (c := (fun x y => decide (y ≤ x))) (t := 62) (i := 25) rfl _ _).trans (q_ite ?_ ?_)
  · refine (dc_ic (x := (-6)) (i := 62) rfl).trans ?_
    exact dc_ireturn (i := 63) rfl _
  · refine (dc_ic (x := 0) (i := 26) rfl).trans ?_
    refine (dn_istore (a := 3) (i := 27) rfl rfl _).trans ?_
    exact rfl
theorem B93_28 {x0 : Int32} {v1 : pO} {x2 : Int32} {x3 : Int32} {v4 : pO} {hp : pH} : dn pg 93 28 [some (.int x0), v1, some (.int x2), some (.int x3), v4] [] hp = qr_i (cl pg 45 [.int x0, .int x2] hp) (fun y1 hp1 => if y1 = nI 0 then dn pg 93 60 [some (.int x0), v1, some (.int x2), some (.int x3), v4] [] hp1 else if x2 < x3 then dn pg 93 60 [some (.int x0), v1, some (.int x2), some (.int x3), v4] [] hp1 else if ¬ x3 = x2 then dn pg 93 43 [some (.int x0), v1, some (.int x2), some (.int x3), v4] [.int (x3 + (nI 1))] hp1 else dn pg 93 43 [some (.int x0), v1, some (.int x2), some (.int x3), v4] [.int (nI 0)] hp1) := by
  refine (dc_iload (a := 0) (i := 28) rfl rfl).trans ?_
  refine (dc_iload (a := 2) (i := 29) rfl rfl).trans ?_
  refine (dn_cS_i (i := 30) (y := 45) (na := 2) rfl (pa_2 _ _ _) (Nat.le_of_ble_eq_true rfl) (Nat.le_of_ble_eq_true rfl)).trans (congrArg (qr_i _) (funext fun y1 => funext fun hp1 => ?_))
  refine (dn_if (c := (fun x => decide (x = 0))) (t := 60) (i := 31) rfl _).trans (q_ite ?_ ?_)
  · exact rfl
  · refine (dc_iload (a := 3) (i := 32) rfl rfl).trans ?_
    refine (dc_iload (a := 2) (i := 33) rfl rfl).trans ?_
    refine (dn_icmp (c := (fun x y => decide (y < x))) (t := 60) (i := 34) rfl _ _).trans (q_ite ?_ ?_)
    · exact rfl
    · refine (dc_iload (a := 3) (i := 35) rfl rfl).trans ?_
      refine (dc_iload (a := 2) (i := 36) rfl rfl).trans ?_
      refine (dn_icmp (c := (fun x y => decide (¬ x = y))) (t := 40) (i := 37) rfl _ _).trans (q_ite ?_ ?_)
      · refine (dc_iload (a := 3) (i := 40) rfl rfl).trans ?_
        refine (dc_ic (x := 1) (i := 41) rfl).trans ?_
        refine (dc_bin (f := (fun x y => x + y)) (i := 42) rfl _ _).trans ?_
        exact rfl
      · refine (dc_ic (x := 0) (i := 38) rfl).trans ?_
        refine (dc_goto (t := 43) (i := 39) rfl).trans ?_
        exact rfl
theorem B93_43 {v0 : pO} {x1 : Int32} {x2 : Int32} {x3 : Int32} {v4 : pO} {s0 : Int32} {hp : pH} : dn pg 93 43 [v0, some (.int x1), some (.int x2), some (.int x3), v4] [.int s0] hp = if ¬ ((x1 ^^^ (x2 + (nI 1))) ^^^ s0) = nI 0 then dn pg 93 28 [v0, some (.int x1), some (.int x2), some (.int (x3 + nI 1)), some (.int s0)] [] hp else q_i (((nI 10) * x2) + x3) hp := by
  refine (dn_istore (a := 4) (i := 43) rfl rfl _).trans ?_
  refine (dc_iload (a := 1) (i := 44) rfl rfl).trans ?_
  refine (dc_iload (a := 2) (i := 45) rfl rfl).trans ?_
  refine (dc_ic (x := 1) (i := 46) rfl).trans ?_
  refine (dc_bin (f := (fun x y => x + y)) (i := 47) rfl _ _).trans ?_
  refine (dc_bin (f := (fun x y => x ^^^ y)) (i := 48) rfl _ _).trans ?_
  refine (dc_iload (a := 4) (i := 49) rfl rfl).trans ?_
  refine (dc_bin (f := (fun x y => x ^^^ y)) (i := 50) rfl _ _).trans ?_
  refine (dn_if (c := (fun x => decide (¬ x = 0))) (t := 58) (i := 51) rfl _).trans (q_ite ?_ ?_)
  · refine (dn_iinc (a := 3) (d := 1) (i := 58) rfl rfl rfl).trans ?_
    refine (dc_goto (t := 28) (i := 59) rfl).trans ?_
    exact rfl
  · refine (dc_ic (x := 10) (i := 52) rfl).trans ?_
    refine (dc_iload (a := 2) (i := 53) rfl rfl).trans ?_
    refine (dc_bin (f := (fun x y => x * y)) (i := 54) rfl _ _).trans ?_
    refine (dc_iload (a := 3) (i := 55) rfl rfl).trans ?_
    refine (dc_bin (f := (fun x y => x + y)) (i := 56) rfl _ _).trans ?_
    exact dc_ireturn (i := 57) rfl _
theorem B93_60 {v0 : pO} {v1 : pO} {x2 : Int32} {v3 : pO} {v4 : pO} {hp : pH} (h1 : pm_nl v1 = true) : dn pg 93 60 [v0, v1, some (.int x2), v3, v4] [] hp = dn pg 93 23 [v0, v1, some (.int (x2 + nI 1)), v3, v4] [] hp := by
  refine (dn_iinc (a := 2) (d := 1) (i := 60) rfl (pm_ok_nl (Nat.le_of_ble_eq_true rfl) rfl h1) rfl).trans ?_
  refine (dc_goto (t := 23) (i := 61) rfl).trans ?_
  exact rfl
theorem B94_0 {v0 : pO} {x1 : Int32} {x2 : Int32} {x3 : Int32} {x4 : Int32} {v5 : pO} {v6 : pO} {hp : pH} : dn pg 94 0 [v0, some (.int x1), some (.int x2), some (.int x3), some (.int x4), v5, v6] [] hp = qr_i (cl pg 11 [.int x1, .int (nI 0), .int (nI 20)] hp) (fun y1 hp1 => if y1 = nI 0 then dn pg 94 20 [v0, some (.int x1), some (.int x2), some (.int x3), some (.int x4), v5, v6] [] hp1 else qr_i (cl pg 11 [.int x2, .int (nI 0), .int (nI 20)] hp1) (fun y2 hp2 => if y2 = nI 0 then dn pg 94 20 [v0, some (.int x1), some (.int x2), some (.int x3), some (.int x4), v5, v6] [] hp2 else qr_i (cl pg 11 [.int x3, .int (nI 0), .int (nI 1)] hp2) (fun y3 hp3 => if y3 = nI 0 then dn pg 94 20 [v0, some (.int x1), some (.int x2), some (.int x3), some (.int x4), v5, v6] [] hp3 else qr_i (cl pg 11 [.int x4, .int (nI 0), .int (nI 1)] hp3) (fun y4 hp4 => if ¬ y4 = nI 0 then if ¬ x3 = nI 0 then dn pg 94 33 [v0, some (.int x1), some (.int x2), some (.int x3), some (.int x4), v5, v6] [.int ((x1 + (nI 1)) - x2)] hp4 else dn pg 94 33 [v0, some (.int x1), some (.int x2), some (.int x3), some (.int x4), v5, v6] [.int (x1 - x2)] hp4 else dn pg 94 20 [v0, some (.int x1), some (.int x2), some (.int x3), some (.int x4), v5, v6] [] hp4)))) := by
  refine (dc_iload (a := 1) (i := 0) rfl rfl).trans ?_
  refine (dc_ic (x := 0) (i := 1) rfl).trans ?_
  refine (dc_ic (x := 20) (i := 2) rfl).trans ?_
  refine (dn_cS_i (i := 3) (y := 11) (na := 3) rfl (pa_3 _ _ _ _) (Nat.le_of_ble_eq_true rfl) (Nat.le_of_ble_eq_true rfl)).trans (congrArg (qr_i _) (funext fun y1 => funext fun hp1 => ?_))
  refine (dn_if (c := (fun x => decide (x = 0))) (t := 20) (i := 4) rfl _).trans (q_ite ?_ ?_)
  · exact rfl
  · refine (dc_iload (a := 2) (i := 5) rfl rfl).trans ?_
    refine (dc_ic (x := 0) (i := 6) rfl).trans ?_
    refine (dc_ic (x := 20) (i := 7) rfl).trans ?_
    refine (dn_cS_i (i := 8) (y := 11) (na := 3) rfl (pa_3 _ _ _ _) (Nat.le_of_ble_eq_true rfl) (Nat.le_of_ble_eq_true rfl)).trans (congrArg (qr_i _) (funext fun y2 => funext fun hp2 => ?_))
    refine (dn_if (c := (fun x => decide (x = 0))) (t := 20) (i := 9) rfl _).trans (q_ite ?_ ?_)
    · exact rfl
    · refine (dc_iload (a := 3) (i := 10) rfl rfl).trans ?_
      refine (dc_ic (x := 0) (i := 11) rfl).trans ?_
      refine (dc_ic (x := 1) (i := 12) rfl).trans ?_
      refine (dn_cS_i (i := 13) (y := 11) (na := 3) rfl (pa_3 _ _ _ _) (Nat.le_of_ble_eq_true rfl) (Nat.le_of_ble_eq_true rfl)).trans (congrArg (qr_i _) (funext fun y3 => funext fun hp3 => ?_))
      refine (dn_if (c := (fun x => decide (x = 0))) (t := 20) (i := 14) rfl _).trans (q_ite ?_ ?_)
      · exact rfl
      · refine (dc_iload (a := 4) (i := 15) rfl rfl).trans ?_
        refine (dc_ic (x := 0) (i := 16) rfl).trans ?_
        refine (dc_ic (x := 1) (i := 17) rfl).trans ?_
        refine (dn_cS_i (i := 18) (y := 11) (na := 3) rfl (pa_3 _ _ _ _) (Nat.le_of_ble_eq_true rfl) (Nat.le_of_ble_eq_true rfl)).trans (congrArg (qr_i _) (funext fun y4 => funext fun hp4 => ?_))
        refine (dn_if (c := (fun x => decide (¬ x = 0))) (t := 22) (i := 19) rfl _).trans (q_ite ?_ ?_)
        · refine (dc_iload (a := 3) (i := 22) rfl rfl).trans ?_
          refine (dn_if (c := (fun x => decide (¬ x = 0))) (t := 28) (i := 23) rfl _).trans (q_ite ?_ ?_)
          · refine (dc_iload (a := 1) (i := 28) rfl rfl).trans ?_
            refine (dc_ic (x := 1) (i := 29) rfl).trans ?_
            refine (dc_bin (f := (fun x y => x + y)) (i := 30) rfl _ _).trans ?_
            refine (dc_iload (a := 2) (i := 31) rfl rfl).trans ?_
            refine (dc_bin (f := (fun x y => x - y)) (i := 32) rfl _ _).trans ?_
            exact rfl
          · refine (dc_iload (a := 1) (i := 24) rfl rfl).trans ?_
            refine (dc_iload (a := 2) (i := 25) rfl rfl).trans ?_
            refine (dc_bin (f := (fun x y => x - y)) (i := 26) rfl _ _).trans ?_
            refine (dc_goto (t := 33) (i := 27) rfl).trans ?_
            exact rfl
        · exact rfl
theorem B94_20 {v0 : pO} {v1 : pO} {v2 : pO} {v3 : pO} {v4 : pO} {v5 : pO} {v6 : pO} {hp : pH} : dn pg 94 20 [v0, v1, v2, v3, v4, v5, v6] [] hp = q_l (-1000000000000000002) hp := by
  refine (dc_lc (x := (-1000000000000000002)) (i := 20) rfl).trans ?_
  exact dc_lreturn (i := 21) rfl _
theorem B94_33 {v0 : pO} {x1 : Int32} {x2 : Int32} {x3 : Int32} {v4 : pO} {v5 : pO} {v6 : pO} {s0 : Int32} {hp : pH} (h4 : pm_nl v4 = true) : dn pg 94 33 [v0, some (.int x1), some (.int x2), some (.int x3), v4, v5, v6] [.int s0] hp = if ¬ x3 = nI 0 then dn pg 94 43 [v0, some (.int x1), some (.int x2), some (.int x3), v4, some (.int s0), v6] [.int (x1 + (nI 1))] hp else dn pg 94 43 [v0, some (.int x1), some (.int x2), some (.int x3), v4, some (.int s0), v6] [.int (x1 + x2)] hp := by
  refine (dn_istore (a := 5) (i := 33) rfl (pm_ok_nl (Nat.le_of_ble_eq_true rfl) rfl h4) _).trans ?_
  refine (dc_iload (a := 3) (i := 34) rfl rfl).trans ?_
  refine (dn_if (c := (fun x => decide (¬ x = 0))) (t := 40) (i := 35) rfl _).trans (q_ite ?_ ?_)
  · refine (dc_iload (a := 1) (i := 40) rfl rfl).trans ?_
    refine (dc_ic (x := 1) (i := 41) rfl).trans ?_
    refine (dc_bin (f := (fun x y => x + y)) (i := 42) rfl _ _).trans ?_
    exact rfl
  · refine (dc_iload (a := 1) (i := 36) rfl rfl).trans ?_
    refine (dc_iload (a := 2) (i := 37) rfl rfl).trans ?_
    refine (dc_bin (f := (fun x y => x + y)) (i := 38) rfl _ _).trans ?_
    refine (dc_goto (t := 43) (i := 39) rfl).trans ?_
    exact rfl
theorem B94_43 {v0 : pO} {v1 : pO} {v2 : pO} {v3 : pO} {x4 : Int32} {x5 : Int32} {v6 : pO} {s0 : Int32} {hp : pH} : dn pg 94 43 [v0, v1, v2, v3, some (.int x4), some (.int x5), v6] [.int s0] hp = if ¬ s0 = nI 0 then qr_i (cl pg 95 [.int (if x5 < nI 0 then nI 0 else x5), .int s0, .int x4] hp) (fun y1 hp1 => dn pg 94 55 [v0, v1, v2, v3, some (.int x4), some (.int x5), some (.int s0)] [.long y1.toInt64] hp1) else dn pg 94 55 [v0, v1, v2, v3, some (.int x4), some (.int x5), some (.int s0)] [.long (lN 1)] hp := by
  refine (dn_istore (a := 6) (i := 43) rfl rfl _).trans ?_
  refine (dc_iload (a := 6) (i := 44) rfl rfl).trans ?_
  refine (dn_if (c := (fun x => decide (¬ x = 0))) (t := 48) (i := 45) rfl _).trans (q_ite ?_ ?_)
  · refine (dc_iload (a := 5) (i := 48) rfl rfl).trans ?_
    refine (dc_ic (x := 0) (i := 49) rfl).trans ?_
    refine (dn_max (i := 50) rfl (Nat.le_of_ble_eq_true rfl) _ _).trans ?_
    refine (dc_iload (a := 6) (i := 51) rfl rfl).trans ?_
    refine (dc_iload (a := 4) (i := 52) rfl rfl).trans ?_
    refine (dn_cS_i (i := 53) (y := 95) (na := 3) rfl (pa_3 _ _ _ _) (Nat.le_of_ble_eq_true rfl) (Nat.le_of_ble_eq_true rfl)).trans (congrArg (qr_i _) (funext fun y1 => funext fun hp1 => ?_))
    refine (dc_i2l (i := 54) rfl _).trans ?_
    exact rfl
  · refine (dc_lc (x := 1) (i := 46) rfl).trans ?_
    refine (dc_goto (t := 55) (i := 47) rfl).trans ?_
    exact rfl
theorem B94_55 {v0 : pO} {v1 : pO} {v2 : pO} {v3 : pO} {v4 : pO} {v5 : pO} {v6 : pO} {s0 : Int64} {hp : pH} : dn pg 94 55 [v0, v1, v2, v3, v4, v5, v6] [.long s0] hp = q_l s0 hp := by
  exact dc_lreturn (i := 55) rfl _
theorem B95_0 {x0 : Int32} {x1 : Int32} {x2 : Int32} {v3 : pO} {v4 : pO} {hp : pH} : dn pg 95 0 [some (.int x0), some (.int x1), some (.int x2), v3, v4] [] hp = if ¬ x2 = nI 0 then dn pg 95 5 [some (.int x0), some (.int x1), some (.int x2), v3, v4] [.int x1] hp else dn pg 95 5 [some (.int x0), some (.int x1), some (.int x2), v3, v4] [.int x0] hp := by
  refine (dc_iload (a := 2) (i := 0) rfl rfl).trans ?_
  refine (dn_if (c := (fun x => decide (¬ x = 0))) (t := 4) (i := 1) rfl _).trans (q_ite ?_ ?_)
  · refine (dc_iload (a := 1) (i := 4) rfl rfl).trans ?_
    exact rfl
  · refine (dc_iload (a := 0) (i := 2) rfl rfl).trans ?_
    refine (dc_goto (t := 5) (i := 3) rfl).trans ?_
    exact rfl
theorem B95_5 {v0 : pO} {x1 : Int32} {v2 : pO} {v3 : pO} {v4 : pO} {s0 : Int32} {hp : pH} (h2 : pm_nl v2 = true) : dn pg 95 5 [v0, some (.int x1), v2, v3, v4] [.int s0] hp = dn pg 95 8 [v0, some (.int x1), v2, some (.int s0), some (.int x1)] [] hp := by
  refine (dn_istore (a := 3) (i := 5) rfl (pm_ok_nl (Nat.le_of_ble_eq_true rfl) rfl h2) _).trans ?_
  refine (dc_iload (a := 1) (i := 6) rfl rfl).trans ?_
  refine (dn_istore (a := 4) (i := 7) rfl rfl _).trans ?_
  exact rfl
theorem B95_8 {x0 : Int32} {x1 : Int32} {v2 : pO} {x3 : Int32} {x4 : Int32} {hp : pH} : dn pg 95 8 [some (.int x0), some (.int x1), v2, some (.int x3), some (.int x4)] [] hp = if x4 ≤ (nI 1) then q_i x3 hp else if x4 = nI 0 then none else if ¬ (x0 % x4) = nI 0 then dn pg 95 23 [some (.int x0), some (.int x1), v2, some (.int x3), some (.int x4)] [] hp else if x4 = nI 0 then none else if ¬ (x1 % x4) = nI 0 then dn pg 95 23 [some (.int x0), some (.int x1), v2, some (.int x3), some (.int x4)] [] hp else if x4 = nI 0 then none else q_i (x3 / x4) hp := by
  refine (dc_iload (a := 4) (i := 8) rfl rfl).trans ?_
  refine (dc_ic (x := 1) (i := 9) rfl).trans ?_
  refine (dn_icmp (c := (fun x y => decide (x ≤ y))) (t := 25) (i := 10) rfl _ _).trans (q_ite ?_ ?_)
  · refine (dc_iload (a := 3) (i := 25) rfl rfl).trans ?_
    exact dc_ireturn (i := 26) rfl _
  · refine (dc_iload (a := 0) (i := 11) rfl rfl).trans ?_
    refine (dc_iload (a := 4) (i := 12) rfl rfl).trans ?_
    refine (dn_div (f := (fun x y => x % y)) (i := 13) rfl _ _).trans (q_ife rfl ?_)
    refine (dn_if (c := (fun x => decide (¬ x = 0))) (t := 23) (i := 14) rfl _).trans (q_ite ?_ ?_)
    · exact rfl
    · refine (dc_iload (a := 1) (i := 15) rfl rfl).trans ?_
      refine (dc_iload (a := 4) (i := 16) rfl rfl).trans ?_
      refine (dn_div (f := (fun x y => x % y)) (i := 17) rfl _ _).trans (q_ife rfl ?_)
      refine (dn_if (c := (fun x => decide (¬ x = 0))) (t := 23) (i := 18) rfl _).trans (q_ite ?_ ?_)
      · exact rfl
      · refine (dc_iload (a := 3) (i := 19) rfl rfl).trans ?_
        refine (dc_iload (a := 4) (i := 20) rfl rfl).trans ?_
        refine (dn_div (f := (fun x y => x / y)) (i := 21) rfl _ _).trans (q_ife rfl ?_)
        exact dc_ireturn (i := 22) rfl _
theorem B95_23 {v0 : pO} {v1 : pO} {v2 : pO} {v3 : pO} {x4 : Int32} {hp : pH} (h3 : pm_nl v3 = true) : dn pg 95 23 [v0, v1, v2, v3, some (.int x4)] [] hp = dn pg 95 8 [v0, v1, v2, v3, some (.int (x4 + (-1)))] [] hp := by
  refine (dn_iinc (a := 4) (d := (-1)) (i := 23) rfl (pm_ok_nl (Nat.le_of_ble_eq_true rfl) rfl h3) rfl).trans ?_
  refine (dc_goto (t := 8) (i := 24) rfl).trans ?_
  exact rfl
theorem B96_0 {o0 : Nat} {x1 : Int32} {x2 : Int32} {x3 : Int32} {v4 : pO} {v5 : pO} {hp : pH} : dn pg 96 0 [some (.ref o0), some (.int x1), some (.int x2), some (.int x3), v4, v5] [] hp = qr_i (cl pg 11 [.int x1, .int (nI 0), .int (nI 9999)] hp) (fun y1 hp1 => if y1 = nI 0 then dn pg 96 15 [some (.ref o0), some (.int x1), some (.int x2), some (.int x3), v4, v5] [] hp1 else qr_i (cl pg 11 [.int x2, .int (nI 1), .int (nI 99)] hp1) (fun y2 hp2 => if y2 = nI 0 then dn pg 96 15 [some (.ref o0), some (.int x1), some (.int x2), some (.int x3), v4, v5] [] hp2 else qr_i (cl pg 11 [.int x3, .int (nI 0), .int (nI 2)] hp2) (fun y3 hp3 => if ¬ y3 = nI 0 then qg_a hp3 o0 8 5 (fun r4 => qg_a hp3 o0 8 0 (fun r5 => qg_a hp3 r5 6 0 (fun r6 => qv hp3 r4 7 (qr_v (cl pg 39 [.ref r4, .ref r6] hp3) (fun hp4 => dn pg 96 27 [some (.ref o0), some (.int x1), some (.int x2), some (.int x3), some (.int x1), some (.int (nI 0))] [] hp4))))) else dn pg 96 15 [some (.ref o0), some (.int x1), some (.int x2), some (.int x3), v4, v5] [] hp3))) := by
  refine (dc_iload (a := 1) (i := 0) rfl rfl).trans ?_
  refine (dc_ic (x := 0) (i := 1) rfl).trans ?_
  refine (dc_ic (x := 9999) (i := 2) rfl).trans ?_
  refine (dn_cS_i (i := 3) (y := 11) (na := 3) rfl (pa_3 _ _ _ _) (Nat.le_of_ble_eq_true rfl) (Nat.le_of_ble_eq_true rfl)).trans (congrArg (qr_i _) (funext fun y1 => funext fun hp1 => ?_))
  refine (dn_if (c := (fun x => decide (x = 0))) (t := 15) (i := 4) rfl _).trans (q_ite ?_ ?_)
  · exact rfl
  · refine (dc_iload (a := 2) (i := 5) rfl rfl).trans ?_
    refine (dc_ic (x := 1) (i := 6) rfl).trans ?_
    refine (dc_ic (x := 99) (i := 7) rfl).trans ?_
    refine (dn_cS_i (i := 8) (y := 11) (na := 3) rfl (pa_3 _ _ _ _) (Nat.le_of_ble_eq_true rfl) (Nat.le_of_ble_eq_true rfl)).trans (congrArg (qr_i _) (funext fun y2 => funext fun hp2 => ?_))
    refine (dn_if (c := (fun x => decide (x = 0))) (t := 15) (i := 9) rfl _).trans (q_ite ?_ ?_)
    · exact rfl
    · refine (dc_iload (a := 3) (i := 10) rfl rfl).trans ?_
      refine (dc_ic (x := 0) (i := 11) rfl).trans ?_
      refine (dc_ic (x := 2) (i := 12) rfl).trans ?_
      refine (dn_cS_i (i := 13) (y := 11) (na := 3) rfl (pa_3 _ _ _ _) (Nat.le_of_ble_eq_true rfl) (Nat.le_of_ble_eq_true rfl)).trans (congrArg (qr_i _) (funext fun y3 => funext fun hp3 => ?_))
      refine (dn_if (c := (fun x => decide (¬ x = 0))) (t := 17) (i := 14) rfl _).trans (q_ite ?_ ?_)
      · refine (dc_aload (a := 0) (i := 17) rfl rfl).trans ?_
        refine (dn_getA (ci := 8) (j := 5) (i := 18) rfl _).trans (congrArg (qg_a _ _ _ _) (funext fun r4 => ?_))
        refine (dc_aload (a := 0) (i := 19) rfl rfl).trans ?_
        refine (dn_getA (ci := 8) (j := 0) (i := 20) rfl _).trans (congrArg (qg_a _ _ _ _) (funext fun r5 => ?_))
        refine (dn_getA (ci := 6) (j := 0) (i := 21) rfl _).trans (congrArg (qg_a _ _ _ _) (funext fun r6 => ?_))
        refine (dn_cV_v (i := 22) (y := 39) (na := 2) (ci := 7) rfl (pa_2 _ _ _) (Nat.le_of_ble_eq_true rfl) (Nat.le_of_ble_eq_true rfl)).trans (congrArg (fun F => qv _ _ _ (qr_v _ F)) (funext fun hp4 => ?_))
        refine (dc_iload (a := 1) (i := 23) rfl rfl).trans ?_
        refine (dn_istore (a := 4) (i := 24) rfl rfl _).trans ?_
        refine (dc_ic (x := 0) (i := 25) rfl).trans ?_
        refine (dn_istore (a := 5) (i := 26) rfl rfl _).trans ?_
        exact rfl
      · exact rfl
theorem B96_15 {v0 : pO} {v1 : pO} {v2 : pO} {v3 : pO} {v4 : pO} {v5 : pO} {hp : pH} : dn pg 96 15 [v0, v1, v2, v3, v4, v5] [] hp = q_i (-2) hp := by
  refine (dc_ic (x := (-2)) (i := 15) rfl).trans ?_
  exact dc_ireturn (i := 16) rfl _
theorem B96_27 {o0 : Nat} {v1 : pO} {x2 : Int32} {x3 : Int32} {x4 : Int32} {x5 : Int32} {hp : pH} : dn pg 96 27 [some (.ref o0), v1, some (.int x2), some (.int x3), some (.int x4), some (.int x5)] [] hp = if x2 ≤ x5 then if ¬ x3 = nI 0 then if ¬ x3 = (nI 1) then qg_a hp o0 8 5 (fun r1 => qv hp r1 7 (qr_i (cl pg 17 [.ref r1] hp) (fun y2 hp1 => dn pg 96 62 [some (.ref o0), v1, some (.int x2), some (.int x3), some (.int x4), some (.int x5)] [.int y2] hp1))) else qg_a hp o0 8 5 (fun r3 => qg_i hp r3 7 5 (fun y4 => qr_i (cl pg 18 [.int y4] hp) (fun y5 hp2 => dn pg 96 62 [some (.ref o0), v1, some (.int x2), some (.int x3), some (.int x4), some (.int x5)] [.int y5] hp2))) else qg_a hp o0 8 5 (fun r6 => qv hp r6 7 (qr_i (cl pg 59 [.ref r6, .int (nI 0)] hp) (fun y7 hp3 => q_i y7 hp3))) else qg_a hp o0 8 5 (fun r8 => qr_v (cl pg 97 [.ref r8, .int ((((nI 75) * x4) + (nI 74)) % (nI 65537))] hp) (fun hp4 => dn pg 96 27 [some (.ref o0), v1, some (.int x2), some (.int x3), some (.int ((((nI 75) * x4) + (nI 74)) % (nI 65537))), some (.int (x5 + nI 1))] [] hp4)) := by
  refine (dc_iload (a := 5) (i := 27) rfl rfl).trans ?_
  refine (dc_iload (a := 2) (i := 28) rfl rfl).trans ?_
  refine (dn_icmp (c := (fun x y => decide (y ≤ x))) (t := 44) (i := 29) rfl _ _).trans (q_ite ?_ ?_)
  · refine (dc_iload (a := 3) (i := 44) rfl rfl).trans ?_
    refine (dn_if (c := (fun x => decide (¬ x = 0))) (t := 51) (i := 45) rfl _).trans (q_ite ?_ ?_)
    · refine (dc_iload (a := 3) (i := 51) rfl rfl).trans ?_
      refine (dc_ic (x := 1) (i := 52) rfl).trans ?_
      refine (dn_icmp (c := (fun x y => decide (¬ x = y))) (t := 59) (i := 53) rfl _ _).trans (q_ite ?_ ?_)
      · refine (dc_aload (a := 0) (i := 59) rfl rfl).trans ?_
        refine (dn_getA (ci := 8) (j := 5) (i := 60) rfl _).trans (congrArg (qg_a _ _ _ _) (funext fun r1 => ?_))
        refine (dn_cV_i (i := 61) (y := 17) (na := 1) (ci := 7) rfl (pa_1 _ _) (Nat.le_of_ble_eq_true rfl) (Nat.le_of_ble_eq_true rfl)).trans (congrArg (fun F => qv _ _ _ (qr_i _ F)) (funext fun y2 => funext fun hp1 => ?_))
        exact rfl
      · refine (dc_aload (a := 0) (i := 54) rfl rfl).trans ?_
        refine (dn_getA (ci := 8) (j := 5) (i := 55) rfl _).trans (congrArg (qg_a _ _ _ _) (funext fun r3 => ?_))
        refine (dn_getI (ci := 7) (j := 5) (i := 56) rfl _).trans (congrArg (qg_i _ _ _ _) (funext fun y4 => ?_))
        refine (dn_cS_i (i := 57) (y := 18) (na := 1) rfl (pa_1 _ _) (Nat.le_of_ble_eq_true rfl) (Nat.le_of_ble_eq_true rfl)).trans (congrArg (qr_i _) (funext fun y5 => funext fun hp2 => ?_))
        refine (dc_goto (t := 62) (i := 58) rfl).trans ?_
        exact rfl
    · refine (dc_aload (a := 0) (i := 46) rfl rfl).trans ?_
      refine (dn_getA (ci := 8) (j := 5) (i := 47) rfl _).trans (congrArg (qg_a _ _ _ _) (funext fun r6 => ?_))
      refine (dc_ic (x := 0) (i := 48) rfl).trans ?_
      refine (dn_cV_i (i := 49) (y := 59) (na := 2) (ci := 7) rfl (pa_2 _ _ _) (Nat.le_of_ble_eq_true rfl) (Nat.le_of_ble_eq_true rfl)).trans (congrArg (fun F => qv _ _ _ (qr_i _ F)) (funext fun y7 => funext fun hp3 => ?_))
      exact dc_ireturn (i := 50) rfl _
  · refine (dc_ic (x := 75) (i := 30) rfl).trans ?_
    refine (dc_iload (a := 4) (i := 31) rfl rfl).trans ?_
    refine (dc_bin (f := (fun x y => x * y)) (i := 32) rfl _ _).trans ?_
    refine (dc_ic (x := 74) (i := 33) rfl).trans ?_
    refine (dc_bin (f := (fun x y => x + y)) (i := 34) rfl _ _).trans ?_
    refine (dc_ic (x := 65537) (i := 35) rfl).trans ?_
    refine ((dn_div (f := (fun x y => x % y)) (i := 36) rfl _ _).trans (if_neg (by decide))).trans ?_
    refine (dn_istore (a := 4) (i := 37) rfl rfl _).trans ?_
    refine (dc_aload (a := 0) (i := 38) rfl rfl).trans ?_
    refine (dn_getA (ci := 8) (j := 5) (i := 39) rfl _).trans (congrArg (qg_a _ _ _ _) (funext fun r8 => ?_))
    refine (dc_iload (a := 4) (i := 40) rfl rfl).trans ?_
    refine (dn_cS_v (i := 41) (y := 97) (na := 2) rfl (pa_2 _ _ _) (Nat.le_of_ble_eq_true rfl) (Nat.le_of_ble_eq_true rfl)).trans (congrArg (qr_v _) (funext fun hp4 => ?_))
    refine (dn_iinc (a := 5) (d := 1) (i := 42) rfl rfl rfl).trans ?_
    refine (dc_goto (t := 27) (i := 43) rfl).trans ?_
    exact rfl
theorem B96_62 {v0 : pO} {v1 : pO} {v2 : pO} {v3 : pO} {v4 : pO} {v5 : pO} {s0 : Int32} {hp : pH} : dn pg 96 62 [v0, v1, v2, v3, v4, v5] [.int s0] hp = q_i s0 hp := by
  exact dc_ireturn (i := 62) rfl _
theorem B97_0 {v0 : pO} {x1 : Int32} {v2 : pO} {v3 : pO} {v4 : pO} {v5 : pO} {hp : pH} : dn pg 97 0 [v0, some (.int x1), v2, v3, v4, v5] [] hp = if ¬ (if (x1 / (nI 8)) % (nI 8) < nI 1 then nI 1 else (x1 / (nI 8)) % (nI 8)) = (nI 6) then dn pg 97 28 [v0, some (.int x1), some (.int (x1 % (nI 8))), some (.int (if (x1 / (nI 8)) % (nI 8) < nI 1 then nI 1 else (x1 / (nI 8)) % (nI 8))), some (.int (x1 / (nI 64))), v5] [.int ((x1 / (nI 64)) % (nI 8))] hp else dn pg 97 28 [v0, some (.int x1), some (.int (x1 % (nI 8))), some (.int (if (x1 / (nI 8)) % (nI 8) < nI 1 then nI 1 else (x1 / (nI 8)) % (nI 8))), some (.int (x1 / (nI 64))), v5] [.int ((nI 1) + ((x1 / (nI 64)) % (nI 9)))] hp := by
  refine (dc_iload (a := 1) (i := 0) rfl rfl).trans ?_
  refine (dc_ic (x := 8) (i := 1) rfl).trans ?_
  refine ((dn_div (f := (fun x y => x % y)) (i := 2) rfl _ _).trans (if_neg (by decide))).trans ?_
  refine (dn_istore (a := 2) (i := 3) rfl rfl _).trans ?_
  refine (dc_iload (a := 1) (i := 4) rfl rfl).trans ?_
  refine (dc_ic (x := 8) (i := 5) rfl).trans ?_
  refine ((dn_div (f := (fun x y => x / y)) (i := 6) rfl _ _).trans (if_neg (by decide))).trans ?_
  refine (dc_ic (x := 8) (i := 7) rfl).trans ?_
  refine ((dn_div (f := (fun x y => x % y)) (i := 8) rfl _ _).trans (if_neg (by decide))).trans ?_
  refine (dc_ic (x := 1) (i := 9) rfl).trans ?_
  refine (dn_max (i := 10) rfl (Nat.le_of_ble_eq_true rfl) _ _).trans ?_
  refine (dn_istore (a := 3) (i := 11) rfl rfl _).trans ?_
  refine (dc_iload (a := 1) (i := 12) rfl rfl).trans ?_
  refine (dc_ic (x := 64) (i := 13) rfl).trans ?_
  refine ((dn_div (f := (fun x y => x / y)) (i := 14) rfl _ _).trans (if_neg (by decide))).trans ?_
  refine (dn_istore (a := 4) (i := 15) rfl rfl _).trans ?_
  refine (dc_iload (a := 3) (i := 16) rfl rfl).trans ?_
  refine (dc_ic (x := 6) (i := 17) rfl).trans ?_
  refine (dn_icmp (c := (fun x y => decide (¬ x = y))) (t := 25) (i := 18) rfl _ _).trans (q_ite ?_ ?_)
  · refine (dc_iload (a := 4) (i := 25) rfl rfl).trans ?_
    refine (dc_ic (x := 8) (i := 26) rfl).trans ?_
    refine ((dn_div (f := (fun x y => x % y)) (i := 27) rfl _ _).trans (if_neg (by decide))).trans ?_
    exact rfl
  · refine (dc_ic (x := 1) (i := 19) rfl).trans ?_
    refine (dc_iload (a := 4) (i := 20) rfl rfl).trans ?_
    refine (dc_ic (x := 9) (i := 21) rfl).trans ?_
    refine ((dn_div (f := (fun x y => x % y)) (i := 22) rfl _ _).trans (if_neg (by decide))).trans ?_
    refine (dc_bin (f := (fun x y => x + y)) (i := 23) rfl _ _).trans ?_
    refine (dc_goto (t := 28) (i := 24) rfl).trans ?_
    exact rfl
theorem B97_28 {o0 : Nat} {v1 : pO} {x2 : Int32} {x3 : Int32} {v4 : pO} {v5 : pO} {s0 : Int32} {hp : pH} (h4 : pm_nl v4 = true) : dn pg 97 28 [some (.ref o0), v1, some (.int x2), some (.int x3), v4, v5] [.int s0] hp = qv hp o0 7 (qr_i (cl pg 43 [.ref o0, .int x3, .int x2, .int s0] hp) (fun y1 hp1 => if ¬ y1 = nI 0 then dn pg 97 41 [some (.ref o0), v1, some (.int x2), some (.int x3), v4, some (.int s0)] [] hp1 else qv hp1 o0 7 (qr_i (cl pg 49 [.ref o0, .int x3, .int x2, .int s0] hp1) (fun y2 hp2 => dn pg 97 41 [some (.ref o0), v1, some (.int x2), some (.int x3), v4, some (.int s0)] [] hp2)))) := by
  refine (dn_istore (a := 5) (i := 28) rfl (pm_ok_nl (Nat.le_of_ble_eq_true rfl) rfl h4) _).trans ?_
  refine (dc_aload (a := 0) (i := 29) rfl rfl).trans ?_
  refine (dc_iload (a := 3) (i := 30) rfl rfl).trans ?_
  refine (dc_iload (a := 2) (i := 31) rfl rfl).trans ?_
  refine (dc_iload (a := 5) (i := 32) rfl rfl).trans ?_
  refine (dn_cV_i (i := 33) (y := 43) (na := 4) (ci := 7) rfl (pa_4 _ _ _ _ _) (Nat.le_of_ble_eq_true rfl) (Nat.le_of_ble_eq_true rfl)).trans (congrArg (fun F => qv _ _ _ (qr_i _ F)) (funext fun y1 => funext fun hp1 => ?_))
  refine (dn_if (c := (fun x => decide (¬ x = 0))) (t := 41) (i := 34) rfl _).trans (q_ite ?_ ?_)
  · exact rfl
  · refine (dc_aload (a := 0) (i := 35) rfl rfl).trans ?_
    refine (dc_iload (a := 3) (i := 36) rfl rfl).trans ?_
    refine (dc_iload (a := 2) (i := 37) rfl rfl).trans ?_
    refine (dc_iload (a := 5) (i := 38) rfl rfl).trans ?_
    refine (dn_cV_i (i := 39) (y := 49) (na := 4) (ci := 7) rfl (pa_4 _ _ _ _ _) (Nat.le_of_ble_eq_true rfl) (Nat.le_of_ble_eq_true rfl)).trans (congrArg (fun F => qv _ _ _ (qr_i _ F)) (funext fun y2 => funext fun hp2 => ?_))
    refine (dc_popI (i := 40) rfl _).trans ?_
    exact rfl
theorem B97_41 {v0 : pO} {v1 : pO} {v2 : pO} {v3 : pO} {v4 : pO} {v5 : pO} {hp : pH} : dn pg 97 41 [v0, v1, v2, v3, v4, v5] [] hp = q_v hp := by
  exact dc_return (i := 41) rfl
