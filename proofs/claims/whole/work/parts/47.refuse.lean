/-! Refusals. Printed by wip/whole/gen_no.py. -/
theorem noc_one1 (hp : pH) (o : Nat) {z1 z2 z3 z4 z5 : Int32} (h : rg (nI 0) (nI 7) z1 = false) : cl pg 9 [.ref o, .int z1, .int z2, .int z3, .int z4, .int z5] hp = q_i (-1) hp := by
  rw [E9, B9_0, ioF h, er_i, if_neg (not_not_intro rfl)]
theorem noc_one2 (hp : pH) (o : Nat) {z1 z2 z3 z4 z5 : Int32} (h1 : rg (nI 0) (nI 7) z1 = true) (h : (rg (nI 0) (nI 3) z2 && (rg (nI 0) (nI 1) z3 && (rg (nI 1) (nI 9) z4 && rg (nI 0) (nI 9) z5))) = false) : cl pg 9 [.ref o, .int z1, .int z2, .int z3, .int z4, .int z5] hp = q_i (-2) hp := by
  rw [E9, B9_0, ioT h1, er_i, if_pos n10]
  cases g0 : rg (nI 0) (nI 3) z2 with
  | false =>
    rw [wiF g0, er_i, if_pos rfl, B9_25]
  | true =>
    rw [wiT g0, er_i, if_neg n10]
    cases g1 : rg (nI 0) (nI 1) z3 with
    | false =>
      rw [wiF g1, er_i, if_pos rfl, B9_25]
    | true =>
      rw [wiT g1, er_i, if_neg n10]
      cases g2 : rg (nI 1) (nI 9) z4 with
      | false =>
        rw [wiF g2, er_i, if_pos rfl, B9_25]
      | true =>
        rw [wiT g2, er_i, if_neg n10]
        have g3 : rg (nI 0) (nI 9) z5 = false := by
          rw [g0, g1, g2] at h
          simpa using h
        rw [wiF g3, er_i, if_neg (not_not_intro rfl), B9_25]
theorem nom_one1 (hp : pH) (o : Nat) {z1 z2 z3 z4 z5 : Int32} (h : rg (nI 0) (nI 7) z1 = false) : cl pg 107 [.ref o, .int z1, .int z2, .int z3, .int z4, .int z5] hp = q_i (-1) hp := by
  rw [E107, B107_0, moF h, er_i, if_neg (not_not_intro rfl)]
theorem nom_one2 (hp : pH) (o : Nat) {z1 z2 z3 z4 z5 : Int32} (h1 : rg (nI 0) (nI 7) z1 = true) (h : (rg (nI 0) (nI 3) z2 && (rg (nI 0) (nI 1) z3 && (rg (nI 1) (nI 9) z4 && rg (nI 0) (nI 9) z5))) = false) : cl pg 107 [.ref o, .int z1, .int z2, .int z3, .int z4, .int z5] hp = q_i (-2) hp := by
  rw [E107, B107_0, moT h1, er_i, if_pos n10]
  cases g0 : rg (nI 0) (nI 3) z2 with
  | false =>
    rw [inF g0 (by decide) (by decide), er_i, if_pos rfl, B107_29]
  | true =>
    rw [inT g0 (by decide) (by decide), er_i, if_neg n10]
    cases g1 : rg (nI 0) (nI 1) z3 with
    | false =>
      rw [inF g1 (by decide) (by decide), er_i, if_pos rfl, B107_29]
    | true =>
      rw [inT g1 (by decide) (by decide), er_i, if_neg n10]
      cases g2 : rg (nI 1) (nI 9) z4 with
      | false =>
        rw [inF g2 (by decide) (by decide), er_i, if_pos rfl, B107_29]
      | true =>
        rw [inT g2 (by decide) (by decide), er_i, if_neg n10]
        have g3 : rg (nI 0) (nI 9) z5 = false := by
          rw [g0, g1, g2] at h
          simpa using h
        rw [inF g3 (by decide) (by decide), er_i, if_neg (not_not_intro rfl), B107_29]
theorem noc_hair1 (hp : pH) (o : Nat) {z1 : Int32} (h : rg (nI 0) (nI 99) z1 = false) : cl pg 19 [.ref o, .int z1] hp = q_i (-2) hp := by
  rw [E19, B19_0, wiF h, er_i, if_neg (not_not_intro rfl)]
theorem nom_hair1 (hp : pH) (o : Nat) {z1 : Int32} (h : rg (nI 0) (nI 99) z1 = false) : cl pg 115 [.ref o, .int z1] hp = q_i (-2) hp := by
  rw [E115, B115_0, inF h (by decide) (by decide), er_i, if_neg (not_not_intro rfl)]
theorem noc_pay1 (hp : pH) (o : Nat) {z1 z2 z3 : Int32} (h : rg (nI 0) (nI 5) z1 = false) : cl pg 20 [.ref o, .int z1, .int z2, .int z3] hp = q_i (-1) hp := by
  rw [E20, B20_0, wiF h, er_i, if_neg (not_not_intro rfl)]
theorem noc_pay2 (hp : pH) (o : Nat) {z1 z2 z3 : Int32} (h1 : rg (nI 0) (nI 5) z1 = true) (h : (rg (nI 1) (nI 9) z2 && rg (nI 0) (nI 99) z3) = false) : cl pg 20 [.ref o, .int z1, .int z2, .int z3] hp = q_i (-2) hp := by
  rw [E20, B20_0, wiT h1, er_i, if_pos n10]
  cases g0 : rg (nI 1) (nI 9) z2 with
  | false =>
    rw [wiF g0, er_i, if_pos rfl, B20_17]
  | true =>
    rw [wiT g0, er_i, if_neg n10]
    have g1 : rg (nI 0) (nI 99) z3 = false := by
      rw [g0] at h
      simpa using h
    rw [wiF g1, er_i, if_neg (not_not_intro rfl), B20_17]
theorem nom_pay1 (hp : pH) (o : Nat) {z1 z2 z3 : Int32} (h : rg (nI 0) (nI 5) z1 = false) : cl pg 116 [.ref o, .int z1, .int z2, .int z3] hp = q_i (-1) hp := by
  rw [E116, B116_0, inF h (by decide) (by decide), er_i, if_neg (not_not_intro rfl)]
theorem nom_pay2 (hp : pH) (o : Nat) {z1 z2 z3 : Int32} (h1 : rg (nI 0) (nI 5) z1 = true) (h : (rg (nI 1) (nI 9) z2 && rg (nI 0) (nI 99) z3) = false) : cl pg 116 [.ref o, .int z1, .int z2, .int z3] hp = q_i (-2) hp := by
  rw [E116, B116_0, inT h1 (by decide) (by decide), er_i, if_pos n10]
  cases g0 : rg (nI 1) (nI 9) z2 with
  | false =>
    rw [inF g0 (by decide) (by decide), er_i, if_pos rfl, B116_20]
  | true =>
    rw [inT g0 (by decide) (by decide), er_i, if_neg n10]
    have g1 : rg (nI 0) (nI 99) z3 = false := by
      rw [g0] at h
      simpa using h
    rw [inF g1 (by decide) (by decide), er_i, if_neg (not_not_intro rfl), B116_20]
theorem noc_say1 (hp : pH) (o : Nat) {z1 : Int32} (h : rg (nI 33) (nI 126) z1 = false) : cl pg 24 [.ref o, .int z1] hp = q_i (-2) hp := by
  rw [E24, B24_0, wiF h, er_i, if_neg (not_not_intro rfl)]
theorem nom_say1 (hp : pH) (o : Nat) {z1 : Int32} (h : rg (nI 33) (nI 126) z1 = false) : cl pg 117 [.ref o, .int z1] hp = q_i (-2) hp := by
  rw [E117, B117_0, inF h (by decide) (by decide), er_i, if_neg (not_not_intro rfl)]
theorem noc_judge1 (hp : pH) (o : Nat) {z1 : Int32} (h : rg (nI 0) (nI 2) z1 = false) : cl pg 35 [.ref o, .int z1] hp = q_i (-2) hp := by
  rw [E35, B35_0, wiF h, er_i, if_neg (not_not_intro rfl)]
theorem nom_judge1 (hp : pH) (o : Nat) {z1 : Int32} (h : rg (nI 0) (nI 2) z1 = false) : cl pg 125 [.ref o, .int z1] hp = q_i (-2) hp := by
  rw [E125, B125_0, inF h (by decide) (by decide), er_i, if_neg (not_not_intro rfl)]
theorem noc_behind1 (hp : pH) (o : Nat) {z1 z2 : Int32} (h : rg (nI 0) (nI 7) z1 = false) : cl pg 57 [.ref o, .int z1, .int z2] hp = q_i (-1) hp := by
  rw [E57, B57_0, ioF h, er_i, if_neg (not_not_intro rfl)]
theorem noc_behind2 (hp : pH) (o : Nat) {z1 z2 : Int32} (h1 : rg (nI 0) (nI 7) z1 = true) (h : rg (nI 0) (nI 3) z2 = false) : cl pg 57 [.ref o, .int z1, .int z2] hp = q_i (-2) hp := by
  rw [E57, B57_0, ioT h1, er_i, if_pos n10, wiF h, er_i, if_neg (not_not_intro rfl)]
theorem nom_behind1 (hp : pH) (o : Nat) {z1 z2 : Int32} (h : rg (nI 0) (nI 7) z1 = false) : cl pg 140 [.ref o, .int z1, .int z2] hp = q_i (-1) hp := by
  rw [E140, B140_0, moF h, er_i, if_neg (not_not_intro rfl)]
theorem nom_behind2 (hp : pH) (o : Nat) {z1 z2 : Int32} (h1 : rg (nI 0) (nI 7) z1 = true) (h : rg (nI 0) (nI 3) z2 = false) : cl pg 140 [.ref o, .int z1, .int z2] hp = q_i (-2) hp := by
  rw [E140, B140_0, moT h1, er_i, if_pos n10, inF h (by decide) (by decide), er_i, if_neg (not_not_intro rfl)]
theorem noc_states1 (hp : pH) (o : Nat) {z1 : Int32} (h : rg (nI 0) (nI 6) z1 = false) : cl pg 58 [.ref o, .int z1] hp = q_i (-2) hp := by
  rw [E58, B58_0, wiF h, er_i, if_neg (not_not_intro rfl)]
theorem nom_states1 (hp : pH) (o : Nat) {z1 : Int32} (h : rg (nI 0) (nI 6) z1 = false) : cl pg 142 [.ref o, .int z1] hp = q_i (-2) hp := by
  rw [E142, B142_0, inF h (by decide) (by decide), er_i, if_neg (not_not_intro rfl)]
theorem noc_annexed1 (hp : pH) (o : Nat) {z1 : Int32} (h : rg (nI 0) (nI 1) z1 = false) : cl pg 60 [.ref o, .int z1] hp = q_i (-2) hp := by
  rw [E60, B60_0, wiF h, er_i, if_neg (not_not_intro rfl)]
theorem nom_annexed1 (hp : pH) (o : Nat) {z1 : Int32} (h : rg (nI 0) (nI 1) z1 = false) : cl pg 145 [.ref o, .int z1] hp = q_i (-2) hp := by
  rw [E145, B145_0, inF h (by decide) (by decide), er_i, if_neg (not_not_intro rfl)]
theorem noc_camps1 (hp : pH) (o : Nat) {z1 : Int32} (h : rg (nI 0) (nI 1) z1 = false) : cl pg 64 [.ref o, .int z1] hp = q_i (-2) hp := by
  rw [E64, B64_0, wiF h, er_i, if_neg (not_not_intro rfl)]
theorem nom_camps1 (hp : pH) (o : Nat) {z1 : Int32} (h : rg (nI 0) (nI 1) z1 = false) : cl pg 149 [.ref o, .int z1] hp = q_i (-2) hp := by
  rw [E149, B149_0, inF h (by decide) (by decide), er_i, if_neg (not_not_intro rfl)]
theorem noc_late1 (hp : pH) (o : Nat) {z1 : Int32} (h : rg (nI 0) (nI 1) z1 = false) : cl pg 68 [.ref o, .int z1] hp = q_i (-2) hp := by
  rw [E68, B68_0, wiF h, er_i, if_neg (not_not_intro rfl)]
theorem nom_late1 (hp : pH) (o : Nat) {z1 : Int32} (h : rg (nI 0) (nI 1) z1 = false) : cl pg 151 [.ref o, .int z1] hp = q_i (-2) hp := by
  rw [E151, B151_0, inF h (by decide) (by decide), er_i, if_neg (not_not_intro rfl)]
theorem noc_seen1 (hp : pH) (o : Nat) {z1 z2 : Int32} (h : rg (nI 0) (nI 60) z1 = false) : cl pg 79 [.ref o, .int z1, .int z2] hp = q_i (-2) hp := by
  rw [E79, B79_0, wiF h, er_i, if_neg (not_not_intro rfl)]
theorem nom_seen1 (hp : pH) (o : Nat) {z1 z2 : Int32} (h : rg (nI 0) (nI 60) z1 = false) : cl pg 160 [.ref o, .int z1, .int z2] hp = q_i (-2) hp := by
  rw [E160, B160_0, inF h (by decide) (by decide), er_i, if_neg (not_not_intro rfl)]
theorem noc_ask1 (hp : pH) (o : Nat) {z1 : Int32} (h : rg (nI 0) (nI 1) z1 = false) : cl pg 89 [.ref o, .int z1] hp = q_i (-2) hp := by
  rw [E89, B89_0, wiF h, er_i, if_neg (not_not_intro rfl)]
theorem nom_ask1 (hp : pH) (o : Nat) {z1 : Int32} (h : rg (nI 0) (nI 1) z1 = false) : cl pg 165 [.ref o, .int z1] hp = q_i (-2) hp := by
  rw [E165, B165_0, inF h (by decide) (by decide), er_i, if_neg (not_not_intro rfl)]
theorem noc_lift1 (hp : pH) (o : Nat) {z1 : Int32} (h : rg (nI 0) (nI 1) z1 = false) : cl pg 92 [.ref o, .int z1] hp = q_i (-2) hp := by
  rw [E92, B92_0, wiF h, er_i, if_neg (not_not_intro rfl)]
theorem nom_lift1 (hp : pH) (o : Nat) {z1 : Int32} (h : rg (nI 0) (nI 1) z1 = false) : cl pg 166 [.ref o, .int z1] hp = q_i (-2) hp := by
  rw [E166, B166_0, inF h (by decide) (by decide), er_i, if_neg (not_not_intro rfl)]
theorem noc_year1 (hp : pH) (o : Nat) {z1 z2 z3 : Int32} (h : (rg (nI 0) (nI 9999) z1 && (rg (nI 1) (nI 99) z2 && rg (nI 0) (nI 2) z3)) = false) : cl pg 96 [.ref o, .int z1, .int z2, .int z3] hp = q_i (-2) hp := by
  rw [E96, B96_0]
  cases g0 : rg (nI 0) (nI 9999) z1 with
  | false =>
    rw [wiF g0, er_i, if_pos rfl, B96_15]
  | true =>
    rw [wiT g0, er_i, if_neg n10]
    cases g1 : rg (nI 1) (nI 99) z2 with
    | false =>
      rw [wiF g1, er_i, if_pos rfl, B96_15]
    | true =>
      rw [wiT g1, er_i, if_neg n10]
      have g2 : rg (nI 0) (nI 2) z3 = false := by
        rw [g0, g1] at h
        simpa using h
      rw [wiF g2, er_i, if_neg (not_not_intro rfl), B96_15]
theorem nom_year1 (hp : pH) (o : Nat) {z1 z2 z3 : Int32} (h : (rg (nI 0) (nI 9999) z1 && (rg (nI 1) (nI 99) z2 && rg (nI 0) (nI 2) z3)) = false) : cl pg 171 [.ref o, .int z1, .int z2, .int z3] hp = q_i (-2) hp := by
  rw [E171, B171_0]
  cases g0 : rg (nI 0) (nI 9999) z1 with
  | false =>
    rw [inF g0 (by decide) (by decide), er_i, if_pos rfl, B171_18]
  | true =>
    rw [inT g0 (by decide) (by decide), er_i, if_neg n10]
    cases g1 : rg (nI 1) (nI 99) z2 with
    | false =>
      rw [inF g1 (by decide) (by decide), er_i, if_pos rfl, B171_18]
    | true =>
      rw [inT g1 (by decide) (by decide), er_i, if_neg n10]
      have g2 : rg (nI 0) (nI 2) z3 = false := by
        rw [g0, g1] at h
        simpa using h
      rw [inF g2 (by decide) (by decide), er_i, if_neg (not_not_intro rfl), B171_18]
theorem noc_image1 (hp : pH) (o : Nat) {z1 : Int32} (h : rg (nI 0) (nI 1) z1 = false) : cl pg 98 [.ref o, .int z1] hp = q_i (-2) hp := by
  rw [E98, B98_0, wiF h, er_i, if_neg (not_not_intro rfl)]
theorem nom_image1 (hp : pH) (o : Nat) {z1 : Int32} (h : rg (nI 0) (nI 1) z1 = false) : cl pg 173 [.ref o, .int z1] hp = q_i (-2) hp := by
  rw [E173, B173_0, inF h (by decide) (by decide), er_i, if_neg (not_not_intro rfl)]
theorem noc_restore1 (hp : pH) (o : Nat) {z1 : Int32} (h : rg (nI 0) (nI 1) z1 = false) : cl pg 102 [.ref o, .int z1] hp = q_i (-2) hp := by
  rw [E102, B102_0, wiF h, er_i, if_neg (not_not_intro rfl)]
theorem nom_restore1 (hp : pH) (o : Nat) {z1 : Int32} (h : rg (nI 0) (nI 1) z1 = false) : cl pg 177 [.ref o, .int z1] hp = q_i (-2) hp := by
  rw [E177, B177_0, inF h (by decide) (by decide), er_i, if_neg (not_not_intro rfl)]
theorem noc_sees1 (hp : pH) (o : Nat) {z1 z2 : Int32} (h : rg (nI 0) (nI 7) z1 = false) : cl pg 62 [.ref o, .int z1, .int z2] hp = q_i (-1) hp := by
  rw [E62, B62_0, ioF h, er_i, if_neg (not_not_intro rfl)]
theorem noc_sees2 (hp : pH) (o : Nat) {z1 z2 : Int32} (h1 : rg (nI 0) (nI 7) z1 = true) (h : rg (nI 0) (nI 99) z2 = false) : cl pg 62 [.ref o, .int z1, .int z2] hp = q_i (-2) hp := by
  rw [E62, B62_0, ioT h1, er_i, if_pos n10, wiF h, er_i, if_neg (not_not_intro rfl)]
theorem nom_sees1 (hp : pH) (o : Nat) {z1 z2 : Int32} (h : rg (nI 0) (nI 7) z1 = false) : cl pg 147 [.ref o, .int z1, .int z2] hp = q_i (-1) hp := by
  rw [E147, B147_0, moF h, er_i, if_neg (not_not_intro rfl)]
theorem nom_sees2 (hp : pH) (o : Nat) {z1 z2 : Int32} (h1 : rg (nI 0) (nI 7) z1 = true) (h : rg (nI 0) (nI 99) z2 = false) : cl pg 147 [.ref o, .int z1, .int z2] hp = q_i (-2) hp := by
  rw [E147, B147_0, moT h1, er_i, if_pos n10, inF h (by decide) (by decide), er_i, if_pos rfl, B147_24]
theorem noc_treaty (hp : pH) (o : Nat) {z1 z2 z3 : Int32} (h : rg (nI 0) (nI 7) z1 = false ∨ rg (nI 0) (nI 7) z2 = false ∨ z1 = z2) : cl pg 15 [.ref o, .int z1, .int z2, .int z3] hp = q_i (-1) hp := by
  rw [E15, B15_0]
  cases g1 : rg (nI 0) (nI 7) z1 with
  | false =>
    rw [ioF g1, er_i, if_pos rfl, B15_9]
  | true =>
    rw [ioT g1, er_i, if_neg n10]
    cases g2 : rg (nI 0) (nI 7) z2 with
    | false =>
      rw [ioF g2, er_i, if_pos rfl, B15_9]
    | true =>
      rw [g1, g2] at h
      have he : z1 = z2 := by simpa using h
      rw [ioT g2, er_i, if_neg n10, if_neg (not_not_intro he), B15_9]
theorem nom_treaty (hp : pH) (o : Nat) {z1 z2 z3 : Int32} (h : rg (nI 0) (nI 7) z1 = false ∨ rg (nI 0) (nI 7) z2 = false ∨ z1 = z2) : cl pg 111 [.ref o, .int z1, .int z2, .int z3] hp = q_i (-1) hp := by
  rw [E111, B111_0]
  cases g1 : rg (nI 0) (nI 7) z1 with
  | false =>
    rw [moF g1, er_i, if_pos rfl, B111_9]
  | true =>
    rw [moT g1, er_i, if_neg n10]
    cases g2 : rg (nI 0) (nI 7) z2 with
    | false =>
      rw [moF g2, er_i, if_pos rfl, B111_9]
    | true =>
      rw [g1, g2] at h
      have he : z1 = z2 := by simpa using h
      rw [moT g2, er_i, if_neg n10, if_neg (not_not_intro he), B111_9]
