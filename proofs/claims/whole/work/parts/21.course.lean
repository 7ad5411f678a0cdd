/-! Blocks of blocks; the class's Course. -/
def offs (bs : List (List pE)) (j : Nat) : Nat := ((bs.take j).map List.length).sum
theorem isAt_bs : ∀ (bs : List (List pE)) (hp : pH) (o j : Nat) (b : List pE), isAt hp o bs.flatten → bs[j]? = some b → isAt hp (o + offs bs j) b
  | [], _, _, _, _, _, h => by simp at h
  | c :: bs, hp, o, 0, b, h, hb => by
    cases hb
    exact (isAt_app.mp h).1
  | c :: bs, hp, o, j + 1, b, h, hb => by
    have := isAt_bs bs hp (o + c.length) j b (isAt_app.mp h).2 hb
    rw [show o + offs (c :: bs) (j + 1) = o + c.length + offs bs j by show o + (c.length :: (bs.take j).map List.length).sum = _; rw [List.sum_cons]; unfold offs; omega]
    exact this
theorem wr_bs : ∀ (bs : List (List pE)) (hp : pH) (o j : Nat) (b b' : List pE), isAt hp o bs.flatten → bs[j]? = some b → b.length = b'.length → wr hp (o + offs bs j) b' = wr hp o (bs.set j b').flatten
  | [], _, _, _, _, _, _, h, _ => by simp at h
  | c :: bs, hp, o, 0, b, b', h, hb, hl => by
    cases hb
    obtain ⟨h1, h2⟩ := isAt_app.mp h
    show wr hp o b' = wr hp o (b' ++ bs.flatten)
    rw [wr_app, wr_self bs.flatten]
    rw [← hl]
    exact isAt_other h2 (by omega)
  | c :: bs, hp, o, j + 1, b, b', h, hb, hl => by
    obtain ⟨h1, h2⟩ := isAt_app.mp h
    have := wr_bs bs hp (o + c.length) j b b' h2 hb hl
    rw [show o + offs (c :: bs) (j + 1) = o + c.length + offs bs j by show o + (c.length :: (bs.take j).map List.length).sum = _; rw [List.sum_cons]; unfold offs; omega, this]
    show _ = wr hp o (c ++ (bs.set j b').flatten)
    rw [wr_app, wr_self c hp o h1]
abbrev aK : Type := aU × aW
def cK (o : Nat) (x : aK) : List pE := [cU o x.1, cW (o + 1) x.2].flatten
abbrev sK (hp : pH) (o : Nat) (x : aK) : pH := wr hp o (cK o x)
abbrev iK (hp : pH) (o : Nat) (x : aK) : Prop := isAt hp o (cK o x)
theorem iK_s {hp : pH} {o : Nat} {x y : aK} (hx : iK hp o x) : iK (sK hp o y) o y := isAt_wr _ _ _ (hx.le (Nat.succ_pos _))
theorem sK_s (hp : pH) (o : Nat) (x y : aK) : sK (sK hp o x) o y = sK hp o y := wr_wr _ _ _ _ rfl
theorem sK_i {hp : pH} {o : Nat} {x : aK} (hx : iK hp o x) : sK hp o x = hp := wr_self _ _ _ hx
theorem iK_U {hp : pH} {o : Nat} {x : aK} (hx : iK hp o x) : iU hp o x.1 := isAt_bs _ _ _ 0 _ hx rfl
theorem iK_W {hp : pH} {o : Nat} {x : aK} (hx : iK hp o x) : iW hp (o + 1) x.2 := isAt_bs _ _ _ 1 _ hx rfl
theorem sK_U {hp : pH} {o : Nat} {x : aK} (hx : iK hp o x) (u : aU) : sU hp o u = sK hp o (u, x.2) := wr_bs _ _ _ 0 _ _ hx rfl rfl
theorem sK_W {hp : pH} {o : Nat} {x : aK} (hx : iK hp o x) (w : aW) : sW hp (o + 1) w = sK hp o (x.1, w) := wr_bs _ _ _ 1 _ _ hx rfl rfl
theorem sK_Us {hp : pH} {o : Nat} {x y : aK} (hx : iK hp o x) (u : aU) : sU (sK hp o y) o u = sK hp o (u, y.2) := (sK_U (iK_s hx) u).trans (sK_s _ _ _ _)
theorem sK_Ws {hp : pH} {o : Nat} {x y : aK} (hx : iK hp o x) (w : aW) : sW (sK hp o y) (o + 1) w = sK hp o (y.1, w) := (sK_W (iK_s hx) w).trans (sK_s _ _ _ _)
/-- what an act adds to the course -/
def ntU (u : aU) (i tk : Nat) : aU := (u.1, u.2.1, u.2.2.1 + pop tk, if ¬ tk = 0 ∧ u.2.2.2.1 = -6 then nI i else u.2.2.2.1, if ¬ tk = 0 ∧ u.2.2.2.1 = -6 then nI (low tk) else u.2.2.2.2)
/-- the acts, one behind another, up to the first that can not be -/
def goR : List (Nat × Nat × Nat) → Nat → aU → aW → aU × aW
  | [], _, u, w => (u, w)
  | e :: r, i, u, w => if wny w e.1 e.2.1 e.2.2 = 0 then goR r (i + 1) (ntU u i (act w e.1 e.2.1 e.2.2).1) (act w e.1 e.2.1 e.2.2).2 else ((nI i, nI (wny w e.1 e.2.1 e.2.2), u.2.2), w)
def u0 : aU := (-6, -6, 0, -6, -6)
theorem act_tk {w : aW} (ok : okW w) {k a b : Nat} (hb : b < 8 ∨ k = 6) : (act w k a b).1 < 256 := by
  unfold act
  by_cases k3 : k = 3
  · have hb : b < 8 := by omega
    rw [if_neg (by omega), if_neg (by omega), if_pos k3]
    show tkb w b _ < 256
    unfold tkb
    split
    · omega
    · exact or_lt (show 0 < 256 by omega) hb |> fun h => by rwa [Nat.zero_or] at h
  · (repeat' split) <;> first | (show 0 < 256; omega) | exact tkd_lt w 8 (Nat.le_refl 8) | contradiction
section CO
variable {hp : pH} {o p s i ln ac : Nat} {u : aU} {w : aW} {sg : List Nat} {ki wh ot : Nat → Int32}
theorem s_kindOf (hx : iP hp p (sg, ki, wh, ot, ln, ac)) (hi : i < 60) : cl pg 40 [.ref p, .int (nI i)] hp = q_i (ki i) hp := by
  rw [E40, B40_0, s_within, er_i, rgb (by omega) (by decide) (by decide)]
  simp only [bI_0]
  rw [if_neg (by simp; omega), gP_1 hx, rP_ki hx hi, B40_11]
theorem s_whoOf (hx : iP hp p (sg, ki, wh, ot, ln, ac)) (hi : i < 60) : cl pg 41 [.ref p, .int (nI i)] hp = q_i (wh i) hp := by
  rw [E41, B41_0, s_within, er_i, rgb (by omega) (by decide) (by decide)]
  simp only [bI_0]
  rw [if_neg (by simp; omega), gP_2 hx, rP_wh hx hi, B41_11]
theorem s_otherOf (hx : iP hp p (sg, ki, wh, ot, ln, ac)) (hi : i < 60) : cl pg 42 [.ref p, .int (nI i)] hp = q_i (ot i) hp := by
  rw [E42, B42_0, s_within, er_i, rgb (by omega) (by decide) (by decide)]
  simp only [bI_0]
  rw [if_neg (by simp; omega), gP_3 hx, rP_ot hx hi, B42_11]
theorem s_begin (hx : iK hp o (u, w)) {y : aW} (hy : iW hp s y) (hd : s + 6 ≤ o + 1 ∨ o + 7 ≤ s) (ok : okW w) (oy : okW y) : cl pg 38 [.ref o, .ref s] hp = q_v (sK hp o (u0, cpW w y)) := by
  have hU : ∀ y, iU (sK hp o y) o y.1 := fun y => iK_U (iK_s hx)
  have pU1 : ∀ (u : aU) (w : aW) (z : Int32) (F : pH → Option pR), qp_v (sK hp o (u, w)) o 1 1 (.int z) F = F (sK hp o ((z, u.2), w)) := fun u w z F => by
    obtain ⟨a, b, c, d, e⟩ := u
    rw [pU_1 (hU _), sK_Us hx]
  have pU2 : ∀ (u : aU) (w : aW) (z : Int32) (F : pH → Option pR), qp_v (sK hp o (u, w)) o 1 2 (.int z) F = F (sK hp o ((u.1, z, u.2.2), w)) := fun u w z F => by
    obtain ⟨a, b, c, d, e⟩ := u
    rw [pU_2 (hU _), sK_Us hx]
  have pU3 : ∀ (u : aU) (w : aW) (z : Nat) (F : pH → Option pR), qp_v (sK hp o (u, w)) o 1 3 (.int (nI z)) F = F (sK hp o ((u.1, u.2.1, z, u.2.2.2), w)) := fun u w z F => by
    obtain ⟨a, b, c, d, e⟩ := u
    rw [pU_3 (hU _), sK_Us hx]
  have pU4 : ∀ (u : aU) (w : aW) (z : Int32) (F : pH → Option pR), qp_v (sK hp o (u, w)) o 1 4 (.int z) F = F (sK hp o ((u.1, u.2.1, u.2.2.1, z, u.2.2.2.2), w)) := fun u w z F => by
    obtain ⟨a, b, c, d, e⟩ := u
    rw [pU_4 (hU _), sK_Us hx]
  have pU5 : ∀ (u : aU) (w : aW) (z : Int32) (F : pH → Option pR), qp_v (sK hp o (u, w)) o 1 5 (.int z) F = F (sK hp o ((u.1, u.2.1, u.2.2.1, u.2.2.2.1, z), w)) := fun u w z F => by
    obtain ⟨a, b, c, d, e⟩ := u
    rw [pU_5 (hU _), sK_Us hx]
  rw [E38, B38_0, gU_0 (iK_U hx), vW (iK_W hx), s_copyW (iK_W hx) hy (by omega) ok.1 oy.1, er_v, sK_W hx, pU1, pU2, pU3, pU4, pU5]
  rfl
theorem s_note (hx : iK hp o (u, w)) {tk : Nat} (ht : tk < 256) : cl pg 55 [.ref o, .int (nI i), .int (nI tk)] hp = q_v (sK hp o (ntU u i tk, w)) := by
  obtain ⟨sa, wy, ti, fa, fw⟩ := u
  have hU := iK_U hx
  rw [E55, B55_0, gU_3 hU, s_bitCount ht, er_i, nI_add, pU_3 hU, gU_4s hU]
  simp only [B55_20]
  unfold ntU
  dsimp only
  by_cases h0 : tk = 0
  · rw [if_pos (by rw [h0]), if_neg (fun z => z.1 h0), if_neg (fun z => z.1 h0), sK_U hx]
  rw [if_neg (fun z => h0 ((nI_eq (by omega) (by omega)).mp z))]
  by_cases h1 : fa = -6
  · rw [if_neg (fun z => z h1), if_pos ⟨h0, h1⟩, if_pos ⟨h0, h1⟩, pU_4s hU, s_ntz ht h0, er_i, pU_5s hU, sK_U hx]
  · rw [if_pos h1, if_neg (fun z => h1 z.2), if_neg (fun z => h1 z.2), sK_U hx]
theorem s_run (hx : iK hp o (u, w)) {y : aW} (hy : iW hp s y) (hd : s + 6 ≤ o ∨ o + 7 ≤ s) (ok : okW w) (oy : okW y) {A : List (Nat × Nat × Nat)} (hP : iP hp p (sg, ki, wh, ot, ln, A.length)) (hdp : p + 5 ≤ o ∨ o + 7 ≤ p) (hI : PInv A 0 0 0 ki wh ot) (hA : ∀ e ∈ A, vAct e) (hl : A.length ≤ 60) :
    cl pg 37 [.ref o, .ref s, .ref p] hp = q_v (sK hp o (goR A 0 u0 (cpW w y))) := by
  have hPs : ∀ x, iP (sK hp o x) p (sg, ki, wh, ot, ln, A.length) := fun x => isAt_other hP hdp
  have hU : ∀ y, iU (sK hp o y) o y.1 := fun y => iK_U (iK_s hx)
  have hW : ∀ y, iW (sK hp o y) (o + 1) y.2 := fun y => iK_W (iK_s hx)
  have key : ∀ (rest : List (Nat × Nat × Nat)) (i : Nat) (u : aU) (w : aW) (v1 v4 : pO), A.drop i = rest → i + rest.length = A.length → okW w → u.1 = -6 → dn pg 37 5 [some (.ref o), v1, some (.ref p), some (.int (nI i)), v4] [] (sK hp o (u, w)) = q_v (sK hp o (goR rest i u w)) := by
    intro rest
    induction rest with
    | nil =>
      intro i u w v1 v4 hr hi ok hu
      have : i = A.length := by simpa using hi
      subst this
      rw [B37_5, gP_5 (hPs _)]
      dsimp only
      rw [if_pos (nI_le (Nat.le_refl _) (by omega)), B37_52]
      rfl
    | cons e r ih =>
      intro i u w v1 v4 hr hi ok hu
      rw [List.length_cons] at hi
      have hei : A[i]? = some e := by
        have h1 : (A.drop i)[0]? = some e := by rw [hr]; rfl
        rwa [List.getElem?_drop, Nat.add_zero] at h1
      have hr' : A.drop (i + 1) = r := by
        rw [← List.drop_drop, hr]
        rfl
      obtain ⟨e1, e2, e3⟩ := hI.1 i e hei
      have hv := hA e (List.mem_of_getElem? hei)
      obtain ⟨v1', v2', v3'⟩ := hv
      have hi60 : i < 60 := by omega
      rw [B37_5, gP_5 (hPs _)]
      dsimp only
      rw [if_neg (nI_ge (by omega) (by omega)), gU_1 (hU _)]
      dsimp only
      rw [hu, if_neg (fun z => z rfl), gU_0 (hU _), vP (hPs _), s_kindOf (hPs _) hi60, er_i, vP (hPs _), s_whoOf (hPs _) hi60, er_i, vP (hPs _), s_otherOf (hPs _) hi60, er_i, e1, e2, e3, vW (hW _), s_whyNot (hW _) ok v1' v2' (by omega), er_i]
      unfold goR
      by_cases hw : wny w e.1 e.2.1 e.2.2 = 0
      · have hw' : wny (u, w).2 e.1 e.2.1 e.2.2 = 0 := hw
        rw [if_pos hw, if_neg (fun z => z (by rw [hw'])), gU_0 (hU _), vP (hPs _), s_kindOf (hPs _) hi60, er_i, vP (hPs _), s_whoOf (hPs _) hi60, er_i, vP (hPs _), s_otherOf (hPs _) hi60, er_i, e1, e2, e3, vW (hW _), s_act (hW _) ok v1' v2' (by omega) hw, er_i, sK_Ws hx, vU (hU _), s_note (iK_s hx) (act_tk ok (by omega)), er_v, sK_s, B37_50 rfl, nI_add]
        exact ih (i + 1) _ _ _ _ hr' (by omega) (ok_act ok v1' v2' (by omega) hw) hu
      · have hw' : ¬ wny (u, w).2 e.1 e.2.1 e.2.2 = 0 := hw
        have hlt : wny (u, w).2 e.1 e.2.1 e.2.2 < 2 ^ 31 := by
          unfold wny wnk
          (repeat' split) <;> omega
        rw [if_neg hw, if_pos (fun z => hw' ((nI_eq hlt (by omega)).mp z))]
        obtain ⟨sa, wy, ti, fa, fw⟩ := u
        rw [pU_1 (hU ((sa, wy, ti, fa, fw), w)), pU_2s (hU ((sa, wy, ti, fa, fw), w)), sK_Us hx, B37_50 rfl]
        have stop : ∀ (j : Int32) (v1 v4 : pO) (u' : aU), ¬ u'.1 = -6 → dn pg 37 5 [some (.ref o), v1, some (.ref p), some (.int j), v4] [] (sK hp o (u', w)) = q_v (sK hp o (u', w)) := by
          intro j v1 v4 u' hu'
          rw [B37_5, gP_5 (hPs _), gU_1 (hU _)]
          simp only [B37_52]
          split
          · rfl
          · first
            | rfl
            | rw [if_pos hu']
        exact stop _ _ _ _ (nI_ne6 (by omega))
  rw [E37, B37_0 rfl, vU (iK_U hx), s_begin hx hy (by omega) ok oy, er_v]
  exact key A 0 u0 (cpW w y) _ _ rfl (by omega) oy rfl
end CO
