/-! The whole object: a block of blocks. -/
abbrev aN : Type := aH × aW × aC × aS
def cN (o : Nat) (x : aN) : List pE := [cH o x.1, cW (o + 1) x.2.1, cC (o + 7) x.2.2.1, cS (o + 10) x.2.2.2].flatten
abbrev sN (hp : pH) (o : Nat) (x : aN) : pH := wr hp o (cN o x)
abbrev iN (hp : pH) (o : Nat) (x : aN) : Prop := isAt hp o (cN o x)
theorem iN_s {hp : pH} {o : Nat} {x y : aN} (hx : iN hp o x) : iN (sN hp o y) o y := isAt_wr _ _ _ (hx.le (Nat.succ_pos _))
theorem sN_s (hp : pH) (o : Nat) (x y : aN) : sN (sN hp o x) o y = sN hp o y := wr_wr _ _ _ _ rfl
theorem sN_i {hp : pH} {o : Nat} {x : aN} (hx : iN hp o x) : sN hp o x = hp := wr_self _ _ _ hx
theorem iN_H {hp : pH} {o : Nat} {x : aN} (hx : iN hp o x) : iH hp o x.1 := isAt_bs _ _ _ 0 _ hx rfl
theorem iN_W {hp : pH} {o : Nat} {x : aN} (hx : iN hp o x) : iW hp (o + 1) x.2.1 := isAt_bs _ _ _ 1 _ hx rfl
theorem iN_C {hp : pH} {o : Nat} {x : aN} (hx : iN hp o x) : iC hp (o + 7) x.2.2.1 := isAt_bs _ _ _ 2 _ hx rfl
theorem iN_S {hp : pH} {o : Nat} {x : aN} (hx : iN hp o x) : iS hp (o + 10) x.2.2.2 := isAt_bs _ _ _ 3 _ hx rfl
theorem sN_H {hp : pH} {o : Nat} {x : aN} (hx : iN hp o x) (u : aH) : sH hp o u = sN hp o (u, x.2) := wr_bs _ _ _ 0 _ _ hx rfl rfl
theorem sN_W {hp : pH} {o : Nat} {x : aN} (hx : iN hp o x) (u : aW) : sW hp (o + 1) u = sN hp o (x.1, u, x.2.2) := wr_bs _ _ _ 1 _ _ hx rfl rfl
theorem sN_C {hp : pH} {o : Nat} {x : aN} (hx : iN hp o x) (u : aC) : sC hp (o + 7) u = sN hp o (x.1, x.2.1, u, x.2.2.2) := wr_bs _ _ _ 2 _ _ hx rfl rfl
theorem sN_S {hp : pH} {o : Nat} {x : aN} (hx : iN hp o x) (u : aS) : sS hp (o + 10) u = sN hp o (x.1, x.2.1, x.2.2.1, u) := wr_bs _ _ _ 3 _ _ hx rfl rfl
abbrev aX : Type := aN × aN × aN × aP × aK × aW × aQ × aB
def cX (o : Nat) (x : aX) : List pE := [cV o (), cN (o + 1) x.1, cN (o + 13) x.2.1, cN (o + 25) x.2.2.1, cP (o + 37) x.2.2.2.1, cK (o + 42) x.2.2.2.2.1, cW (o + 49) x.2.2.2.2.2.1, cQ (o + 55) x.2.2.2.2.2.2.1, cB (o + 57) x.2.2.2.2.2.2.2].flatten
abbrev sX (hp : pH) (o : Nat) (x : aX) : pH := wr hp o (cX o x)
abbrev iX (hp : pH) (o : Nat) (x : aX) : Prop := isAt hp o (cX o x)
theorem cX_len (o : Nat) (x : aX) : (cX o x).length = 60 := rfl
theorem iX_s {hp : pH} {o : Nat} {x y : aX} (hx : iX hp o x) : iX (sX hp o y) o y := isAt_wr _ _ _ (hx.le (Nat.succ_pos _))
theorem sX_s (hp : pH) (o : Nat) (x y : aX) : sX (sX hp o x) o y = sX hp o y := wr_wr _ _ _ _ rfl
theorem sX_i {hp : pH} {o : Nat} {x : aX} (hx : iX hp o x) : sX hp o x = hp := wr_self _ _ _ hx
section XI
variable {hp : pH} {o : Nat} {x : aX}
theorem iX_V (hx : iX hp o x) : iV hp o () := isAt_bs _ _ _ 0 _ hx rfl
theorem iX_0 (hx : iX hp o x) : iN hp (o + 1) x.1 := isAt_bs _ _ _ 1 _ hx rfl
theorem iX_1 (hx : iX hp o x) : iN hp (o + 13) x.2.1 := isAt_bs _ _ _ 2 _ hx rfl
theorem iX_2 (hx : iX hp o x) : iN hp (o + 25) x.2.2.1 := isAt_bs _ _ _ 3 _ hx rfl
theorem iX_P (hx : iX hp o x) : iP hp (o + 37) x.2.2.2.1 := isAt_bs _ _ _ 4 _ hx rfl
theorem iX_K (hx : iX hp o x) : iK hp (o + 42) x.2.2.2.2.1 := isAt_bs _ _ _ 5 _ hx rfl
theorem iX_Y (hx : iX hp o x) : iW hp (o + 49) x.2.2.2.2.2.1 := isAt_bs _ _ _ 6 _ hx rfl
theorem iX_Q (hx : iX hp o x) : iQ hp (o + 55) x.2.2.2.2.2.2.1 := isAt_bs _ _ _ 7 _ hx rfl
theorem iX_B (hx : iX hp o x) : iB hp (o + 57) x.2.2.2.2.2.2.2 := isAt_bs _ _ _ 8 _ hx rfl
theorem sX_0 (hx : iX hp o x) (u : aN) : sN hp (o + 1) u = sX hp o (u, x.2) := wr_bs _ _ _ 1 _ _ hx rfl rfl
theorem sX_1 (hx : iX hp o x) (u : aN) : sN hp (o + 13) u = sX hp o (x.1, u, x.2.2) := wr_bs _ _ _ 2 _ _ hx rfl rfl
theorem sX_2 (hx : iX hp o x) (u : aN) : sN hp (o + 25) u = sX hp o (x.1, x.2.1, u, x.2.2.2) := wr_bs _ _ _ 3 _ _ hx rfl rfl
theorem sX_P (hx : iX hp o x) (u : aP) : sP hp (o + 37) u = sX hp o (x.1, x.2.1, x.2.2.1, u, x.2.2.2.2) := wr_bs _ _ _ 4 _ _ hx rfl rfl
theorem sX_K (hx : iX hp o x) (u : aK) : sK hp (o + 42) u = sX hp o (x.1, x.2.1, x.2.2.1, x.2.2.2.1, u, x.2.2.2.2.2) := wr_bs _ _ _ 5 _ _ hx rfl rfl
theorem sX_Y (hx : iX hp o x) (u : aW) : sW hp (o + 49) u = sX hp o (x.1, x.2.1, x.2.2.1, x.2.2.2.1, x.2.2.2.2.1, u, x.2.2.2.2.2.2) := wr_bs _ _ _ 6 _ _ hx rfl rfl
theorem sX_Q (hx : iX hp o x) (u : aQ) : sQ hp (o + 55) u = sX hp o (x.1, x.2.1, x.2.2.1, x.2.2.2.1, x.2.2.2.2.1, x.2.2.2.2.2.1, u, x.2.2.2.2.2.2.2) := wr_bs _ _ _ 7 _ _ hx rfl rfl
theorem sX_B (hx : iX hp o x) (u : aB) : sB hp (o + 57) u = sX hp o (x.1, x.2.1, x.2.2.1, x.2.2.2.1, x.2.2.2.2.1, x.2.2.2.2.2.1, x.2.2.2.2.2.2.1, u) := wr_bs _ _ _ 8 _ _ hx rfl rfl
-- what is now
theorem iX_w (hx : iX hp o x) : iW hp (o + 2) x.1.2.1 := iN_W (iX_0 hx)
theorem iX_c (hx : iX hp o x) : iC hp (o + 8) x.1.2.2.1 := iN_C (iX_0 hx)
theorem iX_h (hx : iX hp o x) : iS hp (o + 11) x.1.2.2.2 := iN_S (iX_0 hx)
abbrev xW (x : aX) (w : aW) : aX := ((x.1.1, w, x.1.2.2), x.2)
abbrev xC (x : aX) (c : aC) : aX := ((x.1.1, x.1.2.1, c, x.1.2.2.2), x.2)
abbrev xS (x : aX) (s : aS) : aX := ((x.1.1, x.1.2.1, x.1.2.2.1, s), x.2)
abbrev xP (x : aX) (u : aP) : aX := (x.1, x.2.1, x.2.2.1, u, x.2.2.2.2)
abbrev xK (x : aX) (u : aK) : aX := (x.1, x.2.1, x.2.2.1, x.2.2.2.1, u, x.2.2.2.2.2)
abbrev xY (x : aX) (u : aW) : aX := (x.1, x.2.1, x.2.2.1, x.2.2.2.1, x.2.2.2.2.1, u, x.2.2.2.2.2.2)
abbrev xQ (x : aX) (u : aQ) : aX := (x.1, x.2.1, x.2.2.1, x.2.2.2.1, x.2.2.2.2.1, x.2.2.2.2.2.1, u, x.2.2.2.2.2.2.2)
abbrev xB (x : aX) (u : aB) : aX := (x.1, x.2.1, x.2.2.1, x.2.2.2.1, x.2.2.2.2.1, x.2.2.2.2.2.1, x.2.2.2.2.2.2.1, u)
theorem sX_w (hx : iX hp o x) (u : aW) : sW hp (o + 2) u = sX hp o (xW x u) := (sN_W (iX_0 hx) u).trans (sX_0 hx _)
theorem sX_c (hx : iX hp o x) (u : aC) : sC hp (o + 8) u = sX hp o (xC x u) := (sN_C (iX_0 hx) u).trans (sX_0 hx _)
theorem sX_h (hx : iX hp o x) (u : aS) : sS hp (o + 11) u = sX hp o (xS x u) := (sN_S (iX_0 hx) u).trans (sX_0 hx _)
-- links
theorem lX_0 (hx : iX hp o x) (F : Nat → Option pR) : qg_a hp o 8 0 F = F (o + 1) := gV_0 (iX_V hx) F
theorem lX_1 (hx : iX hp o x) (F : Nat → Option pR) : qg_a hp o 8 1 F = F (o + 13) := gV_1 (iX_V hx) F
theorem lX_2 (hx : iX hp o x) (F : Nat → Option pR) : qg_a hp o 8 2 F = F (o + 25) := gV_2 (iX_V hx) F
theorem lX_3 (hx : iX hp o x) (F : Nat → Option pR) : qg_a hp o 8 3 F = F (o + 37) := gV_3 (iX_V hx) F
theorem lX_4 (hx : iX hp o x) (F : Nat → Option pR) : qg_a hp o 8 4 F = F (o + 42) := gV_4 (iX_V hx) F
theorem lX_5 (hx : iX hp o x) (F : Nat → Option pR) : qg_a hp o 8 5 F = F (o + 49) := gV_5 (iX_V hx) F
theorem lX_6 (hx : iX hp o x) (F : Nat → Option pR) : qg_a hp o 8 6 F = F (o + 55) := gV_6 (iX_V hx) F
theorem lX_7 (hx : iX hp o x) (F : Nat → Option pR) : qg_a hp o 8 7 F = F (o + 57) := gV_7 (iX_V hx) F
theorem vX (hx : iX hp o x) (K : Option pR) : qv hp o 8 K = K := vV (iX_V hx) K
theorem lX_w (hx : iX hp o x) (F : Nat → Option pR) : qg_a hp (o + 1) 6 0 F = F (o + 2) := gH_0 (iN_H (iX_0 hx)) F
theorem lX_c (hx : iX hp o x) (F : Nat → Option pR) : qg_a hp (o + 1) 6 1 F = F (o + 8) := gH_1 (iN_H (iX_0 hx)) F
theorem lX_h (hx : iX hp o x) (F : Nat → Option pR) : qg_a hp (o + 1) 6 2 F = F (o + 11) := gH_2 (iN_H (iX_0 hx)) F
theorem lX_e (hx : iX hp o x) (F : Nat → Option pR) : qg_a hp (o + 42) 1 0 F = F (o + 43) := gU_0 (iK_U (iX_K hx)) F
theorem iX_e (hx : iX hp o x) : iW hp (o + 43) x.2.2.2.2.1.2 := iK_W (iX_K hx)
theorem iX_u (hx : iX hp o x) : iU hp (o + 42) x.2.2.2.2.1.1 := iK_U (iX_K hx)
end XI
/-- within its bounds -/
def okN (n : aN) : Prop := okW n.2.1 ∧ okC n.2.2.1 ∧ okS n.2.2.2
def okP (p : aP) : Prop := p.1.length = 60 ∧ p.2.2.2.2.1 ≤ 60 ∧ ∀ i, i < p.2.2.2.2.1 → p.1.getD i 0 < 128
def okX (x : aX) : Prop := okN x.1 ∧ okN x.2.1 ∧ okN x.2.2.1 ∧ okP x.2.2.2.1 ∧ okW x.2.2.2.2.1.2 ∧ okW x.2.2.2.2.2.1 ∧ x.2.2.2.2.2.2.2.1.length = 3
abbrev csX (x : aX) : List Nat := x.2.2.2.1.1.take x.2.2.2.1.2.2.2.2.1
