/-! Stamps: the reference's. -/
section MB
variable {hp : pH} {o a b c : Nat} {x : aM}
theorem s_isWorth (z : Int32) (hp : pH) : cl pg 155 [.int z] hp = q_i (bI (rg (nI 1) (nI 20) z)) hp := by
  rw [E155, B155_0, s_in z (by decide) (by decide), er_i, qz_b]
theorem s_common (hp : pH) (a : Nat) {b : Nat} (ha : a < 2 ^ 31) (hb : b < 2 ^ 31) : cl pg 158 [.int (nI a), .int (nI b)] hp = q_i (nI (Nat.gcd a b)) hp := by
  rw [E158, B158_0]
  have key : ∀ y x, x < 2 ^ 31 → y < 2 ^ 31 → ∀ v4, dn pg 158 4 [some (.int (nI a)), some (.int (nI b)), some (.int (nI x)), some (.int (nI y)), v4] [] hp = q_i (nI (Nat.gcd x y)) hp := by
    intro y
    induction y using Nat.strongRecOn with
    | ind y ih =>
      intro x hx hy v4
      rw [B158_4 (nl_int _)]
      by_cases h0 : y = 0
      · subst h0
        rw [if_pos rfl, Nat.gcd_zero_right]
      · have hn : ¬ nI y = nI 0 := fun z => h0 ((nI_eq hy (by omega)).mp z)
        have hlt : x % y < y := Nat.mod_lt _ (by omega)
        rw [if_neg hn, if_neg hn, rem_I hx (by omega) hy, ih (x % y) hlt y hy (by omega), Nat.gcd_comm x y, Nat.gcd_rec y x, Nat.gcd_comm]
  exact key b a ha hb _
theorem s_mways (hW : wOK a b c) {n : Nat} (hn : n ≤ 200) (hp : pH) : cl pg 156 [.ref o, .int (nI a), .int (nI b), .int (nI c), .int (nI n)] hp = q_i (nI (wysN a b c n)) hp := by
  obtain ⟨⟨ha, ha2⟩, ⟨hb, hb2⟩, hc, hc2⟩ := hW
  have hc0 : ¬ nI c = nI 0 := fun z => absurd ((nI_eq (by omega) (by omega)).mp z) (by omega)
  have inn : ∀ t y, y + t = n → ∀ s x, dn pg 156 9 [some (.ref o), some (.int (nI a)), some (.int (nI b)), some (.int (nI c)), some (.int (nI n)), some (.int (nI s)), some (.int (nI x)), some (.int (nI y))] [] hp = dn pg 156 4 [some (.ref o), some (.int (nI a)), some (.int (nI b)), some (.int (nI c)), some (.int (nI n)), some (.int (nI (s + Dw b (Dw c dlt) t))), some (.int (nI (x + a))), some (.int (nI (n + b - (t % b))))] [] hp := by
    intro t
    induction t using Nat.strongRecOn with
    | ind t ih =>
      intro y hy s x
      have hlt : t % c < c := Nat.mod_lt _ (by omega)
      rw [B156_9, if_neg (nI_nlt (by omega) (by omega)), if_neg hc0, pk_sub (by omega), show n - y = t by omega, rem_I (by omega) (by omega) (by omega)]
      have st : ∀ d, d = Dw c dlt t → dn pg 156 22 [some (.ref o), some (.int (nI a)), some (.int (nI b)), some (.int (nI c)), some (.int (nI n)), some (.int (nI s)), some (.int (nI x)), some (.int (nI y))] [.int (nI d), .int (nI s)] hp = dn pg 156 4 [some (.ref o), some (.int (nI a)), some (.int (nI b)), some (.int (nI c)), some (.int (nI n)), some (.int (nI (s + Dw b (Dw c dlt) t))), some (.int (nI (x + a))), some (.int (nI (n + b - (t % b))))] [] hp := by
        intro d hd
        rw [B156_22 (nl_int _) (nl_int _), nI_add, nI_add, Dw_eq hb (Dw c dlt) t]
        by_cases htb : b ≤ t
        · rw [ih (t - b) (by omega) (y + b) (by omega), if_pos htb, ← Nat.mod_eq_sub_mod htb, hd, Nat.add_assoc]
        · rw [B156_9, if_pos (nI_lt (by omega) (by omega)), nI_add, if_neg htb, hd, Nat.mod_eq_of_lt (by omega), Nat.add_zero, show n + b - t = y + b by omega]
      have hd := Dw_dlt hc t
      by_cases h0 : t % c = 0
      · rw [if_neg (not_not_intro (congrArg nI h0))]
        exact st 1 (by rw [← hd, if_pos h0])
      · rw [if_pos (fun z => h0 ((nI_eq (by omega) (by omega)).mp z))]
        exact st 0 (by rw [← hd, if_neg h0])
  have out : ∀ t x, x + t = n → ∀ s v7, dn pg 156 4 [some (.ref o), some (.int (nI a)), some (.int (nI b)), some (.int (nI c)), some (.int (nI n)), some (.int (nI s)), some (.int (nI x)), v7] [] hp = q_i (nI (s + Dw a (Dw b (Dw c dlt)) t)) hp := by
    intro t
    induction t using Nat.strongRecOn with
    | ind t ih =>
      intro x hx s v7
      rw [B156_4, if_neg (nI_nlt (by omega) (by omega)), inn t x hx s x, Dw_eq ha (Dw b (Dw c dlt)) t]
      by_cases hta : a ≤ t
      · rw [ih (t - a) (by omega) (x + a) (by omega), if_pos hta, Nat.add_assoc]
      · rw [B156_4, if_pos (nI_lt (by omega) (by omega)), if_neg hta, Nat.add_zero]
  rw [E156, B156_0 (nl_int _), out n 0 (Nat.zero_add _), Nat.zero_add, wys_eq ha hb hc]
/-- the reference's row, behind a change -/
def mF (x : aM) (fe : Nat → Int32) : aM := (x.1, x.2.1, x.2.2.1, x.2.2.2.1, x.2.2.2.2.1, x.2.2.2.2.2.1, x.2.2.2.2.2.2.1, x.2.2.2.2.2.2.2.1, x.2.2.2.2.2.2.2.2.1, fe, x.2.2.2.2.2.2.2.2.2.2)
theorem s_oneMore (hx : iM hp o x) {f : Nat → Nat} {s : Nat} (hs : s ≤ 500) (hf : ∀ i, i < s → x.2.2.2.2.2.2.2.2.2.1 i = fI (f i)) (hl : ∀ i, f i ≤ i + 1) {cu : Nat} (hcu : cu ≤ s + 10) {w : Nat} (hw : 0 < w) (hw2 : w ≤ 20) : cl pg 157 [.ref o, .int (fI cu), .int (nI s - nI w)] hp = q_i (fI (mn cu (bfr f s w))) hp := by
  have fin : ∀ be v2, be ≤ s + 10 → pm_nl v2 = true → dn pg 157 15 [some (.ref o), some (.int (fI cu)), v2, none] [.int (if be = 0 then -6 else nI be)] hp = q_i (fI (mn cu be)) hp := by
    intro be v2 hbe hv
    rw [B157_15 hv]
    simp only [fI_neg (v := cu) (by omega)]
    unfold mn
    by_cases hc0 : cu = 0
    · rw [if_pos hc0, B157_23, B157_26]
      by_cases hb0 : be = 0
      · rw [if_pos hb0, if_pos hb0, hc0]
        rfl
      · rw [if_neg hb0, if_neg hb0, if_pos (Or.inl hc0), fI_p (by omega)]
        rfl
    · rw [if_neg hc0]
      by_cases hb0 : be = 0
      · rw [if_pos hb0, if_pos hb0, if_pos (by decide), B157_25, B157_26]
      · rw [if_neg hb0, if_neg hb0, if_neg (nI_nlt (by omega) (by omega)), fI_p hc0]
        by_cases hlt : be + 1 < cu
        · rw [if_neg (nI_ge (by omega) (by omega)), B157_23, B157_26, if_pos (Or.inr hlt), fI_p (by omega)]
          rfl
        · rw [if_pos (nI_le (by omega) (by omega)), B157_25, B157_26, if_neg (by omega), fI_p hc0]
  rw [E157, B157_0]
  unfold bfr
  by_cases hws : w ≤ s
  · rw [pk_sub hws, if_neg (nI_nlt (by omega) (by omega)), gM_26 hx, rM_fe hx (i := s - w) (by omega), gM_26 hx, rM_fe hx (i := s - w) (by omega), hf (s - w) (by omega), if_pos hws]
    have hb := hl (s - w)
    by_cases h0 : f (s - w) = 0
    · rw [h0, fI_0, if_neg (by decide), B157_7]
      exact fin 0 _ (by omega) (nl_int _)
    · rw [fI_p h0, if_pos (nI_le (by omega) (by omega)), nI_add, Nat.sub_add_cancel (by omega)]
      have := fin (f (s - w)) (some (.int (nI (s - w)))) (by omega) (nl_int _)
      rw [if_neg h0] at this
      exact this
  · rw [if_neg hws]
    have : nI s - nI w < nI 0 := by
      rw [nI_0]
      exact pk_sneg (by omega) (by omega)
    rw [if_pos this, B157_7]
    exact fin 0 _ (by omega) (nl_int _)
theorem iM_mF (hx : iM hp o x) (fe : Nat → Int32) : iM (sM hp o (mF x fe)) o (mF x fe) := iM_s hx
theorem s_greatestNot (hx : iM hp o x) {f : Nat → Nat} (hf : ∀ i, i ≤ 500 → x.2.2.2.2.2.2.2.2.2.1 i = fI (f i)) (hl : ∀ i, f i ≤ i + 1) (h0 : f 0 ≠ 0) : cl pg 159 [.ref o] hp = q_i (gpI (gpT f 500)) hp := by
  have key : ∀ k s, s + k = 500 → dn pg 159 4 [some (.ref o), some (.int (gpI (gpT f s))), some (.int (nI (s + 1)))] [] hp = q_i (gpI (gpT f 500)) hp := by
    intro k
    induction k with
    | zero =>
      intro s hs
      have : s = 500 := by omega
      subst this
      rw [B159_4, if_pos (by decide)]
    | succ k ih =>
      intro s hs
      have hb := hl (s + 1)
      rw [B159_4, if_neg (nI_nlt (by omega) (by omega)), gM_26 hx, rM_fe hx (i := s + 1) (by omega), hf (s + 1) (by omega)]
      have e2 : gpT f (s + 1) = if f (s + 1) = 0 then some (s + 1) else gpT f s := rfl
      have e3 := ih (s + 1) (by omega)
      rw [e2] at e3
      by_cases hz : f (s + 1) = 0
      · rw [if_pos hz] at e3
        rw [hz, fI_0, if_neg (by decide), B159_15 (nl_ref _), nI_add]
        exact e3
      · rw [if_neg hz] at e3
        rw [fI_p hz, if_pos (nI_le (by omega) (by omega)), B159_15 (nl_ref _), nI_add]
        exact e3
  have hb := hl 0
  rw [E159, B159_0 (nl_ref _), B159_4, if_neg (by decide), gM_26 hx, rM_fe hx (i := 0) (by omega), hf 0 (by omega), fI_p h0, if_pos (nI_le (by omega) (by omega)), B159_15 (nl_ref _), nI_add]
  exact key 500 0 rfl
/-- what stamps answers -/
def stV (a b c n k : Nat) : Int32 := if k = 0 then fI (fwN a b c n) else if k = 1 then nI (wysN a b c n) else if 1 < Nat.gcd (Nat.gcd a b) c then -6 else gpI (gpT (fwN a b c) 400)
theorem gpT_500 (hW : wOK a b c) (hg : ¬ 1 < Nat.gcd (Nat.gcd a b) c) : gpT (fwN a b c) 500 = gpT (fwN a b c) 400 := by
  obtain ⟨⟨ha, ha2⟩, ⟨hb, hb2⟩, hc, hc2⟩ := hW
  have h1 : 0 < Nat.gcd (Nat.gcd a b) c := Nat.gcd_pos_of_pos_right _ hc
  exact gpT_far 100 fun s h2 h3 => pay_all ha hb hc ha2 hb2 hc2 (by omega) (by omega) (by omega)
def rgM (x1 x2 x3 x4 x5 : Int32) : Bool := rg (nI 1) (nI 20) x1 && (rg (nI 1) (nI 20) x2 && (rg (nI 1) (nI 20) x3 && (rg (nI 0) (nI 200) x4 && rg (nI 0) (nI 2) x5)))
theorem s_mstampsNo (hp : pH) {x1 x2 x3 x4 x5 : Int32} (h : rgM x1 x2 x3 x4 x5 = false) : cl pg 154 [.ref o, .int x1, .int x2, .int x3, .int x4, .int x5] hp = q_i (-2) hp := by
  rw [E154, B154_0, s_isWorth, er_i]
  simp only [bI_0]
  unfold rgM at h
  by_cases h1 : rg (nI 1) (nI 20) x1 = false
  · rw [if_pos h1, B154_21]
  · rw [if_neg h1, s_isWorth, er_i]
    simp only [bI_0]
    by_cases h2 : rg (nI 1) (nI 20) x2 = false
    · rw [if_pos h2, B154_21]
    · rw [if_neg h2, s_isWorth, er_i]
      simp only [bI_0]
      by_cases h3 : rg (nI 1) (nI 20) x3 = false
      · rw [if_pos h3, B154_21]
      · rw [if_neg h3, s_in x4 (by decide) (by decide), er_i]
        simp only [bI_0]
        by_cases h4 : rg (nI 0) (nI 200) x4 = false
        · rw [if_pos h4, B154_21]
        · rw [if_neg h4, s_in x5 (by decide) (by decide), er_i]
          simp only [bI_0]
          have h5 : rg (nI 0) (nI 2) x5 = false := by
            simp only [Bool.not_eq_false] at h1 h2 h3 h4
            rw [h1, h2, h3, h4] at h
            simpa using h
          rw [if_neg (not_not_intro h5), B154_21]
theorem s_mstamps (hx : iM hp o x) (hW : wOK a b c) {n k : Nat} (hn : n ≤ 200) (hk : k ≤ 2) : ∃ fe, cl pg 154 [.ref o, .int (nI a), .int (nI b), .int (nI c), .int (nI n), .int (nI k)] hp = q_i (stV a b c n k) (sM hp o (mF x fe)) := by
  have hW' := hW
  obtain ⟨⟨ha, ha2⟩, ⟨hb, hb2⟩, hc, hc2⟩ := hW
  have r : ∀ w, 0 < w → w ≤ 20 → rg (nI 1) (nI 20) (nI w) = true := by
    intro w h1 h2
    rw [rg_nI (by omega) (by decide) (by decide)]
    simp
    omega
  have r4 : rg (nI 0) (nI 200) (nI n) = true := by
    rw [rg_nI (by omega) (by decide) (by decide)]
    simp
    omega
  have r5 : rg (nI 0) (nI 2) (nI k) = true := by
    rw [rg_nI (by omega) (by decide) (by decide)]
    simp
    omega
  rw [E154, B154_0, s_isWorth, er_i, r a ha ha2]
  simp only [s_isWorth, er_i, r b hb hb2, r c hc hc2, s_in (nI n) (show 0 < 2 ^ 31 by decide) (show 200 < 2 ^ 31 by decide), s_in (nI k) (show 0 < 2 ^ 31 by decide) (show 2 < 2 ^ 31 by decide), r4, r5, bI_t, one_ne, if_false, not_false_eq_true, if_true]
  unfold stV
  by_cases k1 : k = 1
  · subst k1
    rw [if_neg (not_not_intro rfl), vM hx, s_mways hW' hn, er_i, if_neg (by omega), if_pos rfl]
    exact ⟨x.2.2.2.2.2.2.2.2.2.1, by rw [show mF x x.2.2.2.2.2.2.2.2.2.1 = x from rfl, sM_i hx]⟩
  · have hk1 : ¬ nI k = nI 1 := fun z => k1 ((nI_eq (by omega) (by omega)).mp z)
    rw [if_pos hk1, gM_26 hx]
    obtain ⟨g0, g1, g2, g3, g4, g5, th, ha', we, fe, wi, od, go, ba, bw, am, aa, aw⟩ := x
    rw [wM_fe hx (i := 0) (by omega)]
    have fin : ∀ fe' : Nat → Int32, (∀ i, i ≤ 500 → fe' i = fI (fwN a b c i)) → dn pg 154 40 [some (.ref o), some (.int (nI a)), some (.int (nI b)), some (.int (nI c)), some (.int (nI n)), some (.int (nI k)), some (.int (nI 501))] [] (sM hp o (g0, g1, g2, g3, g4, g5, th, ha', we, fe', wi, od, go, ba, bw, am, aa, aw)) = q_i (if k = 0 then fI (fwN a b c n) else if k = 1 then nI (wysN a b c n) else if 1 < Nat.gcd (Nat.gcd a b) c then -6 else gpI (gpT (fwN a b c) 400)) (sM hp o (g0, g1, g2, g3, g4, g5, th, ha', we, fe', wi, od, go, ba, bw, am, aa, aw)) := by
      intro fe' hf
      rw [B154_40, if_pos (by decide)]
      by_cases k0 : k = 0
      · subst k0
        rw [if_neg (not_not_intro rfl), gM_26s hx, rM_fes hx _ (i := n) (by omega), B154_83, if_pos rfl]
        dsimp only
        rw [hf n (by omega)]
      · rw [if_pos (fun z => k0 ((nI_eq (by omega) (by omega)).mp z)), s_common _ _ (by omega) (by omega), er_i]
        have g1' : Nat.gcd a b ≤ 20 := Nat.le_trans (Nat.le_of_dvd ha (Nat.gcd_dvd_left _ _)) ha2
        have g2' : Nat.gcd (Nat.gcd a b) c ≤ 20 := Nat.le_trans (Nat.le_of_dvd hc (Nat.gcd_dvd_right _ _)) hc2
        rw [s_common _ _ (by omega) (by omega), er_i, if_neg k0, if_neg k1]
        by_cases hg : 1 < Nat.gcd (Nat.gcd a b) c
        · rw [if_neg (nI_ge hg (by omega)), B154_83, if_pos hg]
        · rw [if_pos (nI_le (by omega) (by omega)), vM_s hx, s_greatestNot (iM_s hx) (f := fwN a b c) hf (fwN_le ha hb hc) (by rw [fwN_0]; omega), er_i, B154_83, if_neg hg, gpT_500 hW' hg]
    have key : ∀ j s, s + j = 501 → 0 < s → ∀ fe1 : Nat → Int32, (∀ i, i < s → fe1 i = fI (fwN a b c i)) → ∃ fe', dn pg 154 40 [some (.ref o), some (.int (nI a)), some (.int (nI b)), some (.int (nI c)), some (.int (nI n)), some (.int (nI k)), some (.int (nI s))] [] (sM hp o (g0, g1, g2, g3, g4, g5, th, ha', we, fe1, wi, od, go, ba, bw, am, aa, aw)) = q_i (if k = 0 then fI (fwN a b c n) else if k = 1 then nI (wysN a b c n) else if 1 < Nat.gcd (Nat.gcd a b) c then -6 else gpI (gpT (fwN a b c) 400)) (sM hp o (g0, g1, g2, g3, g4, g5, th, ha', we, fe', wi, od, go, ba, bw, am, aa, aw)) := by
      intro j
      induction j with
      | zero =>
        intro s hs h0 fe1 h1
        have : s = 501 := by omega
        subst this
        exact ⟨fe1, fin fe1 (fun i hi => h1 i (by omega))⟩
      | succ j ih =>
        intro s hs h0 fe1 h1
        obtain ⟨fe', e⟩ := ih (s + 1) (by omega) (by omega) (upd fe1 s (fI (fwN a b c s))) (by
          intro i hi
          by_cases hq : i = s
          · rw [hq, pk_us]
          · rw [pk_un hq]
            exact h1 i (by omega))
        refine ⟨fe', ?_⟩
        have b1 := bfr_le ha hb hc (s := s) (w := a)
        have b2 := bfr_le ha hb hc (s := s) (w := b)
        have m1 : mn 0 (bfr (fwN a b c) s a) ≤ s + 2 := mn_le2 (by omega) b1
        have m2 : mn (mn 0 (bfr (fwN a b c) s a)) (bfr (fwN a b c) s b) ≤ s + 3 := mn_le2 m1 (by omega)
        have hf : ∀ i, i < s → fe1 i = fI (fwN a b c i) := h1
        rw [B154_40, if_neg (nI_nlt (by omega) (by omega)), gM_26s hx, vM_s hx]
        have o1 := s_oneMore (iM_s (y := (g0, g1, g2, g3, g4, g5, th, ha', we, fe1, wi, od, go, ba, bw, am, aa, aw)) hx) (f := fwN a b c) (s := s) (by omega) h1 (fwN_le ha hb hc) (cu := 0) (by omega) ha ha2
        have o2 := s_oneMore (iM_s (y := (g0, g1, g2, g3, g4, g5, th, ha', we, fe1, wi, od, go, ba, bw, am, aa, aw)) hx) (f := fwN a b c) (s := s) (by omega) h1 (fwN_le ha hb hc) (cu := mn 0 (bfr (fwN a b c) s a)) (by omega) hb hb2
        have o3 := s_oneMore (iM_s (y := (g0, g1, g2, g3, g4, g5, th, ha', we, fe1, wi, od, go, ba, bw, am, aa, aw)) hx) (f := fwN a b c) (s := s) (by omega) h1 (fwN_le ha hb hc) (cu := mn (mn 0 (bfr (fwN a b c) s a)) (bfr (fwN a b c) s b)) (by omega) hc hc2
        rw [fI_0] at o1
        rw [o1, er_i, vM_s hx, o2, er_i, vM_s hx, o3, er_i, ← fwN_s ha hb hc h0, wM_fes hx (by omega), nI_add, e]
    obtain ⟨fe', e⟩ := key 500 1 rfl (by omega) (upd fe 0 (nI 0)) (fun i hi => by
      have : i = 0 := by omega
      subst this
      rw [pk_us, fwN_0]
      rfl)
    exact ⟨fe', e⟩
end MB
