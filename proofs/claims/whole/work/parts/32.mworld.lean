/-! The reference's world: what is, what can not be, what an act does. -/
def mW (x : aM) : aW := (x.1.1, x.1.2.1, x.1.2.2.1, x.1.2.2.2.1, fun _ => 0, x.1.2.2.2.2)
def mS (x : aM) (w : aW) (th : Nat → Int32) : aM := ((w.1, w.2.1, w.2.2.1, w.2.2.2.1, w.2.2.2.2.2), x.2.1, x.2.2.1, x.2.2.2.1, x.2.2.2.2.1, x.2.2.2.2.2.1, th, x.2.2.2.2.2.2.2)
abbrev mth (x : aM) : Nat → Int32 := x.2.2.2.2.2.2.1
theorem mS_id (x : aM) : mS x (mW x) (mth x) = x := rfl
theorem mW_mS (x : aM) (w : aW) (th : Nat → Int32) : mW (mS x w th) = uO w (fun _ => 0) := rfl
/-- kinds as the reference numbers them, as the class does -/
def ckN (k : Nat) : Nat := if k = 5 then 8 else if k = 6 then 6 else if k = 7 then 7 else k + 1
section MW
variable {hp : pH} {o i : Nat} {x : aM}
theorem s_mthick (hx : iM hp o x) (ok : okW (mW x)) (hi : i < 8) : cl pg 137 [.ref o, .int (nI i)] hp = q_i (nI (thk (mW x) i)) hp := by
  obtain ⟨⟨n, m, t, f, v, h, d⟩, g⟩ := x
  have hv : v < 256 := ok.2.2.1
  have h1 : m.getD i 0 < 10 := (ok.2.1 i hi).2.1
  have h2 : t.getD i 0 < 10 := (ok.2.1 i hi).2.2.1
  rw [E137, B137_0, gM_4 hx, s_mhas hv hi, er_i, gM_1 hx, rM_m hx hi, gM_2 hx, rM_t hx hi, gM_1 hx, rM_m hx hi, gM_2 hx, rM_t hx hi]
  simp only [bI_0, B137_24, B137_25]
  show _ = q_i (nI (if hs v i = true then m.getD i 0 - t.getD i 0 else 0)) hp
  by_cases hb : hs v i = false
  · rw [if_pos hb, if_neg (by rw [hb]; simp)]
  · have hb' : hs v i = true := by simpa using hb
    rw [if_neg hb, if_pos hb']
    by_cases hl : m.getD i 0 ≤ t.getD i 0
    · rw [if_pos (nI_le hl (by omega)), Nat.sub_eq_zero_of_le hl]
    · rw [if_neg (nI_ge (by omega) (by omega)), pk_sub (by omega)]
theorem s_mwhyNoKiss (hx : iM hp o x) (ok : okW (mW x)) {a b : Nat} (ha : a < 8) (hb : b < 8) : cl pg 131 [.ref o, .int (nI a), .int (nI b)] hp = q_i (nI (wnk (mW x) a b)) hp := by
  obtain ⟨⟨n, m, t, f, v, h, d⟩, g⟩ := x
  have hv : v < 256 := ok.2.2.1
  have hn : ∀ i, i < 8 → n.getD i 0 < 4 := fun i hi => (ok.2.1 i hi).1
  have hf : f.getD a 0 < 256 := (ok.2.1 a ha).2.2.2
  have hna := hn a ha
  have hnb := hn b hb
  have fin : ∀ c : Bool, dn pg 131 22 [some (.ref o), some (.int (nI a)), some (.int (nI b)), none] [.int (bI c)] hp = q_i (nI (if a = b then 2 else if c = true then 3 else if hs (f.getD a 0) b = true then 4 else 0)) hp := by
    intro c
    rw [B131_22]
    by_cases hab : a = b
    · rw [if_neg (not_not_intro (congrArg nI hab)), B131_42, if_pos hab]
    · rw [if_pos (fun z => hab ((nI_eq (by omega) (by omega)).mp z)), if_neg hab, gM_3 hx, rM_f hx ha, s_mhas hf hb, er_i]
      simp only [bI_0, B131_42]
      cases c with
      | true => rw [if_neg (by decide), if_pos rfl]
      | false =>
        rw [if_pos rfl]
        simp only [Bool.false_eq_true, if_false]
        by_cases hh : hs (f.getD a 0) b = false
        · rw [if_pos hh, if_neg (by rw [hh]; simp)]
        · have hh' : hs (f.getD a 0) b = true := by simpa using hh
          rw [if_neg hh, if_pos hh']
  show _ = q_i (nI (if a = b then 2 else if n.getD a 0 ≠ n.getD b 0 ∧ (hs v a = true ∨ hs v b = true) then 3 else if hs (f.getD a 0) b = true then 4 else 0)) hp
  rw [E131, B131_0, gM_0 hx, rM_n hx ha, gM_0 hx, rM_n hx hb, gM_4 hx, s_mhas hv ha, er_i, gM_4 hx, s_mhas hv hb, er_i]
  simp only [bI_0, B131_19, B131_21]
  have f0 := fin false
  have f1 := fin true
  rw [bI_f] at f0
  rw [bI_t] at f1
  rw [f0, f1]
  by_cases hab : n.getD a 0 = n.getD b 0
  · rw [if_pos (congrArg nI hab)]
    rw [if_neg (fun q => q.1 hab : ¬ (n.getD a 0 ≠ n.getD b 0 ∧ (hs v a = true ∨ hs v b = true)))]
    rfl
  · rw [if_neg (fun z => hab ((nI_eq (by omega) (by omega)).mp z))]
    by_cases ea : hs v a = false
    · rw [if_neg (not_not_intro ea)]
      by_cases eb : hs v b = false
      · rw [if_pos eb, if_neg (fun q => by rw [ea, eb] at q; simp at q : ¬ (n.getD a 0 ≠ n.getD b 0 ∧ (hs v a = true ∨ hs v b = true)))]
        rfl
      · have eb' : hs v b = true := by simpa using eb
        rw [if_neg eb, if_pos (⟨hab, Or.inr eb'⟩ : n.getD a 0 ≠ n.getD b 0 ∧ (hs v a = true ∨ hs v b = true))]
        rfl
    · have ea' : hs v a = true := by simpa using ea
      rw [if_pos ea, if_pos (⟨hab, Or.inl ea'⟩ : n.getD a 0 ≠ n.getD b 0 ∧ (hs v a = true ∨ hs v b = true))]
      rfl
theorem s_mwhyNot (hx : iM hp o x) (ok : okW (mW x)) {k a b : Nat} (hk : k < 8) (ha : a < 8) (hb : b < 8 ∨ k = 6) : cl pg 129 [.ref o, .int (nI k), .int (nI a), .int (nI b)] hp = q_i (nI (wny (mW x) (ckN k) a b)) hp := by
  obtain ⟨⟨n, m, t, f, v, h, d⟩, g⟩ := x
  have hv : v < 256 := ok.2.2.1
  have hh : h < 100 := ok.2.2.2.1
  have hd : d < 100 := ok.2.2.2.2
  have ht : t.getD a 0 < 10 := (ok.2.1 a ha).2.2.1
  have hkk : ∀ c, c < 8 → (nI k = nI c) = (k = c) := fun c hc => propext (nI_eq (by omega) (by omega))
  rw [E129, B129_0]
  simp only [hkk 0 (by omega), hkk 1 (by omega), hkk 2 (by omega), hkk 3 (by omega), hkk 4 (by omega), hkk 5 (by omega), hkk 7 (by omega)]
  match k, hk, hb with
  | 0, _, _ =>
    rw [if_pos rfl, gM_4 hx, s_mhas hv ha, er_i]
    simp only [bI_0, B129_10]
    show _ = q_i (nI (if hs v a = true then 1 else 0)) hp
    cases hs v a <;> rfl
  | 1, _, _ =>
    rw [if_neg (by omega), if_pos rfl, gM_4 hx, s_mhas hv ha, er_i]
    simp only [bI_0, B129_19]
    show _ = q_i (nI (if hs v a = true then 0 else 1)) hp
    cases hs v a <;> rfl
  | 2, _, hb =>
    have hb : b < 8 := by omega
    rw [if_neg (by omega), if_neg (by omega), if_pos rfl, gM_4 hx, s_mhas hv hb, er_i]
    simp only [bI_0, B129_33]
    show _ = q_i (nI (if hs v b = true then (if a = b then 2 else 0) else 1)) hp
    cases hs v b
    · rfl
    · rw [if_pos (by decide), if_pos rfl]
      by_cases hab : a = b
      · rw [if_neg (not_not_intro (congrArg nI hab)), if_pos hab]
      · rw [if_pos (fun z => hab ((nI_eq (by omega) (by omega)).mp z)), if_neg hab]
  | 3, _, hb =>
    have hb : b < 8 := by omega
    rw [if_neg (by omega), if_neg (by omega), if_neg (by omega), if_pos rfl, vM hx, s_mwhyNoKiss hx ok ha hb, er_i]
    rfl
  | 4, _, _ =>
    rw [if_neg (by omega), if_neg (by omega), if_neg (by omega), if_neg (by omega), if_pos rfl, gM_2 hx, rM_t hx ha]
    simp only [B129_48]
    show _ = q_i (nI (if t.getD a 0 < 9 then 0 else 5)) hp
    by_cases h9 : t.getD a 0 < 9
    · rw [if_pos (fun z => absurd ((nI_eq (by omega) (by omega)).mp z) (by omega)), if_pos h9]
    · have : t.getD a 0 = 9 := by omega
      rw [if_neg (not_not_intro (congrArg nI this)), if_neg h9]
  | 5, _, _ =>
    rw [if_neg (by omega), if_neg (by omega), if_neg (by omega), if_neg (by omega), if_neg (by omega), if_pos rfl, gM_2 hx, rM_t hx ha, gM_5 hx]
    simp only [B129_57, B129_60]
    show _ = q_i (nI (if 0 < t.getD a 0 ∧ 0 < h then 0 else 5)) hp
    by_cases h1 : t.getD a 0 = 0
    · rw [if_pos (congrArg nI h1), if_neg (by omega)]
    · rw [if_neg (fun z => h1 ((nI_eq (by omega) (by omega)).mp z))]
      by_cases h2 : h = 0
      · rw [if_neg (not_not_intro (congrArg nI h2)), if_neg (by omega)]
      · rw [if_pos (fun z => h2 ((nI_eq (by omega) (by omega)).mp z)), if_pos (by omega)]
  | 6, _, _ =>
    rw [if_neg (by omega), if_neg (by omega), if_neg (by omega), if_neg (by omega), if_neg (by omega), if_neg (by omega), if_neg (by omega)]
    rfl
  | 7, _, _ =>
    rw [if_neg (by omega), if_neg (by omega), if_neg (by omega), if_neg (by omega), if_neg (by omega), if_neg (by omega), if_pos rfl, gM_6 hx]
    simp only [B129_68]
    show _ = q_i (nI (if d < 99 then 0 else 6)) hp
    by_cases h9 : d < 99
    · rw [if_pos (fun z => absurd ((nI_eq (by omega) (by omega)).mp z) (by omega)), if_pos h9]
    · have : d = 99 := by omega
      rw [if_neg (not_not_intro (congrArg nI this)), if_neg h9]
/-- whose veils a gust lifts, over the first k -/
def lfB (w : aW) (g : Nat) : Nat → Nat
  | 0 => 0
  | k + 1 => lfB w g k ||| (if thk w k < g then 2 ^ k else 0)
theorem lfB_lt (w : aW) (g : Nat) : ∀ k, k ≤ 8 → lfB w g k < 256
  | 0, _ => by show 0 < 256; omega
  | k + 1, h => by
    unfold lfB
    refine or_lt2 (lfB_lt w g k (by omega)) ?_
    split
    · exact p2_lt (by omega)
    · omega
theorem lfB_bit (w : aW) (g j : Nat) (hj : j < 8) : ∀ k, (lfB w g k).testBit j = (decide (j < k) && decide (thk w j < g))
  | 0 => by simp [lfB]
  | k + 1 => by
    unfold lfB
    rw [Nat.testBit_or, lfB_bit w g j hj k]
    by_cases hjk : j = k
    · subst hjk
      by_cases ht : thk w j < g
      · rw [if_pos ht, Nat.testBit_two_pow_self]
        simp [ht]
      · rw [if_neg ht]
        simp [ht]
    · have e : decide (j < k + 1) = decide (j < k) := decide_eq_decide.mpr (by omega)
      rw [e]
      split
      · rw [Nat.testBit_two_pow_of_ne (by omega)]
        simp
      · simp
theorem gsv_lfB {w : aW} (hv : w.2.2.2.2.2.1 < 256) (g : Nat) : w.2.2.2.2.2.1 &&& (255 ^^^ lfB w g 8) = gsv w g 8 := by
  apply Nat.eq_of_testBit_eq
  intro j
  rw [Nat.testBit_and, Nat.testBit_xor]
  by_cases hj : j < 8
  · have := gsv_hs hv g 8 (Nat.le_refl _) j hj
    unfold hs at this
    rw [this, lfB_bit w g j hj, tb_255 hj]
    simp [hj]
  · rw [tb_lt hv (by omega), tb_lt (gsv_lt hv g 8 (Nat.le_refl _)) (by omega), Bool.false_and]
theorem s_gust (hx : iM hp o x) (ok : okW (mW x)) {g : Nat} (hg : g < 2 ^ 30) : cl pg 136 [.ref o, .int (nI g)] hp = q_v (sM hp o (mS x (uV (mW x) (gsv (mW x) g 8)) (mth x))) := by
  have hv : (mW x).2.2.2.2.2.1 < 256 := ok.2.2.1
  have key : ∀ k i, i + k = 8 → dn pg 136 4 [some (.ref o), some (.int (nI g)), some (.int (nI (lfB (mW x) g i))), some (.int (nI i))] [] hp = q_v (sM hp o (mS x (uV (mW x) (gsv (mW x) g 8)) (mth x))) := by
    intro k
    induction k with
    | zero =>
      intro i hi
      have : i = 8 := by omega
      subst this
      have e := (andn_I (b := lfB (mW x) g 8) hv).trans (congrArg nI (gsv_lfB hv g))
      obtain ⟨⟨n, m, t, f, v, h, d⟩, g1, g2, g3, g4, g5, g6⟩ := x
      have e : nI v &&& (nI (lfB _ g 8) ^^^ (-1)) = nI (gsv _ g 8) := e
      rw [B136_4, if_pos (by decide), gM_4 hx]
      dsimp only
      rw [e, pM_4 hx]
      rfl
    | succ k ih =>
      intro i hi
      have ht := thk_lt ok (i := i) (by omega)
      have e : lfB (mW x) g (i + 1) = lfB (mW x) g i ||| (if thk (mW x) i < g then 2 ^ i else 0) := rfl
      have e3 := ih (i + 1) (by omega)
      rw [B136_4, if_neg (nI_ge (by omega) (by omega)), vM hx, s_mthick hx ok (by omega), er_i]
      by_cases h : thk (mW x) i < g
      · rw [e, if_pos h] at e3
        rw [if_neg (nI_ge h (by omega)), sh_I i (by omega), B136_18 (nl_int _), or2_I, nI_add]
        exact e3
      · rw [e, if_neg h] at e3
        rw [if_pos (nI_le (by omega) (by omega)), B136_18 (nl_int _), or2_I, nI_add]
        exact e3
  rw [E136, B136_0 (nl_int _)]
  exact key 8 0 rfl
theorem pd_def (w : aW) (i : Nat) : pd w i = if (hs w.2.2.2.2.2.1 i && (!hs w.2.2.2.2.2.1 ((i + 7) % 8) && (!hs w.2.2.2.2.2.1 ((i + 1) % 8) && decide (w.1.getD ((i + 7) % 8) 0 = w.1.getD ((i + 1) % 8) 0)))) = true then w.1.getD ((i + 7) % 8) 0 else w.1.getD i 0 := rfl
theorem s_mpassDay (hx : iM hp o x) (ok : okW (mW x)) : ∃ th, cl pg 138 [.ref o] hp = q_v (sM hp o (mS x (uD (uN (mW x) (dyN (mW x) 8)) ((mW x).2.2.2.2.2.2.2 + 1)) th)) := by
  have hpd : ∀ i, pd (mW x) i = pd (mW x) i := fun _ => rfl
  obtain ⟨⟨n, m, t, f, v, h, d⟩, g1, g2, g3, g4, g5, th, ha', we, fe, wi, od, go, ba, bw, am, aa, aw⟩ := x
  have hv : v < 256 := ok.2.2.1
  have ln : n.length = 8 := ok.1.1
  have hn : ∀ i, i < 8 → n.getD i 0 < 4 := fun i hi => (ok.2.1 i hi).1
  generalize hw : mW ((n, m, t, f, v, h, d), g1, g2, g3, g4, g5, th, ha', we, fe, wi, od, go, ba, bw, am, aa, aw) = w at ok ⊢
  have hp1 : ∀ i, pd w i = if (hs v i && (!hs v ((i + 7) % 8) && (!hs v ((i + 1) % 8) && decide (n.getD ((i + 7) % 8) 0 = n.getD ((i + 1) % 8) 0)))) = true then n.getD ((i + 7) % 8) 0 else n.getD i 0 := by
    intro i
    rw [← hw]
    rfl
  have hn1 : w.1 = n := by rw [← hw]; rfl
  -- the first loop
  have fst : ∀ k i, i + k = 8 → ∀ th1 : Nat → Int32, (∀ j, j < i → th1 j = nI (pd w j)) → ∀ v2 v3 v4, ∃ v2' v3' v4' th', dn pg 138 2 [some (.ref o), some (.int (nI i)), v2, v3, v4] [] (sM hp o ((n, m, t, f, v, h, d), g1, g2, g3, g4, g5, th1, ha', we, fe, wi, od, go, ba, bw, am, aa, aw)) = dn pg 138 66 [some (.ref o), some (.int (nI 0)), v2', v3', v4'] [] (sM hp o ((n, m, t, f, v, h, d), g1, g2, g3, g4, g5, th', ha', we, fe, wi, od, go, ba, bw, am, aa, aw)) ∧ ∀ j, j < 8 → th' j = nI (pd w j) := by
    intro k
    induction k with
    | zero =>
      intro i hi th1 h1 v2 v3 v4
      have : i = 8 := by omega
      subst this
      exact ⟨_, _, _, th1, by rw [B138_2, if_pos (by decide)], h1⟩
    | succ k ih =>
      intro i hi th1 h1 v2 v3 v4
      have hi8 : i < 8 := by omega
      have hl8 : (i + 7) % 8 < 8 := Nat.mod_lt _ (by omega)
      have hr8 : (i + 1) % 8 < 8 := Nat.mod_lt _ (by omega)
      have a1 := hn _ hl8
      have a2 := hn _ hr8
      have at61 : ∀ v2 v3 v4 z, z = pd w i → ∃ v2' v3' v4' th', dn pg 138 61 [some (.ref o), some (.int (nI i)), v2, v3, v4] [.int (nI z), .int (nI i), .ref (o + 13)] (sM hp o ((n, m, t, f, v, h, d), g1, g2, g3, g4, g5, th1, ha', we, fe, wi, od, go, ba, bw, am, aa, aw)) = dn pg 138 66 [some (.ref o), some (.int (nI 0)), v2', v3', v4'] [] (sM hp o ((n, m, t, f, v, h, d), g1, g2, g3, g4, g5, th', ha', we, fe, wi, od, go, ba, bw, am, aa, aw)) ∧ ∀ j, j < 8 → th' j = nI (pd w j) := by
        intro v2 v3 v4 z hz
        obtain ⟨v2', v3', v4', th', e, h2⟩ := ih (i + 1) (by omega) (upd th1 i (nI z)) (by
          intro j hj
          by_cases hq : j = i
          · rw [hq, pk_us, hz]
          · rw [pk_un hq]
            exact h1 j (by omega)) v2 v3 v4
        exact ⟨v2', v3', v4', th', by rw [B138_61 (nl_ref _), wM_ths hx hi8, nI_add, e], h2⟩
      have at41 : ∀ c : Bool, c = (!hs v ((i + 7) % 8) && (!hs v ((i + 1) % 8) && decide (n.getD ((i + 7) % 8) 0 = n.getD ((i + 1) % 8) 0))) → ∃ v2' v3' v4' th', dn pg 138 41 [some (.ref o), some (.int (nI i)), some (.int (nI ((i + 7) % 8))), some (.int (nI ((i + 1) % 8))), v4] [.int (bI c)] (sM hp o ((n, m, t, f, v, h, d), g1, g2, g3, g4, g5, th1, ha', we, fe, wi, od, go, ba, bw, am, aa, aw)) = dn pg 138 66 [some (.ref o), some (.int (nI 0)), v2', v3', v4'] [] (sM hp o ((n, m, t, f, v, h, d), g1, g2, g3, g4, g5, th', ha', we, fe, wi, od, go, ba, bw, am, aa, aw)) ∧ ∀ j, j < 8 → th' j = nI (pd w j) := by
        intro c hc
        have hpi := hp1 i
        rw [← hc] at hpi
        rw [B138_41 (nl_int _), gM_18s hx, gM_4s hx]
        dsimp only
        rw [s_mhas hv hi8, er_i]
        simp only [bI_0]
        by_cases hb : hs v i = false
        · rw [if_pos hb, B138_57, gM_0s hx, rM_ns hx _ hi8]
          refine at61 _ _ _ _ ?_
          rw [hpi, hb, Bool.false_and, if_neg (by decide)]
        · have hb' : hs v i = true := by simpa using hb
          rw [if_neg hb]
          rw [hb', Bool.true_and] at hpi
          by_cases hcf : c = false
          · rw [if_pos hcf, B138_57, gM_0s hx, rM_ns hx _ hi8]
            refine at61 _ _ _ _ ?_
            rw [hpi, hcf, if_neg (by decide)]
          · have hct : c = true := by simpa using hcf
            rw [if_neg hcf, gM_0s hx, rM_ns hx _ hl8]
            refine at61 _ _ _ _ ?_
            rw [hpi, if_pos hct]
      rw [B138_2, if_neg (nI_ge (by omega) (by omega)), lf_I hi8, rt_I hi8, gM_4s hx]
      dsimp only
      rw [s_mhas hv hl8, er_i, gM_4s hx]
      dsimp only
      rw [s_mhas hv hr8, er_i, gM_0s hx, rM_ns hx _ hl8, gM_0s hx, rM_ns hx _ hr8]
      simp only [bI_0, B138_40]
      by_cases c1 : hs v ((i + 7) % 8) = false
      · rw [if_neg (not_not_intro c1)]
        by_cases c2 : hs v ((i + 1) % 8) = false
        · rw [if_neg (not_not_intro c2)]
          by_cases c3 : n.getD ((i + 7) % 8) 0 = n.getD ((i + 1) % 8) 0
          · rw [if_neg (not_not_intro (congrArg nI c3))]
            exact at41 true (by rw [c1, c2, decide_eq_true c3]; rfl)
          · rw [if_pos (fun z => c3 ((nI_eq (by omega) (by omega)).mp z))]
            exact at41 false (by rw [c1, c2, decide_eq_false c3]; rfl)
        · have c2' : hs v ((i + 1) % 8) = true := by simpa using c2
          rw [if_pos c2]
          exact at41 false (by rw [c1, c2']; rfl)
      · have c1' : hs v ((i + 7) % 8) = true := by simpa using c1
        rw [if_pos c1]
        exact at41 false (by rw [c1']; rfl)
  -- the second
  have snd : ∀ th1 : Nat → Int32, (∀ j, j < 8 → th1 j = nI (pd w j)) → ∀ v2 v3 v4, ∀ k i, i + k = 8 → dn pg 138 66 [some (.ref o), some (.int (nI i)), v2, v3, v4] [] (sM hp o ((dyN w i, m, t, f, v, h, d), g1, g2, g3, g4, g5, th1, ha', we, fe, wi, od, go, ba, bw, am, aa, aw)) = q_v (sM hp o ((dyN w 8, m, t, f, v, h, d + 1), g1, g2, g3, g4, g5, th1, ha', we, fe, wi, od, go, ba, bw, am, aa, aw)) := by
    intro th1 h1 v2 v3 v4 k
    induction k with
    | zero =>
      intro i hi
      have : i = 8 := by omega
      subst this
      rw [B138_66, if_pos (by decide), gM_6s hx]
      dsimp only
      rw [nI_add, pM_6s hx]
    | succ k ih =>
      intro i hi
      rw [B138_66, if_neg (nI_ge (by omega) (by omega)), gM_0s hx, gM_18s hx, rM_ths hx _ (i := i) (by omega)]
      dsimp only
      rw [h1 i (by omega), wM_ns hx (n := dyN w i) (i := i) (by omega) (mkL_len _ _), dyN_set (by omega), nI_add]
      exact ih (i + 1) (by omega)
  obtain ⟨v2', v3', v4', th', e, h1⟩ := fst 8 0 rfl th (fun j hj => absurd hj (Nat.not_lt_zero _)) none none none
  refine ⟨th', ?_⟩
  have e2 := snd th' h1 v2' v3' v4' 8 0 rfl
  rw [dyN_0 ok, hn1] at e2
  rw [sM_i hx] at e
  rw [E138, B138_0 (nl_ref _), e, e2]
  rw [← hw]
  rfl
theorem s_magree (hx : iM hp o x) (ok : okW (mW x)) {a b : Nat} (ha : a < 8) (hb : b < 8) (is : Bool) : cl pg 112 [.ref o, .int (nI a), .int (nI b), .int (bI is)] hp = q_v (sM hp o (mS x (uF (mW x) (trF (mW x) a b is)) (mth x))) := by
  obtain ⟨⟨n, m, t, f, v, h, d⟩, g1, g2, g3, g4, g5, g6⟩ := x
  have lf : f.length = 8 := ok.1.2.2.2
  have hf : ∀ i, i < 8 → f.getD i 0 < 256 := fun i hi => (ok.2.1 i hi).2.2.2
  have h2 : (f.set a (sb (f.getD a 0) b is)).getD b 0 < 256 := by
    rw [getD_set _ _ _ _ _ (by omega)]
    split
    · exact sb_lt' (hf a ha) hb is
    · exact hf b hb
  rw [E112, B112_0, gM_3 hx, gM_3 hx, rM_f hx ha, s_mwith (hf a ha) hb, er_i, wM_f hx ha lf, gM_3s hx, gM_3s hx, rM_fs hx _ hb]
  dsimp only
  rw [s_mwith h2 ha, er_i, wM_fs hx hb (by rw [List.length_set]; exact lf)]
  rfl
theorem s_happen (hx : iM hp o x) (ok : okW (mW x)) {k a b : Nat} (hk : k < 8) (ha : a < 8) (hb : b < 8 ∨ k = 6 ∧ b < 100) (hw : wny (mW x) (ckN k) a b = 0) : ∃ th, cl pg 133 [.ref o, .int (nI k), .int (nI a), .int (nI b)] hp = q_v (sM hp o (mS x (act (mW x) (ckN k) a b).2 th)) := by
  have hkk : ∀ c, c < 8 → (nI k = nI c) = (k = c) := fun c hc => propext (nI_eq (by omega) (by omega))
  rw [E133, B133_0]
  simp only [hkk 0 (by omega), hkk 1 (by omega), hkk 2 (by omega), hkk 3 (by omega), hkk 4 (by omega), hkk 5 (by omega), hkk 6 (by omega)]
  match k, hk, hb, hw with
  | 0, _, _, _ =>
    obtain ⟨⟨n, m, t, f, v, h, d⟩, g1, g2, g3, g4, g5, g6⟩ := x
    have hv : v < 256 := ok.2.2.1
    refine ⟨g6.1, ?_⟩
    rw [if_pos rfl, gM_4 hx]
    dsimp only
    rw [(sb_I v hv a ha).1, pM_4 hx, B133_52]
    rfl
  | 1, _, _, _ =>
    obtain ⟨⟨n, m, t, f, v, h, d⟩, g1, g2, g3, g4, g5, g6⟩ := x
    have hv : v < 256 := ok.2.2.1
    refine ⟨g6.1, ?_⟩
    rw [if_neg (by omega), if_pos rfl, gM_4 hx]
    dsimp only
    rw [(sb_I v hv a ha).2, pM_4 hx, B133_52]
    rfl
  | 2, _, hb, _ =>
    have hb : b < 8 := by omega
    obtain ⟨⟨n, m, t, f, v, h, d⟩, g1, g2, g3, g4, g5, g6⟩ := x
    have hv : v < 256 := ok.2.2.1
    have ln : n.length = 8 := ok.1.1
    refine ⟨g6.1, ?_⟩
    rw [if_neg (by omega), if_neg (by omega), if_pos rfl, vM hx, E134, B134_0, gM_4 hx]
    dsimp only
    rw [(sb_I v hv b hb).2, pM_4 hx, gM_0s hx, gM_0s hx, rM_ns hx _ ha]
    dsimp only
    rw [wM_ns hx hb ln, er_v, B133_52]
    rfl
  | 3, _, hb, _ =>
    have hb : b < 8 := by omega
    refine ⟨mth x, ?_⟩
    rw [if_neg (by omega), if_neg (by omega), if_neg (by omega), if_pos rfl, vM hx]
    have := s_magree hx ok ha hb true
    rw [bI_t] at this
    rw [this, er_v, B133_52]
    rfl
  | 4, _, _, _ =>
    obtain ⟨⟨n, m, t, f, v, h, d⟩, g1, g2, g3, g4, g5, g6⟩ := x
    have lt : t.length = 8 := ok.1.2.2.1
    refine ⟨g6.1, ?_⟩
    rw [if_neg (by omega), if_neg (by omega), if_neg (by omega), if_neg (by omega), if_pos rfl, gM_2 hx, rM_t hx ha, nI_add, wM_t hx ha lt, B133_52]
    rfl
  | 5, _, _, hw =>
    obtain ⟨⟨n, m, t, f, v, h, d⟩, g1, g2, g3, g4, g5, g6⟩ := x
    have lt : t.length = 8 := ok.1.2.2.1
    have h0 : 0 < t.getD a 0 ∧ 0 < h := by
      have e : wny (mW ((n, m, t, f, v, h, d), g1, g2, g3, g4, g5, g6)) (ckN 5) a b = if 0 < t.getD a 0 ∧ 0 < h then 0 else 5 := rfl
      rw [e] at hw
      by_cases q : 0 < t.getD a 0 ∧ 0 < h
      · exact q
      · rw [if_neg q] at hw
        omega
    refine ⟨g6.1, ?_⟩
    rw [if_neg (by omega), if_neg (by omega), if_neg (by omega), if_neg (by omega), if_neg (by omega), if_pos rfl, vM hx, E135, B135_0, gM_2 hx, rM_t hx ha]
    dsimp only
    rw [pk_sub (by omega), wM_t hx ha lt, gM_5s hx]
    dsimp only
    rw [pk_sub (by omega), pM_5s hx, er_v, B133_52]
    rfl
  | 6, _, hb, _ =>
    refine ⟨mth x, ?_⟩
    rw [if_neg (by omega), if_neg (by omega), if_neg (by omega), if_neg (by omega), if_neg (by omega), if_neg (by omega), if_pos rfl, vM hx, s_gust hx ok (by omega), er_v, B133_52]
    rfl
  | 7, _, _, _ =>
    obtain ⟨th, e⟩ := s_mpassDay hx ok
    refine ⟨th, ?_⟩
    rw [if_neg (by omega), if_neg (by omega), if_neg (by omega), if_neg (by omega), if_neg (by omega), if_neg (by omega), if_neg (by omega), vM hx, e, er_v, B133_52]
    rfl
theorem s_treatyMany (hx : iM hp o x) (ok : okW (mW x)) : cl pg 113 [.ref o] hp = q_i (nI (trs (mW x))) hp := by
  obtain ⟨⟨n, m, t, f, v, h, d⟩, g1, g2, g3, g4, g5, g6⟩ := x
  have hf : ∀ i, i < 8 → f.getD i 0 < 256 := fun i hi => (ok.2.1 i hi).2.2.2
  have key : ∀ k i, i + k = 8 → dn pg 113 4 [some (.ref o), some (.int (nI (sm (fun i => pop (f.getD i 0)) i))), some (.int (nI i))] [] hp = q_i (nI (sm (fun i => pop (f.getD i 0)) 8 / 2)) hp := by
    intro k
    induction k with
    | zero =>
      intro i hi
      have : i = 8 := by omega
      subst this
      have hb := sm_le (f := fun i => pop (f.getD i 0)) (b := 8) 8 (fun i _ => pop_lt _)
      rw [B113_4, if_pos (by decide), pk_div (by omega) (by omega) (by omega)]
    | succ k ih =>
      intro i hi
      rw [B113_4, if_neg (nI_ge (by omega) (by omega)), gM_3 hx, rM_f hx (i := i) (by omega), s_ones (hf i (by omega)), er_i, nI_add, nI_add]
      exact ih (i + 1) (by omega)
  rw [E113, B113_0 (nl_ref _)]
  exact key 8 0 rfl
theorem s_manyOf (hx : iM hp o x) (ok : okW (mW x)) {k : Nat} (hk : k < 2 ^ 30) : cl pg 144 [.ref o, .int (nI k)] hp = q_i (nI (ppl (mW x) k)) hp := by
  obtain ⟨⟨n, m, t, f, v, h, d⟩, g1, g2, g3, g4, g5, g6⟩ := x
  have hn : ∀ i, i < 8 → n.getD i 0 < 4 := fun i hi => (ok.2.1 i hi).1
  have key : ∀ q i, i + q = 8 → dn pg 144 4 [some (.ref o), some (.int (nI k)), some (.int (nI (sm (fun i => if n.getD i 0 = k then 1 else 0) i))), some (.int (nI i))] [] hp = q_i (nI (sm (fun i => if n.getD i 0 = k then 1 else 0) 8)) hp := by
    intro q
    induction q with
    | zero =>
      intro i hi
      have : i = 8 := by omega
      subst this
      rw [B144_4, if_pos (by decide)]
    | succ q ih =>
      intro i hi
      have a1 := hn i (by omega)
      have e3 := ih (i + 1) (by omega)
      have e : sm (fun i => if n.getD i 0 = k then 1 else 0) (i + 1) = sm (fun i => if n.getD i 0 = k then 1 else 0) i + (if n.getD i 0 = k then 1 else 0) := rfl
      rw [B144_4, if_neg (nI_ge (by omega) (by omega)), gM_0 hx, rM_n hx (i := i) (by omega)]
      dsimp only
      by_cases h1 : n.getD i 0 = k
      · rw [e, if_pos h1] at e3
        rw [if_neg (not_not_intro (congrArg nI h1)), B144_17 (nl_int _), nI_add, nI_add]
        exact e3
      · rw [e, if_neg h1] at e3
        rw [if_pos (fun z => h1 ((nI_eq (by omega) (by omega)).mp z)), B144_17 (nl_int _), nI_add, nI_add]
        exact e3
  rw [E144, B144_0 (nl_int _)]
  exact key 8 0 rfl
end MW
