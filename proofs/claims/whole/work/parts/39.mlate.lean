/-! The reference's calls in time: what is due first is paid first. -/
theorem sm_pick {f : Nat → Nat} {c : Nat} : ∀ n, c < n → sm f n = f c + sm (fun i => if i = c then 0 else f i) n
  | 0, h => absurd h (Nat.not_lt_zero _)
  | n + 1, h => by
    show sm f n + f n = f c + (sm (fun i => if i = c then 0 else f i) n + if n = c then 0 else f n)
    by_cases hc : c = n
    · subst hc
      rw [if_pos rfl]
      have : sm (fun i => if i = c then 0 else f i) c = sm f c := sm_ext c (fun i hi => if_neg (by omega))
      rw [this]
      omega
    · rw [if_neg (fun q => hc q.symm), sm_pick (c := c) n (by omega)]
      omega
theorem sb_f {v i j : Nat} (hv : v < 256) (hi : i < 8) (hj : j < 8) : hs (sb v i false) j = (!decide (j = i) && hs v j) := (sb_hs v hv i hi j hj).2
theorem sb_fl : ∀ v, v < 256 → ∀ i, i < 8 → hs v i = true → sb v i false < v := by decide +kernel
theorem hs_ex : ∀ v, v < 64 → ¬ v = 0 → ∃ i, i < 6 ∧ hs v i = true := by decide +kernel
/-- the one that is due first, over the first k -/
def nxt (c : aC) (set : Nat) : Nat → Option Nat
  | 0 => none
  | k + 1 => match nxt c set k with
    | none => if hs set k = true then some k else none
    | some j => if hs set k = true ∧ c.2.getD k 0 < c.2.getD j 0 then some k else some j
theorem nxt_ok (c : aC) (set : Nat) : ∀ k, (nxt c set k = none → ∀ i, i < k → hs set i = false) ∧ (∀ j, nxt c set k = some j → j < k ∧ hs set j = true ∧ ∀ i, i < k → hs set i = true → c.2.getD j 0 ≤ c.2.getD i 0)
  | 0 => ⟨fun _ i hi => absurd hi (Nat.not_lt_zero _), fun j h => by cases h⟩
  | k + 1 => by
    obtain ⟨h1, h2⟩ := nxt_ok c set k
    unfold nxt
    cases hn : nxt c set k with
    | none =>
      dsimp only
      have h1 := h1 hn
      by_cases hb : hs set k = true
      · rw [if_pos hb]
        refine ⟨fun q => (by cases q), fun j hj => ?_⟩
        cases hj
        refine ⟨Nat.lt_succ_self _, hb, fun i hi hib => ?_⟩
        by_cases hik : i = k
        · rw [hik]
          exact Nat.le_refl _
        · have := h1 i (by omega)
          rw [this] at hib
          cases hib
      · rw [if_neg hb]
        refine ⟨fun _ i hi => ?_, fun j hj => by cases hj⟩
        by_cases hik : i = k
        · rw [hik]
          simpa using hb
        · exact h1 i (by omega)
    | some j =>
      dsimp only
      obtain ⟨a1, a2, a3⟩ := h2 j hn
      by_cases hb : hs set k = true ∧ c.2.getD k 0 < c.2.getD j 0
      · rw [if_pos hb]
        refine ⟨fun q => (by cases q), fun q hq => ?_⟩
        cases hq
        refine ⟨Nat.lt_succ_self _, hb.1, fun i hi hib => ?_⟩
        by_cases hik : i = k
        · rw [hik]
          exact Nat.le_refl _
        · have := a3 i (by omega) hib
          omega
      · rw [if_neg hb]
        refine ⟨fun q => (by cases q), fun q hq => ?_⟩
        cases hq
        refine ⟨by omega, a2, fun i hi hib => ?_⟩
        by_cases hik : i = k
        · rw [hik]
          rw [hik] at hib
          have : ¬ c.2.getD k 0 < c.2.getD j 0 := fun z => hb ⟨hib, z⟩
          omega
        · exact a3 i (by omega) hib
/-- all of a set can be in time, from minute t on -/
def fT (c : aC) (t set : Nat) : Prop := ∀ i, i < 6 → hs set i = true → t + mdb c (c.2.getD i 0) set 6 ≤ c.2.getD i 0
theorem mdb_pick {c : aC} {d set j : Nat} (hs' : set < 256) (hj : j < 6) (hb : hs set j = true) : mdb c d set 6 = (if c.2.getD j 0 ≤ d then c.1.getD j 0 else 0) + mdb c d (sb set j false) 6 := by
  unfold mdb
  rw [sm_pick (c := j) 6 hj]
  congr 1
  · simp only [hb, true_and]
  · apply sm_ext
    intro i hi
    rw [sb_f hs' (by omega) (by omega)]
    by_cases hij : i = j
    · subst hij
      simp
    · simp [hij]
theorem fT_step {c : aC} {t set j : Nat} (hs' : set < 256) (hj : j < 6) (hb : hs set j = true) (hm : ∀ i, i < 6 → hs set i = true → c.2.getD j 0 ≤ c.2.getD i 0) : fT c t set ↔ (t + c.1.getD j 0 ≤ c.2.getD j 0 ∧ fT c (t + c.1.getD j 0) (sb set j false)) := by
  constructor
  · intro h
    refine ⟨?_, fun i hi hib => ?_⟩
    · have := h j hj hb
      rw [mdb_pick hs' hj hb, if_pos (Nat.le_refl _)] at this
      omega
    · rw [sb_f hs' (by omega) (by omega)] at hib
      have hib : hs set i = true := by
        revert hib
        cases hs set i
        · simp
        · simp
      have := h i hi hib
      rw [mdb_pick hs' hj hb, if_pos (hm i hi hib)] at this
      omega
  · rintro ⟨h1, h2⟩ i hi hib
    rw [mdb_pick hs' hj hb, if_pos (hm i hi hib)]
    by_cases hij : i = j
    · subst hij
      by_cases hex : ∃ q, q < 6 ∧ hs (sb set i false) q = true ∧ c.2.getD q 0 ≤ c.2.getD i 0
      · obtain ⟨q, q1, q2, q3⟩ := hex
        have h3 := h2 q q1 q2
        rw [sb_f hs' (by omega) (by omega)] at q2
        have q2' : hs set q = true := by
          revert q2
          cases hs set q
          · simp
          · simp
        have q4 := hm q q1 q2'
        have e : c.2.getD q 0 = c.2.getD i 0 := by omega
        rw [e] at h3
        omega
      · have : mdb c (c.2.getD i 0) (sb set i false) 6 = 0 := by
          unfold mdb
          have := sm_le (f := fun q => if hs (sb set i false) q = true ∧ c.2.getD q 0 ≤ c.2.getD i 0 then c.1.getD q 0 else 0) (b := 0) 6 (fun q hq => by
            rw [if_neg (fun z => hex ⟨q, hq, z.1, z.2⟩)]
            exact Nat.le_refl _)
          omega
        rw [this]
        omega
    · have := h2 i hi (by rw [sb_f hs' (by omega) (by omega), hib]; simp [hij])
      omega
section ML
variable {hp : pH} {o : Nat} {x : aM}
theorem s_nextCall (hx : iM hp o x) (ok : okC x.2.1) {set : Nat} (h64 : set < 64) : cl pg 153 [.ref o, .int (nI set)] hp = q_i ((nxt x.2.1 set 6).elim (-6) nI) hp := by
  have key : ∀ k i, i + k = 6 → dn pg 153 4 [some (.ref o), some (.int (nI set)), some (.int ((nxt x.2.1 set i).elim (-6) nI)), some (.int (nI i))] [] hp = q_i ((nxt x.2.1 set 6).elim (-6) nI) hp := by
    intro k
    induction k with
    | zero =>
      intro i hi
      have : i = 6 := by omega
      subst this
      rw [B153_4, if_pos (by decide)]
    | succ k ih =>
      intro i hi
      have h6 : i < 6 := by omega
      have hdi := (ok.2 i h6).2
      rw [B153_4, if_neg (nI_ge h6 (by omega)), s_mhas (by omega) (by omega), er_i]
      simp only [bI_0, B153_22, B153_24, B153_25 (nl_int _), nI_add]
      rw [← ih (i + 1) (by omega)]
      obtain ⟨_, h2⟩ := nxt_ok x.2.1 set i
      have en : nxt x.2.1 set (i + 1) = match nxt x.2.1 set i with
        | none => if hs set i = true then some i else none
        | some j => if hs set i = true ∧ x.2.1.2.getD i 0 < x.2.1.2.getD j 0 then some i else some j := rfl
      rw [en]
      by_cases hb : hs set i = true
      · rw [if_neg (show ¬ hs set i = false from fun z => by rw [hb] at z; cases z)]
        cases hn : nxt x.2.1 set i with
        | none =>
          dsimp only
          rw [if_pos (show ((none : Option Nat).elim (-6) nI) < nI 0 by decide), if_pos hb]
          rfl
        | some j =>
          obtain ⟨a1, a2, a3⟩ := h2 j hn
          have hdj := (ok.2 j (by omega)).2
          dsimp only
          rw [if_neg (show ¬ ((some j).elim (-6) nI) < nI 0 from nI_nlt (Nat.zero_le _) (by omega)), gM_8 hx, rM_du hx h6, gM_8 hx]
          show qa_i hp (o + 6) 0 (nI j) _ = _
          rw [rM_du hx (i := j) (by omega)]
          by_cases hlt : x.2.1.2.getD i 0 < x.2.1.2.getD j 0
          · rw [if_neg (nI_ge hlt (by omega)), if_pos ⟨hb, hlt⟩]
            rfl
          · rw [if_pos (nI_le (by omega) (by omega)), if_neg (fun z => hlt z.2)]
      · have hb' : hs set i = false := by simpa using hb
        rw [if_pos hb']
        cases hn : nxt x.2.1 set i with
        | none =>
          dsimp only
          rw [if_neg hb]
        | some j =>
          dsimp only
          rw [if_neg (fun z => hb z.1)]
  rw [E153, B153_0 (nl_int _)]
  exact key 6 0 rfl
theorem s_isInTime (hx : iM hp o x) (ok : okC x.2.1) {set : Nat} (h64 : set < 64) : cl pg 152 [.ref o, .int (nI set)] hp = q_i (bI (cbt x.2.1 set 6)) hp := by
  have key : ∀ n, ∀ L t : Nat, L ≤ n → L < 64 → t < 2 ^ 20 → ∀ b : Bool, (b = true ↔ fT x.2.1 t L) → ∀ v5, dn pg 152 6 [some (.ref o), some (.int (nI set)), some (.int (nI t)), some (.int (nI L)), some (.int (nI 1)), v5] [] hp = q_i (bI b) hp := by
    intro n
    induction n with
    | zero =>
      intro L t hn h64 ht b hb v5
      have : L = 0 := by omega
      subst this
      have : b = true := hb.mpr (fun i _ h => by
        rw [hs_0] at h
        cases h)
      rw [B152_6 (nl_int _), if_pos rfl, B152_40, ez1, this]
      rfl
    | succ n ih =>
      intro L t hn h64 ht b hb v5
      by_cases h0 : L = 0
      · exact ih L t (by omega) h64 ht b hb v5
      · obtain ⟨i0, hi0, hb0⟩ := hs_ex L h64 h0
        obtain ⟨n1, n2⟩ := nxt_ok x.2.1 L 6
        have hsome : ∃ j, nxt x.2.1 L 6 = some j := by
          cases hn : nxt x.2.1 L 6 with
          | none =>
            have := n1 hn i0 hi0
            rw [hb0] at this
            cases this
          | some j => exact ⟨j, rfl⟩
        obtain ⟨j, hj⟩ := hsome
        obtain ⟨j6, jb, jm⟩ := n2 j hj
        have hbj := ok.2 j j6
        have hlt := sb_fl L (by omega) j (by omega) jb
        have hst := fT_step (c := x.2.1) (t := t) (set := L) (by omega) j6 jb jm
        rw [B152_6 (nl_int _), if_neg (fun z => h0 ((nI_eq (by omega) (by omega)).mp z)), if_neg n10, vM hx, s_nextCall hx ok h64, er_i, hj, show ((some j : Option Nat).elim (-6) nI : Int32) = nI j from rfl]
        rw [gM_7 hx, rM_mi hx j6, gM_8 hx, rM_du hx j6, nI_add]
        simp only [B152_30 (nl_int _)]
        rw [(sb_I L (by omega) j (by omega)).2]
        by_cases hle : t + x.2.1.1.getD j 0 ≤ x.2.1.2.getD j 0
        · rw [if_neg (nI_nlt hle (by omega))]
          refine ih _ _ (by omega) (by omega) (by omega) b ?_ _
          rw [hb, hst]
          exact ⟨fun z => z.2, fun z => ⟨hle, z⟩⟩
        · rw [if_pos (nI_lt (by omega) (by omega)), B152_6 (nl_int _), B152_40]
          have : b = false := by
            cases b
            · rfl
            · exact absurd (hst.mp (hb.mp rfl)).1 hle
          rw [this, if_pos rfl, ez0]
          split <;> rfl
  rw [E152, B152_0]
  refine key set set 0 (Nat.le_refl _) h64 (by omega) _ ?_ _
  rw [cbt_iff]
  unfold fT
  simp only [Nat.zero_add]
/-- what late answers -/
def laV (c : aC) (z : Nat) : Nat := if z = 0 then 6 - pop (bst (fun set => cbt c set 6) 63) else bst (fun set => cbt c set 6) 63
theorem pop_6 : ∀ v, v < 64 → pop v ≤ 6 := by decide +kernel
theorem s_mlate (hx : iM hp o x) (ok : okC x.2.1) {z : Nat} (hz : z ≤ 1) : cl pg 151 [.ref o, .int (nI z)] hp = q_i (nI (laV x.2.1 z)) hp := by
  rw [E151, B151_0, inT (rgT (Nat.zero_le _) hz (by decide)) (by decide) (by decide), er_i, if_pos n10]
  have key : ∀ k i, i + k = 63 → dn pg 151 12 [some (.ref o), some (.int (nI z)), some (.int (nI (bst (fun set => cbt x.2.1 set 6) i))), some (.int (nI (i + 1)))] [] hp = q_i (nI (laV x.2.1 z)) hp := by
    intro k
    induction k with
    | zero =>
      intro i hi
      have : i = 63 := by omega
      subst this
      have hb := bst_le (fun set => cbt x.2.1 set 6) 63
      rw [B151_12, if_pos (by decide), s_ones (by omega), er_i]
      unfold laV
      by_cases z0 : z = 0
      · rw [if_neg (not_not_intro (congrArg nI z0)), if_pos z0, B151_38, pk_sub (pop_6 _ (by omega))]
      · rw [if_pos (fun q => z0 ((nI_eq (by omega) (by omega)).mp q)), if_neg z0, B151_38]
    | succ k ih =>
      intro i hi
      have hb := bst_le (fun set => cbt x.2.1 set 6) i
      have p1 := pop_lt (i + 1)
      have p2 := pop_lt (bst (fun set => cbt x.2.1 set 6) i)
      rw [B151_12, if_neg (nI_ge (by omega) (by omega)), s_ones (by omega), er_i, s_ones (by omega), er_i]
      simp only [B151_26, B151_27 (nl_int _), nI_add]
      rw [← ih (i + 1) (by omega)]
      have e : bst (fun set => cbt x.2.1 set 6) (i + 1) = if pop (bst (fun set => cbt x.2.1 set 6) i) < pop (i + 1) ∧ cbt x.2.1 (i + 1) 6 = true then i + 1 else bst (fun set => cbt x.2.1 set 6) i := rfl
      rw [e]
      by_cases h1 : pop (bst (fun set => cbt x.2.1 set 6) i) < pop (i + 1)
      · rw [if_neg (nI_ge h1 (by omega)), vM hx, s_isInTime hx ok (by omega), er_i]
        simp only [bI_0]
        by_cases h2 : cbt x.2.1 (i + 1) 6 = true
        · rw [if_neg (by rw [h2]; simp), if_pos ⟨h1, h2⟩]
        · rw [if_pos (by simpa using h2), if_neg (fun z => h2 z.2)]
      · rw [if_pos (nI_le (by omega) (by omega)), if_neg (fun z => h1 z.1)]
  exact key 63 0 rfl
end ML
