/-! Rhythms: which fit, and when to look: the class's and the reference's. -/
def dnb (r e : Nat) : Bool := decide ((e + r % 10) % (r / 100) < r / 10 % 10)
def okr (r : Nat) : Bool := decide (1 ≤ r / 10 % 10) && decide (r / 10 % 10 ≤ r / 100 - 1) && decide (r % 10 ≤ r / 100 - 1)
def agb (e : Nat → Nat) (P : Nat → Bool) (r : Nat) : Nat → Bool
  | 0 => true
  | k + 1 => agb e P r k && (dnb r (e k) == P k)
theorem agb_iff {e : Nat → Nat} {P : Nat → Bool} {r : Nat} : ∀ k, agb e P r k = true ↔ ∀ i, i < k → dnb r (e i) = P i
  | 0 => by simp [agb]
  | k + 1 => by
    unfold agb
    rw [Bool.and_eq_true, agb_iff k]
    constructor
    · rintro ⟨h1, h2⟩ i hi
      by_cases hk : i = k
      · subst hk
        exact beq_iff_eq.mp h2
      · exact h1 i (by omega)
    · intro h
      exact ⟨fun i hi => h i (by omega), beq_iff_eq.mpr (h k (by omega))⟩
theorem agb_ext {e e' : Nat → Nat} {P P' : Nat → Bool} {r : Nat} : ∀ k, (∀ i, i < k → e i = e' i) → (∀ i, i < k → P i = P' i) → agb e P r k = agb e' P' r k
  | 0, _, _ => rfl
  | k + 1, h, h' => by
    unfold agb
    rw [agb_ext k (fun i hi => h i (by omega)) (fun i hi => h' i (by omega)), h k (by omega), h' k (by omega)]
def Lf (m c f : Nat) : Nat → List Nat
  | 0 => []
  | k + 1 => (100 * m + 10 * c + f) :: Lf m c (f + 1) k
def Lc (m c : Nat) : Nat → List Nat
  | 0 => []
  | k + 1 => Lf m c 0 m ++ Lc m (c + 1) k
def Lm (m : Nat) : Nat → List Nat
  | 0 => []
  | k + 1 => Lc m 1 (m - 1) ++ Lm (m + 1) k
theorem RL_eq : Lm 2 6 = (List.range' 200 600).filter okr := by decide +kernel
theorem RL_len : (Lm 2 6).length = 112 := by decide +kernel
def fitL (e : Nat → Nat) (P : Nat → Bool) (n : Nat) : List Nat := (Lm 2 6).filter (fun r => agb e P r n)
theorem fitL_ext {e e' : Nat → Nat} {P P' : Nat → Bool} {n : Nat} (h : ∀ i, i < n → e i = e' i) (h' : ∀ i, i < n → P i = P' i) : fitL e P n = fitL e' P' n := by
  unfold fitL
  congr 1
  funext r
  exact agb_ext n h h'
theorem fitL_mem {e : Nat → Nat} {P : Nat → Bool} {n r : Nat} (h : r ∈ fitL e P n) : 200 ≤ r ∧ r < 800 := by
  unfold fitL at h
  have h1 := (List.mem_filter.mp h).1
  rw [RL_eq] at h1
  have h2 := List.mem_range'_1.mp (List.mem_filter.mp h1).1
  omega
theorem fitL_le (e : Nat → Nat) (P : Nat → Bool) (n : Nat) : (fitL e P n).length ≤ 112 := by
  have := List.length_filter_le (fun r => agb e P r n) (Lm 2 6)
  rw [RL_len] at this
  exact this
theorem gd_e {L : List Nat} {i : Nat} (h : i < L.length) : L.getD i 0 = L[i] := by
  rw [List.getD_eq_getElem?_getD, List.getElem?_eq_getElem h]
  rfl
theorem getD_mem {L : List Nat} {i : Nat} (h : i < L.length) : L.getD i 0 ∈ L := by
  rw [gd_e h]
  exact List.getElem_mem h
section RH
variable {hp : pH} {o p : Nat}
theorem rh_d {r : Nat} (h2 : r < 1000) : nI r / nI 100 = nI (r / 100) ∧ (nI r / nI 10) % nI 10 = nI (r / 10 % 10) ∧ nI r % nI 10 = nI (r % 10) := by
  refine ⟨pk_div (by omega) (by omega) (by omega), ?_, rem_I (by omega) (by omega) (by omega)⟩
  rw [pk_div (by omega) (by omega) (by omega), rem_I (by omega) (by omega) (by omega)]
theorem s_rDown {r e : Nat} (h1 : 100 ≤ r) (h2 : r < 1000) (he : e < 1000) : cl pg 87 [.int (nI r), .int (nI e)] hp = q_i (bI (dnb r e)) hp := by
  obtain ⟨d1, d2, d3⟩ := rh_d h2
  have d5 : nI (e + r % 10) % nI (r / 100) = nI ((e + r % 10) % (r / 100)) := rem_I (by omega) (by omega) (by omega)
  have hlt : (e + r % 10) % (r / 100) < r / 100 := Nat.mod_lt _ (by omega)
  rw [E87, B87_0]
  simp only [d1, d2, d3, nI_add, d5, B87_21, B87_22]
  rw [if_neg (nI_ge (by omega) (by omega)), if_neg (fun z => absurd ((nI_eq (by omega) (by omega)).mp z) (by omega))]
  unfold dnb
  by_cases h : (e + r % 10) % (r / 100) < r / 10 % 10
  · rw [if_neg (nI_ge h (by omega)), decide_eq_true h]
    rfl
  · rw [if_pos (nI_le (by omega) (by omega)), decide_eq_false h]
    rfl
theorem s_downBy {r e : Nat} (h1 : 100 ≤ r) (h2 : r < 1000) (he : e < 1000) : cl pg 164 [.int (nI r), .int (nI e)] hp = q_i (bI (dnb r e)) hp := by
  obtain ⟨d1, d2, d3⟩ := rh_d h2
  have d5 : nI (e + r % 10) % nI (r / 100) = nI ((e + r % 10) % (r / 100)) := rem_I (by omega) (by omega) (by omega)
  have hlt : (e + r % 10) % (r / 100) < r / 100 := Nat.mod_lt _ (by omega)
  rw [E164, B164_0]
  simp only [d1, d2, d3, nI_add, d5, B164_18]
  rw [if_neg (fun z => absurd ((nI_eq (by omega) (by omega)).mp z) (by omega))]
  unfold dnb
  by_cases h : (e + r % 10) % (r / 100) < r / 10 % 10
  · rw [if_neg (nI_ge h (by omega)), decide_eq_true h]
    rfl
  · rw [if_pos (nI_le (by omega) (by omega)), decide_eq_false h]
    rfl
abbrev agS (s : aS) (r : Nat) : Bool := agb (fun i => s.1.getD i 0) (hs s.2.1) r s.2.2
theorem bI_inj (a b : Bool) : (bI a = bI b) = (a = b) := by cases a <;> cases b <;> simp [bI, one_ne]
  <;> decide
theorem s_agree {s : aS} (hx : iS hp o s) (ok : okS s) {r : Nat} (h1 : 100 ≤ r) (h2 : r < 1000) : cl pg 86 [.ref o, .int (nI r)] hp = q_i (bI (agS s r)) hp := by
  have hcn := ok.2.2.1
  rw [E86, B86_0 (nl_int _)]
  have key : ∀ k i, i + k = s.2.2 → agb (fun i => s.1.getD i 0) (hs s.2.1) r i = true → dn pg 86 2 [some (.ref o), some (.int (nI r)), some (.int (nI i))] [] hp = q_i (bI (agS s r)) hp := by
    intro k
    induction k with
    | zero =>
      intro i hi ha
      have : i = s.2.2 := by omega
      subst this
      rw [B86_2, gS_2 hx, if_pos (nI_le (Nat.le_refl _) (by omega)), B86_24, ez1]
      unfold agS
      rw [ha]
      rfl
    | succ k ih =>
      intro i hi ha
      have he := ok.2.1 i (by omega)
      rw [B86_2, gS_2 hx, if_neg (nI_ge (by omega) (by omega)), if_neg (nI_ge (by omega) (by omega)), gS_0 hx, rS_ev hx (i := i) (by omega), s_rDown h1 h2 (by omega), er_i, gS_1 hx, s_has (okS_lt ok) (by omega), er_i, nI_add]
      simp only [bI_inj]
      by_cases h : dnb r (s.1.getD i 0) = hs s.2.1 i
      · rw [if_pos h]
        refine ih (i + 1) (by omega) ?_
        unfold agb
        rw [ha, h]
        simp
      · rw [if_neg h, ez0]
        have : agS s r = false := by
          cases hh : agS s r
          · rfl
          · exact absurd ((agb_iff _).mp hh i (by omega)) h
        rw [this]
        rfl
  exact key s.2.2 0 (Nat.zero_add _) rfl
/-- gathering those of a list that agree -/
def gst (A : Nat → Bool) (q : aQ) (r : Nat) : aQ := if A r = true then (upd q.1 q.2 (nI r), q.2 + 1) else q
def gl (A : Nat → Bool) (q : aQ) : List Nat → aQ
  | [] => q
  | r :: L => gl A (gst A q r) L
theorem gl_app (A : Nat → Bool) (q : aQ) (L M : List Nat) : gl A q (L ++ M) = gl A (gl A q L) M := by
  induction L generalizing q with
  | nil => rfl
  | cons r L ih => exact ih _
theorem gst_le (A : Nat → Bool) (q : aQ) (r : Nat) : (gst A q r).2 ≤ q.2 + 1 := by
  unfold gst
  split
  · exact Nat.le_refl _
  · omega
theorem gl_le (A : Nat → Bool) (q : aQ) (L : List Nat) : (gl A q L).2 ≤ q.2 + L.length := by
  induction L generalizing q with
  | nil => exact Nat.le_refl _
  | cons r L ih =>
    have := ih (gst A q r)
    have := gst_le A q r
    show (gl A (gst A q r) L).2 ≤ _
    simp only [List.length_cons]
    omega
theorem gl_at (A : Nat → Bool) (q : aQ) (L : List Nat) : (gl A q L).2 = q.2 + (L.filter A).length ∧ (∀ j, j < q.2 → (gl A q L).1 j = q.1 j) ∧ ∀ j, j < (L.filter A).length → (gl A q L).1 (q.2 + j) = nI ((L.filter A).getD j 0) := by
  induction L generalizing q with
  | nil => exact ⟨rfl, fun _ _ => rfl, fun j hj => absurd hj (Nat.not_lt_zero _)⟩
  | cons r L ih =>
    obtain ⟨h1, h2, h3⟩ := ih (gst A q r)
    show (gl A (gst A q r) L).2 = _ ∧ (∀ j, j < q.2 → (gl A (gst A q r) L).1 j = q.1 j) ∧ ∀ j, j < ((r :: L).filter A).length → (gl A (gst A q r) L).1 (q.2 + j) = _
    by_cases ha : A r = true
    · have eg : gst A q r = (upd q.1 q.2 (nI r), q.2 + 1) := if_pos ha
      have ef : (r :: L).filter A = r :: L.filter A := List.filter_cons_of_pos ha
      rw [ef]
      rw [eg] at h1 h2 h3 ⊢
      refine ⟨?_, ?_, ?_⟩
      · rw [h1, List.length_cons]
        show q.2 + 1 + _ = _
        omega
      · intro j hj
        rw [h2 j (Nat.lt_succ_of_lt hj)]
        exact pk_un (by omega)
      · intro j hj
        cases j with
        | zero =>
          exact (h2 q.2 (Nat.lt_succ_self _)).trans pk_us
        | succ j =>
          rw [List.length_cons] at hj
          have := h3 j (by omega)
          rw [show q.2 + (j + 1) = q.2 + 1 + j by omega]
          rw [this]
          rfl
    · have eg : gst A q r = q := if_neg ha
      have ef : (r :: L).filter A = L.filter A := List.filter_cons_of_neg ha
      rw [ef]
      rw [eg] at h1 h2 h3 ⊢
      exact ⟨h1, h2, h3⟩
theorem Lf_len (m c : Nat) : ∀ k f, (Lf m c f k).length = k
  | 0, _ => rfl
  | k + 1, f => by
    show (Lf m c (f + 1) k).length + 1 = _
    rw [Lf_len m c k (f + 1)]
theorem iS_oQ {s : aS} (hy : iS hp p s) (hd : p + 2 ≤ o ∨ o + 2 ≤ p) (x : aQ) : iS (sQ hp o x) p s := isAt_other hy hd
section GA
variable {s : aS} {q0 : aQ}
theorem s_gatherOne (hx : iQ hp o q0) (hy : iS hp p s) (ok : okS s) (hd : p + 2 ≤ o ∨ o + 2 ≤ p) {r : Nat} (h1 : 100 ≤ r) (h2 : r < 1000) (q : aQ) (hq : q.2 < 112) : cl pg 85 [.ref o, .int (nI r), .ref p] (sQ hp o q) = q_v (sQ hp o (gst (agS s) q r)) := by
  have hy' := iS_oQ hy hd q
  obtain ⟨fi, cn⟩ := q
  dsimp only at hq
  rw [E85, B85_0, gQ_1s hx, s_within, er_i, rgb (by omega) (by decide) (by decide)]
  simp only [bI_0]
  rw [if_neg (by simp; omega), vS hy', s_agree hy' ok h1 h2, er_i]
  simp only [bI_0, B85_22]
  unfold gst
  by_cases ha : agS s r = true
  · rw [if_neg (by rw [ha]; simp), if_pos ha, gQ_0s hx, gQ_1s hx]
    dsimp only
    rw [wQ_fis hx hq, gQ_1s hx]
    dsimp only
    rw [nI_add, pQ_1s hx]
  · rw [if_pos (by simpa using ha), if_neg ha]
theorem g_f (hx : iQ hp o q0) (hy : iS hp p s) (ok : okS s) (hd : p + 2 ≤ o ∨ o + 2 ≤ p) {m c : Nat} (hm : 2 ≤ m) (hm2 : m ≤ 7) (hc : c < m) : ∀ k f, f + k = m → ∀ q : aQ, q.2 + k ≤ 112 → dn pg 84 15 [some (.ref o), some (.ref p), some (.int (nI m)), some (.int (nI c)), some (.int (nI f))] [] (sQ hp o q) = dn pg 84 10 [some (.ref o), some (.ref p), some (.int (nI m)), some (.int (nI (c + 1))), some (.int (nI m))] [] (sQ hp o (gl (agS s) q (Lf m c f k))) := by
  intro k
  induction k with
  | zero =>
    intro f hf q hq
    have : f = m := by omega
    subst this
    rw [B84_15, if_pos (nI_le (Nat.le_refl _) (by omega)), nI_add]
    rfl
  | succ k ih =>
    intro f hf q hq
    have e : ((nI 100 * nI m) + (nI 10 * nI c)) + nI f = nI (100 * m + 10 * c + f) := by
      rw [pk_mul, pk_mul, nI_add, nI_add]
    rw [B84_15, if_neg (nI_ge (by omega) (by omega)), vQ_s hx, e, s_gatherOne hx hy ok hd (by omega) (by omega) q (by omega), er_v, nI_add]
    have := gst_le (agS s) q (100 * m + 10 * c + f)
    exact ih (f + 1) (by omega) _ (by omega)
theorem g_c (hx : iQ hp o q0) (hy : iS hp p s) (ok : okS s) (hd : p + 2 ≤ o ∨ o + 2 ≤ p) {m : Nat} (hm : 2 ≤ m) (hm2 : m ≤ 7) : ∀ k c, c + k = m → ∀ (q : aQ) (v4 : pO), q.2 + k * m ≤ 112 → ∃ v3 v4', dn pg 84 10 [some (.ref o), some (.ref p), some (.int (nI m)), some (.int (nI c)), v4] [] (sQ hp o q) = dn pg 84 5 [some (.ref o), some (.ref p), some (.int (nI (m + 1))), v3, v4'] [] (sQ hp o (gl (agS s) q (Lc m c k))) := by
  intro k
  induction k with
  | zero =>
    intro c hc q v4 hq
    have : c = m := by omega
    subst this
    exact ⟨_, _, by rw [B84_10 (nl_ref _), if_pos (nI_le (Nat.le_refl _) (by omega)), nI_add]; rfl⟩
  | succ k ih =>
    intro c hc q v4 hq
    rw [Nat.succ_mul] at hq
    rw [B84_10 (nl_ref _), if_neg (nI_ge (by omega) (by omega)), g_f hx hy ok hd hm hm2 (by omega) m 0 (by omega) q (by omega)]
    have := gl_le (agS s) q (Lf m c 0 m)
    rw [Lf_len] at this
    obtain ⟨v3, v4', h⟩ := ih (c + 1) (by omega) (gl (agS s) q (Lf m c 0 m)) (some (.int (nI m))) (by omega)
    refine ⟨v3, v4', ?_⟩
    rw [h, ← gl_app]
    rfl
theorem Lc_len (m : Nat) : ∀ k c, (Lc m c k).length = k * m
  | 0, _ => by rw [Nat.zero_mul]; rfl
  | k + 1, c => by
    show (Lf m c 0 m ++ Lc m (c + 1) k).length = _
    rw [List.length_append, Lf_len, Lc_len m k (c + 1), Nat.succ_mul, Nat.add_comm]
theorem g_m (hx : iQ hp o q0) (hy : iS hp p s) (ok : okS s) (hd : p + 2 ≤ o ∨ o + 2 ≤ p) : ∀ k m, 2 ≤ m → m + k = 8 → ∀ (q : aQ) (v3 v4 : pO), q.2 + (Lm m k).length ≤ 112 → dn pg 84 5 [some (.ref o), some (.ref p), some (.int (nI m)), v3, v4] [] (sQ hp o q) = q_v (sQ hp o (gl (agS s) q (Lm m k))) := by
  intro k
  induction k with
  | zero =>
    intro m hm hk q v3 v4 hq
    have : m = 8 := by omega
    subst this
    rw [B84_5, if_pos (by decide)]
    rfl
  | succ k ih =>
    intro m hm hk q v3 v4 hq
    have el : Lm m (k + 1) = Lc m 1 (m - 1) ++ Lm (m + 1) k := rfl
    rw [el] at hq ⊢
    rw [List.length_append, Lc_len] at hq
    rw [B84_5, if_neg (nI_nlt (by omega) (by omega))]
    obtain ⟨v3', v4', h⟩ := g_c hx hy ok hd hm (by omega) (m - 1) 1 (by omega) q v4 (by omega)
    rw [h, gl_app]
    have := gl_le (agS s) q (Lc m 1 (m - 1))
    rw [Lc_len] at this
    exact ih (m + 1) (by omega) (by omega) _ _ _ (by omega)
/-- the rows hold a list -/
def fiQ (q : aQ) (F : List Nat) : Prop := q.2 = F.length ∧ (∀ j, j < F.length → q.1 j = nI (F.getD j 0)) ∧ F.length ≤ 112 ∧ ∀ r, r ∈ F → 200 ≤ r ∧ r < 800
abbrev fitS (s : aS) : List Nat := fitL (fun i => s.1.getD i 0) (hs s.2.1) s.2.2
theorem s_gather (hx : iQ hp o q0) (hy : iS hp p s) (ok : okS s) (hd : p + 2 ≤ o ∨ o + 2 ≤ p) : ∃ q, cl pg 84 [.ref o, .ref p] hp = q_v (sQ hp o q) ∧ fiQ q (fitS s) := by
  obtain ⟨fi, cn⟩ := q0
  refine ⟨gl (agS s) (fi, 0) (Lm 2 6), ?_, ?_⟩
  · rw [E84, B84_0 (nl_ref _), pQ_1 hx]
    exact g_m hx hy ok hd 6 2 (by omega) (by omega) _ _ _ (by rw [RL_len]; exact Nat.le_refl _)
  · obtain ⟨h1, _, h3⟩ := gl_at (agS s) (fi, 0) (Lm 2 6)
    refine ⟨?_, ?_, fitL_le _ _ _, fun r hr => fitL_mem hr⟩
    · rw [h1]
      exact Nat.zero_add _
    · intro j hj
      have := h3 j hj
      dsimp only at this
      rw [Nat.zero_add] at this
      exact this
end GA
section RQ
variable {q : aQ} {F : List Nat}
theorem s_rAt (hx : iQ hp o q) (hf : fiQ q F) {i : Nat} (hi : i < 2 ^ 31) : cl pg 88 [.ref o, .int (nI i)] hp = q_i (if i < F.length then nI (F.getD i 0) else -6) hp := by
  obtain ⟨f1, f2, f3, f4⟩ := hf
  rw [E88, B88_0, gQ_1 hx, f1, s_within, er_i]
  simp only [bI_0, B88_16, B88_17]
  by_cases h : i < F.length
  · have : nI F.length - nI 1 = nI (F.length - 1) := pk_sub (by omega)
    rw [this, if_neg (by rw [rg_nI hi (by decide) (by omega)]; simp; omega), if_neg (nI_ge (by omega) (by omega)), gQ_0 hx, rQ_fi hx (i := i) (by omega), f2 i h, if_pos h]
  · rw [if_pos, if_neg h]
    by_cases h0 : F.length = 0
    · rw [h0]
      unfold rg
      have : ¬ nI i ≤ nI 0 - nI 1 := by
        have e : (nI 0 - nI 1).toInt = -1 := by decide
        rw [Int32.le_iff_toInt_le, e, nI_toInt hi]
        omega
      simp [this]
    · have : nI F.length - nI 1 = nI (F.length - 1) := pk_sub (by omega)
      rw [this, rg_nI hi (by decide) (by omega)]
      simp
      omega
def cdn (F : List Nat) (e i : Nat) : Nat := (F.take i).countP (fun r => dnb r e)
theorem cdn_s {F : List Nat} {e i : Nat} (h : i < F.length) : cdn F e (i + 1) = cdn F e i + (if dnb (F.getD i 0) e = true then 1 else 0) := by
  unfold cdn
  rw [List.take_add_one, List.getElem?_eq_getElem h, List.countP_append, gd_e h]
  simp [List.countP_cons]
theorem cdn_le (F : List Nat) (e i : Nat) : cdn F e i ≤ F.length := by
  have := List.countP_le_length (p := fun r => dnb r e) (l := F.take i)
  rw [List.length_take] at this
  unfold cdn
  omega
def lvb (F : List Nat) (e : Nat) : Nat := if F.countP (fun r => dnb r e) < F.length - F.countP (fun r => dnb r e) then F.length - F.countP (fun r => dnb r e) else F.countP (fun r => dnb r e)
theorem lvb_le (F : List Nat) (e : Nat) : lvb F e ≤ F.length := by
  have := List.countP_le_length (p := fun r => dnb r e) (l := F)
  unfold lvb
  split <;> omega
theorem s_leftAtMost (hx : iQ hp o q) (hf : fiQ q F) {e : Nat} (he : e < 100) : cl pg 91 [.ref o, .int (nI e)] hp = q_i (nI (lvb F e)) hp := by
  obtain ⟨f1, f2, f3, f4⟩ := hf
  rw [E91, B91_0 (nl_int _)]
  have key : ∀ k i, i + k = F.length → dn pg 91 4 [some (.ref o), some (.int (nI e)), some (.int (nI (cdn F e i))), some (.int (nI i))] [] hp = q_i (nI (lvb F e)) hp := by
    intro k
    induction k with
    | zero =>
      intro i hi
      have hi' : i = F.length := by omega
      have ec : cdn F e i = F.countP (fun r => dnb r e) := by
        unfold cdn
        rw [hi', List.take_length]
      have hc := cdn_le F e i
      rw [B91_4, gQ_1 hx, f1, if_pos (nI_le (by omega) (by omega)), B91_26, gQ_1 hx, f1, pk_sub hc]
      unfold lvb
      rw [ec] at hc ⊢
      by_cases h : F.countP (fun r => dnb r e) < F.length - F.countP (fun r => dnb r e)
      · rw [if_pos (nI_lt h (by omega)), if_pos h]
      · rw [if_neg (nI_nlt (by omega) (by omega)), if_neg h]
    | succ k ih =>
      intro i hi
      have hm := f4 _ (getD_mem (L := F) (i := i) (by omega))
      rw [B91_4, gQ_1 hx, f1, if_neg (nI_ge (by omega) (by omega)), if_neg (nI_ge (by omega) (by omega)), gQ_0 hx, rQ_fi hx (i := i) (by omega), f2 i (by omega), s_rDown (by omega) (by omega) (by omega), er_i]
      simp only [bI_0, B91_22 (nl_int _), nI_add]
      rw [← ih (i + 1) (by omega), cdn_s (by omega)]
      cases dnb (F.getD i 0) e
      · rw [if_pos rfl, if_neg (by simp)]
      · rw [if_neg (by simp), if_pos rfl]
  exact key F.length 0 (Nat.zero_add _)
/-- the first of those by which L is least -/
def amn (L : Nat → Nat) : Nat → Nat
  | 0 => 0
  | k + 1 => if L (k + 1) < L (amn L k) then k + 1 else amn L k
theorem amn_le (L : Nat → Nat) : ∀ k, amn L k ≤ k
  | 0 => Nat.le_refl 0
  | k + 1 => by
    have := amn_le L k
    unfold amn
    split <;> omega
def bev (F : List Nat) : Int32 := if F.length = 0 then -6 else nI (amn (lvb F) 60)
theorem s_bestEvening (hx : iQ hp o q) (hf : fiQ q F) : cl pg 90 [.ref o] hp = q_i (bev F) hp := by
  have hl : ∀ e, e < 100 → cl pg 91 [.ref o, .int (nI e)] hp = q_i (nI (lvb F e)) hp := fun e he => s_leftAtMost hx hf he
  obtain ⟨f1, f2, f3, f4⟩ := hf
  rw [E90, B90_0, gQ_1 hx, f1]
  unfold bev
  by_cases h0 : F.length = 0
  · rw [if_pos h0, B90_7, if_neg (by decide), gQ_1 hx, f1, h0, if_pos (by decide), B90_29]
  · rw [if_neg h0, B90_7, if_neg (by decide), gQ_1 hx, f1, if_neg (nI_ge (by omega) (by omega)), vQ hx, hl 0 (by omega), er_i, if_pos rfl, B90_23 (nl_ref _), B90_27 (nl_int _), nI_add]
    have key : ∀ k i, i + k = 60 → ∀ v4, dn pg 90 7 [some (.ref o), some (.int (nI (amn (lvb F) i))), some (.int (nI (lvb F (amn (lvb F) i)))), some (.int (nI (i + 1))), v4] [] hp = q_i (nI (amn (lvb F) 60)) hp := by
      intro k
      induction k with
      | zero =>
        intro i hi v4
        have : i = 60 := by omega
        subst this
        rw [B90_7, if_pos (by decide), B90_29]
      | succ k ih =>
        intro i hi v4
        have b1 := amn_le (lvb F) i
        have b2 := lvb_le F (amn (lvb F) i)
        have b3 := lvb_le F (i + 1)
        have h6 : ¬ nI (amn (lvb F) i) = -6 := nI_ne6 (by omega)
        rw [B90_7, if_neg (nI_nlt (by omega) (by omega)), gQ_1 hx, f1, if_neg (nI_ge (by omega) (by omega)), vQ hx, hl _ (by omega), er_i, if_neg h6, B90_23 (nl_ref _), B90_27 (nl_int _), B90_27 (nl_int _)]
        simp only [nI_add]
        rw [← ih (i + 1) (by omega) (some (.int (nI (lvb F (i + 1)))))]
        have e : amn (lvb F) (i + 1) = if lvb F (i + 1) < lvb F (amn (lvb F) i) then i + 1 else amn (lvb F) i := rfl
        rw [e]
        by_cases h : lvb F (i + 1) < lvb F (amn (lvb F) i)
        · rw [if_neg (nI_ge h (by omega)), if_pos h]
        · rw [if_pos (nI_le (by omega) (by omega)), if_neg h]
    exact key 60 0 rfl _
end RQ
end RH
