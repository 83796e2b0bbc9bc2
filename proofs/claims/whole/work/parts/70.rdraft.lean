/-! THE REFERENCE'S DRAFT -/
def mt_tl (ts : List mTk) : Nat := (ts.map (fun u => u.2.2.2.length)).sum
theorem mt_tl_app (a b : List mTk) : mt_tl (a ++ b) = mt_tl a + mt_tl b := by simp [mt_tl]
theorem mt_tks_one (t : mT) (l : Nat) : mt_tks [t] l = mt_tk t l := by rw [mt_tks_cons, mt_tks_nil, List.append_nil]
theorem mt_tk_mk (ys : List mT) (l : Nat) : mt_tk (mt_mk ys) l = (3, l, 0, []) :: mt_tks ys (l + 1) := by rw [mt_tk_list (mt_isL_mk ys), mt_els_mk]
theorem pP_sz {D : List Nat} : ∀ (n : Nat) (b : Bool) (k k' l : Nat) (xs : List mT), k ≤ D.length → pP D n b k = some (xs, k') → (mt_tks xs l).length + k ≤ k' ∧ mt_tl (mt_tks xs l) + k ≤ k' ∧ k' ≤ D.length ∧ k < k' := by
  intro n
  induction n with
  | zero => intro b k k' l xs _ h; cases h
  | succ n ih =>
    intro b k k' l xs hk h
    cases b with
    | false =>
      rw [pP] at h
      split at h
      · rename_i h91
        have hkl := mc_ne (D := D) (k := k) (by omega)
        split at h
        · rename_i h93
          cases h
          have hkl := mc_ne (D := D) (k := k + 1) (by omega)
          rw [mt_tks_one, mt_tk_mk, mt_tks_nil]
          simp [mt_tl]
          omega
        · rw [Option.map_eq_some_iff] at h
          obtain ⟨p, h1, e⟩ := h
          cases e
          obtain ⟨a, b, c, d⟩ := ih true (k + 1) p.2 (l + 1) p.1 hkl h1
          rw [mt_tks_one, mt_tk_mk]
          simp only [List.length_cons, mt_tl, List.map_cons, List.sum_cons, List.length_nil] at a b ⊢
          omega
      · rw [Option.map_eq_some_iff] at h
        obtain ⟨p, h1, e⟩ := h
        cases e
        have hlt := pS_lt hk (show pS D k = some (p.1, p.2) from h1)
        rw [mt_tks_one, mt_tk_leaf]
        simp only [List.length_cons, mt_tl, List.map_cons, List.sum_cons, List.length_nil, List.map_nil, List.sum_nil]
        have ht : (mt_st p.1 l).2.2.2.length + k ≤ p.2 := by
          rcases p with ⟨s, k2⟩
          rcases s with _ | n | s
          · show 0 + k ≤ k2
            omega
          · show 0 + k ≤ k2
            omega
          · show s.length + k ≤ k2
            unfold pS at h1
            split at h1
            · split at h1 <;> cases h1
            · split at h1
              · split at h1
                · cases h1; omega
                · cases h1
              · split at h1
                · rw [Option.map_eq_some_iff] at h1
                  obtain ⟨n, _, e⟩ := h1
                  cases e
                · rw [Option.map_eq_some_iff] at h1
                  obtain ⟨n, _, e⟩ := h1
                  cases e
        omega
    | true =>
      rw [pP, Option.bind_eq_some_iff] at h
      obtain ⟨p, h1, h2⟩ := h
      obtain ⟨a, b, c, d⟩ := ih false k p.2 l p.1 hk h1
      split at h2
      · rename_i h93
        have hkl := mc_ne (D := D) (k := p.2) (by omega)
        cases h2
        omega
      · split at h2
        · rename_i h44
          have hkl := mc_ne (D := D) (k := p.2) (by omega)
          rw [Option.map_eq_some_iff] at h2
          obtain ⟨r, h3, e⟩ := h2
          cases e
          obtain ⟨a2, b2, c2, d2⟩ := ih true (p.2 + 1) r.2 l r.1 hkl h3
          rw [mt_tks_app, List.length_append, mt_tl_app]
          omega
        · cases h2
def sD (σ : mS) (D : List Nat) : Prop := mD_ok D ∧ σ.1 3 = nI D.length ∧ ∀ i, i < D.length → σ.2.1 88 i = nI (mc D i)
theorem sD.keep {σ σ' : mS} {D : List Nat} {F : Nat → Prop} {B : Nat → Nat → Prop} {P W : Nat → Prop} (h : sD σ D) (K : mKp F B P W σ σ') (h3 : ¬ F 3) (hB : ∀ i, ¬ B 88 i) : sD σ' D := ⟨h.1, (K.1 3 h3).trans h.2.1, fun i hi => (K.2.1 88 i (by decide) (hB i)).trans (h.2.2 i hi)⟩
def rA (k p : Nat) : Prop := 19128 ≤ p ∧ p < 19128 + k
def rP (k p : Nat) : Prop := 19128 + k ≤ p
theorem gP_kp {σ : mS} {p c : Nat} (hc : c < 128) : mKp mN1 mN2 (fun q => q = p) mN1 σ (gP σ p c) := by
  refine ⟨fun _ _ => rfl, fun _ _ _ _ => rfl, fun q hq => by rw [mg_gP hc, if_neg hq], fun s _ _ => ⟨rfl, fun i _ => ?_⟩⟩
  unfold gP uL
  simp
section RD
variable {X : List Int32} {d : Nat} {σ : mS} {Q : Option Value → mS → Prop} {D : List Nat}
theorem t136 {k : Nat} (h : sD σ D) (hk : k < 2 ^ 30) (H : Q (some (.int (nI (mc D k)))) σ) : mM X (d + 1) 136 0 (mm_L0 136 [.ref 86, .int (nI k)]) [] σ Q := by
  obtain ⟨⟨h1, h1'⟩, h2, h3⟩ := h
  refine u136_0 ?_
  rw [h2]
  refine pk_le D.length k (fun h => ?_) (fun h => ⟨m_ix (by omega) (by decide), ?_⟩)
  · rw [mc_0 h] at H; exact H
  · have := (h1' _ (mc_in h)).2
    rw [mGet_e (by omega), h3 k h]
    exact ⟨m_cb (by omega), H⟩
theorem t141 {c : Nat} (hc : c < 65536) (H : Q (some (.int (if 48 ≤ c ∧ c ≤ 57 then 1 else 0))) σ) : mM X (d + 1) 141 0 (mm_L0 141 [.int (nI c)]) [] σ Q := by
  refine u141_0 (pk_lt c 48 (fun h => ?_) (fun h1 => pk_lt 57 c (fun h => ?_) (fun h2 => ?_)))
  · rw [if_neg (by omega)] at H; exact H
  · rw [if_neg (by omega)] at H; exact H
  · rw [if_pos (by omega)] at H; exact H
/-- addText -/
theorem t139 {A : Nat → Prop} {s l a n : Nat} {us : List mTk} {txt : List Nat} (S : mSlot σ A s us) (hc : us.length < mcp s) (hl : l < 64) (hn : n = txt.length) (hn6 : txt.length < 64) (ha : a + txt.length ≤ 19200) (hx : ∀ j (h : j < txt.length), A (a + j) ∧ mg σ (a + j) = txt[j])
    (H : ∀ σ', mKp mN1 mN2 mN1 (fun x => x = s) σ σ' → mSlot σ' A s (us ++ [(2, l, 0, txt)]) → Q none σ') : mM X (d + 3) 139 0 (mm_L0 139 [.ref 86, .int (nI s), .int (nI l), .int (nI a), .int (nI n)]) [] σ Q := by
  subst hn
  have he := mb_end S.1
  refine u139_0 (s122 (z := us.length) (k := 2) S.1 S.2.2.1 hc (by decide) hl ?_)
  rintro σ1 rfl
  rw [mAdd_e]
  refine ⟨rfl, s123 S.1 ⟨_, rfl, m_ix S.1 (by decide), ?_⟩⟩
  rw [mGet_e (by have := S.1; omega), mPush_sz, if_pos rfl, nI_add, ← Nat.add_assoc, nI_pred]
  refine s140 (k := 2) (l := l) (n := 0) (a := 0) (v := (0 : Int32).toBitVec.toNat) (by omega) ⟨by rw [mPush_row, if_pos rfl], by decide, hl, by decide, by decide, by decide⟩ hn6 (by omega) ?_
  rintro σ2 rfl
  rw [mPush_set]
  exact ⟨rfl, H _ (mPush_kp S.1 hc) (mPush_slot S hc (by decide) hl hn6 ha hx)⟩
theorem mSlot.add {A : Nat → Prop} {s l k : Nat} {us : List mTk} {v : Int32} (S : mSlot σ A s us) (hc : us.length < mcp s) (hk : k < 4) (hl : l < 64) (H : ∀ σ', mKp mN1 mN2 mN1 (fun x => x = s) σ σ' → mSlot σ' A s (us ++ [(k, l, v, [])]) → Q none σ') : mM X (d + 2) 122 0 (mm_L0 122 [.ref 86, .int (nI s), .int (nI k), .int (nI l), .int v]) [] σ Q := by
  refine s122 (z := us.length) S.1 S.2.2.1 hc hk hl ?_
  rintro σ1 rfl
  rw [mAdd_e]
  exact H _ (mPush_kp S.1 hc) (mPush_slot (txt := []) S hc hk hl (by decide) (by simp) (fun j h => absurd h (by simp)))
theorem t137_74 {k l : Nat} {o4 o5 : Option Value} : ∀ (m j n : Nat) (σ : mS), j = k + 1 + n → (pU D j).length = m → j ≤ D.length → sD σ D →
    (92 ∉ pU D j → ∀ σ', mKp mN1 mN2 (rP j) mN1 σ σ' → (∀ i (h : i < (pU D j).length), mg σ' (19128 + j + i) = (pU D j)[i]) → mM X (d + 4) 137 144 [some (.ref 86), some (.int (nI k)), some (.int (nI l)), some (.int (nI (n + m))), o4, o5] [] σ' Q) →
    (92 ∈ pU D j → ∀ σ', mKp mN1 mN2 (rP j) mN1 σ σ' → Q (some (.int 0)) σ') →
    mM X (d + 4) 137 74 [some (.ref 86), some (.int (nI k)), some (.int (nI l)), some (.int (nI n)), o4, o5] [] σ Q := by
  intro m
  induction m with
  | zero =>
    intro j n σ hj hm hjl hD H1 H0
    have h60 := hD.1.1
    have hu : pU D j = [] := List.length_eq_zero_iff.mp hm
    rw [hu] at H1
    have go := H1 (by simp) σ mKp.rf (fun i h => absurd h (by simp))
    refine u137_74 ?_
    rw [hD.2.1, nI_1, nI_add, ← hj]
    refine pk_le D.length j (fun _ => go) (fun hlt => t136 hD (by omega) ⟨_, rfl, ⟨fun _ => go, fun h => absurd ?_ h⟩⟩)
    rw [pU_c hlt] at hu
    split at hu
    · rename_i e; rw [e]; rfl
    · cases hu
  | succ m ih =>
    intro j n σ hj hm hjl hD H1 H0
    have h60 := hD.1.1
    have hlt : j < D.length := by
      rcases Nat.lt_or_ge j D.length with h | h
      · exact h
      · rw [pU_n h] at hm; simp at hm
    have e34 : mc D j ≠ 34 := by
      intro e
      rw [pU_c hlt, if_pos e] at hm; simp at hm
    have hu : pU D j = mc D j :: pU D (j + 1) := by rw [pU_c hlt, if_neg e34]
    have hm' : (pU D (j + 1)).length = m := by rw [hu, List.length_cons] at hm; omega
    have hml := mc_lt hD.1 j
    refine u137_74 ?_
    rw [hD.2.1, nI_1, nI_add, ← hj]
    refine pk_le D.length j (fun h => absurd h (by omega)) (fun _ => t136 hD (by omega) ⟨_, rfl, pk_eq (mc D j) 34 (fun h => absurd h e34) (fun _ => t136 hD (by omega) ⟨_, rfl, ?_⟩)⟩)
    refine pk_eq (mc D j) 92 (B := _) (A := _) (fun e92 => ?_) (fun e92 => ?_) |>.symm
    · exact H0 (by rw [hu, e92]; exact List.mem_cons_self) σ mKp.rf
    · refine t136 hD (by omega) ⟨_, rfl, ?_⟩
      have ea : ((19128 : Int32) + nI k) + (1 : Int32) + nI n = nI (19128 + j) := by
        rw [show (19128 : Int32) = nI 19128 from rfl, nI_add, nI_1, nI_add]; congr 1; omega
      rw [ea]
      refine s138 (by omega) (by omega) ?_
      rintro σ1 rfl
      have K1 : mKp mN1 mN2 (fun q => q = 19128 + j) mN1 σ (gP σ (19128 + j) (mc D j)) := gP_kp (by omega)
      have K1' : mKp mN1 mN2 (rP j) mN1 σ (gP σ (19128 + j) (mc D j)) := K1.mono (fun _ h => h) (fun _ _ h => h) (fun p h => by unfold rP; omega) (fun _ h => h)
      refine ⟨rfl, ?_⟩
      rw [nI_1]
      refine ih (j + 1) (n + 1) _ (by omega) hm' (by omega) (hD.keep K1 id (fun _ => id)) ?_ ?_
      · intro h92 σ2 K2 hg
        have K2' : mKp mN1 mN2 (rP j) mN1 (gP σ (19128 + j) (mc D j)) σ2 := K2.mono (fun _ h => h) (fun _ _ h => h) (fun p h => by unfold rP at *; omega) (fun _ h => h)
        have := H1 (by rw [hu]; intro h; rcases List.mem_cons.mp h with h | h; exact e92 h.symm; exact h92 h) σ2 (K1'.tr K2') ?_
        · rw [show n + 1 + m = n + (m + 1) by omega]; exact this
        · intro i hi
          have e1 : ∀ (L : List Nat) (hL : L = mc D j :: pU D (j + 1)) (hi : i < L.length), mg σ2 (19128 + j + i) = L[i] := by
            intro L hL hi
            subst hL
            cases i with
            | zero =>
              rw [Nat.add_zero, K2.2.2.1 (19128 + j) (by unfold rP; omega), mg_gP (by omega), if_pos rfl]; rfl
            | succ i =>
              rw [show 19128 + j + (i + 1) = 19128 + (j + 1) + i by omega, hg i (by simpa using hi)]; rfl
          exact e1 _ hu hi
      · intro h92 σ2 K2
        have K2' : mKp mN1 mN2 (rP j) mN1 (gP σ (19128 + j) (mc D j)) σ2 := K2.mono (fun _ h => h) (fun _ _ h => h) (fun p h => by unfold rP at *; omega) (fun _ h => h)
        exact H0 (by rw [hu]; exact List.mem_cons_of_mem _ h92) σ2 (K1'.tr K2')
theorem pE_cut {j c : Nat} {rs : List Nat} (h : pE D j = c :: rs) : j < D.length ∧ c = mc D j ∧ 48 ≤ c ∧ c ≤ 57 ∧ pE D (j + 1) = rs := by
  have hlt : j < D.length := by
    rcases Nat.lt_or_ge j D.length with h' | h'
    · exact h'
    · rw [pE_n h'] at h; cases h
  rw [pE_c hlt] at h
  split at h
  · rename_i hd
    cases h
    exact ⟨hlt, rfl, hd.1, hd.2, rfl⟩
  · cases h
theorem pE_nil {j : Nat} (h : pE D j = []) : ¬ (48 ≤ mc D j ∧ mc D j ≤ 57) := by
  intro hd
  rw [pE_c (mc_ne (by omega)), if_pos hd] at h
  cases h
theorem t137_212 {k l f : Nat} (hD : sD σ D) (hf : f ≤ D.length) : ∀ (rs : List Nat) (n v : Nat), pE D (f + n) = rs → n ≤ 7 →
    (∀ n' v' : Nat, (n + rs.length ≤ 7 → n' = n + rs.length ∧ v' = mt_dv v rs) → (7 < n + rs.length → n' = 7) → mM X (d + 4) 137 258 [some (.ref 86), some (.int (nI k)), some (.int (nI l)), some (.int (nI f)), some (.int (nI n')), some (.int (nI v'))] [] σ Q) →
    mM X (d + 4) 137 212 [some (.ref 86), some (.int (nI k)), some (.int (nI l)), some (.int (nI f)), some (.int (nI n)), some (.int (nI v))] [] σ Q := by
  have h60 := hD.1.1
  intro rs
  induction rs with
  | nil =>
    intro n v hr hn H
    have hml := mc_lt hD.1 (f + n)
    refine u137_212 ?_
    rw [nI_add]
    refine t136 hD (by omega) ⟨_, rfl, t141 (by omega) ⟨_, rfl, fun _ => H n v (fun _ => ⟨rfl, rfl⟩) (fun h => absurd h (by simp; omega)), fun h => absurd ?_ h⟩⟩
    rw [if_neg (pE_nil hr)]
  | cons c rs ih =>
    intro n v hr hn H
    obtain ⟨hlt, hc, h48, h57, hr'⟩ := pE_cut hr
    have hml := mc_lt hD.1 (f + n)
    refine u137_212 ?_
    rw [nI_add]
    refine t136 hD (by omega) ⟨_, rfl, t141 (by omega) ⟨_, rfl, fun h => absurd h ?_, fun _ => pk_le 7 n (fun h7 => ?_) (fun h7 => t136 hD (by omega) ⟨_, rfl, ?_⟩)⟩⟩
    · rw [if_pos (by omega)]; decide
    · exact H n v (fun h => absurd h (by rw [List.length_cons]; omega)) (fun _ => by omega)
    · have ev : ((10 : Int32) * nI v) + nI (mc D (f + n)) - (48 : Int32) = nI (v * 10 + (c - 48)) := by
        rw [show (10 : Int32) = nI 10 from rfl, pk_mul, nI_add, show (48 : Int32) = nI 48 from rfl, pk_sub (by omega)]
        congr 1; omega
      dsimp only
      rw [ev, nI_1]
      refine ih (n + 1) (v * 10 + (c - 48)) (by rw [← Nat.add_assoc]; exact hr') (by omega) ?_
      intro n' v' h1 h2
      refine H n' v' (fun h => ?_) (fun h => ?_)
      · rw [List.length_cons] at h
        have := h1 (by omega)
        rw [List.length_cons]
        exact ⟨by omega, this.2⟩
      · rw [List.length_cons] at h
        exact h2 (by omega)
/-- the places of the letters read, and the work slot -/
abbrev rK (σ σ' : mS) : Prop := mKp mN1 mN2 (rP 0) (fun x => x = 141) σ σ'
theorem rA_up {k k' p : Nat} (h : k ≤ k') (a : rA k p) : rA k' p := ⟨a.1, Nat.lt_of_lt_of_le a.2 (by omega)⟩
/-- scalar -/
theorem t137 {k l : Nat} {us : List mTk} (hD : sD σ D) (S : mSlot σ (rA k) 141 us) (hk : k ≤ D.length) (hl : l < 64) (hc : us.length < 544)
    (H1 : ∀ s k', pS D k = some (s, k') → ∀ σ', rK σ σ' → mSlot σ' (rA k') 141 (us ++ [mt_st s l]) → Q (some (.int (nI (k' - k)))) σ') (H0 : pS D k = none → ∀ σ', rK σ σ' → Q (some (.int 0)) σ') : mM X (d + 5) 137 0 (mm_L0 137 [.ref 86, .int (nI k), .int (nI l)]) [] σ Q := by
  have h60 := hD.1.1
  have hml := mc_lt hD.1 k
  have up : ∀ σ', mKp mN1 mN2 mN1 (fun x => x = 141) σ σ' → rK σ σ' := fun σ' K => K.mono (fun _ h => h) (fun _ _ h => h) (fun _ h => h.elim) (fun _ h => h)
  refine u137_0 (t136 hD (by omega) ⟨_, rfl, ?_⟩)
  refine pk_eq (mc D k) 110 (B := _) (A := _) (fun e110 => ?_) (fun e110 => t136 hD (by omega) ⟨_, rfl, ?_⟩) |>.symm
  · have hkl := mc_ne (D := D) (k := k) (by omega)
    have eS : pS D k = if mc D (k + 1) = 117 ∧ mc D (k + 2) = 108 ∧ mc D (k + 3) = 108 then some (none, k + 4) else none := by
      unfold pS; rw [if_pos e110]
    refine S.add (k := 0) (v := 0) hc (by decide) hl ?_
    intro σ1 K1 S1
    have D1 := hD.keep K1 id (fun _ => id)
    have b1 := mc_lt hD.1 (k + 1)
    have b2 := mc_lt hD.1 (k + 2)
    have b3 := mc_lt hD.1 (k + 3)
    refine ⟨rfl, ?_⟩
    rw [nI_1]
    refine t136 D1 (by omega) ⟨_, rfl, ?_⟩
    refine pk_eq (mc D (k + 1)) 117 (B := _) (A := _) (fun e1 => ?_) (fun e1 => H0 (by rw [eS, if_neg (fun h => e1 h.1)]) σ1 (up σ1 K1)) |>.symm
    rw [show (2 : Int32) = nI 2 from rfl, nI_add]
    refine t136 D1 (by omega) ⟨_, rfl, ?_⟩
    refine pk_eq (mc D (k + 2)) 108 (B := _) (A := _) (fun e2 => ?_) (fun e2 => H0 (by rw [eS, if_neg (fun h => e2 h.2.1)]) σ1 (up σ1 K1)) |>.symm
    rw [show (3 : Int32) = nI 3 from rfl, nI_add]
    refine t136 D1 (by omega) ⟨_, rfl, ?_⟩
    refine pk_eq (mc D (k + 3)) 108 (B := _) (A := _) (fun e3 => ?_) (fun e3 => H0 (by rw [eS, if_neg (fun h => e3 h.2.2)]) σ1 (up σ1 K1)) |>.symm
    have := H1 none (k + 4) (by rw [eS, if_pos ⟨e1, e2, e3⟩]) σ1 (up σ1 K1) (S1.weak (fun p a => rA_up (by omega) a))
    rw [show k + 4 - k = 4 by omega] at this
    exact this
  · refine pk_eq (mc D k) 34 (B := _) (A := _) (fun e34 => ?_) (fun e34 => t136 hD (by omega) ⟨_, rfl, ?_⟩) |>.symm
    · have hkl := mc_ne (D := D) (k := k) (by omega)
      have eS : pS D k = if (pU D (k + 1)).length ≤ 24 ∧ 92 ∉ pU D (k + 1) ∧ mc D (k + 1 + (pU D (k + 1)).length) = 34 then some (some (.inr (pU D (k + 1))), k + 1 + (pU D (k + 1)).length + 1) else none := by
        unfold pS; rw [if_neg (by omega), if_pos e34]
      have hul : k + 1 + (pU D (k + 1)).length ≤ D.length := by
        have hs : pU D (k + 1) <+: D.drop (k + 1) := List.takeWhile_prefix _
        have := hs.length_le
        rw [List.length_drop] at this
        omega
      have upP : ∀ σ', mKp mN1 mN2 (rP (k + 1)) mN1 σ σ' → rK σ σ' := fun σ' K => K.mono (fun _ h => h) (fun _ _ h => h) (fun p h => by unfold rP at *; omega) (fun _ h => h.elim)
      have := t137_74 (X := X) (d := d + 1) (Q := Q) (D := D) (k := k) (l := l) (o4 := none) (o5 := none) (pU D (k + 1)).length (k + 1) 0 σ rfl rfl (by omega) hD ?_ ?_
      · exact this
      · intro h92 σ1 K1 hg
        have S1 : mSlot σ1 (rA k) 141 us := S.keep K1 id (fun p a => by unfold rA at a; unfold rP; omega)
        have D1 := hD.keep K1 id (fun _ => id)
        have S1' : mSlot σ1 (rA (k + 1 + (pU D (k + 1)).length + 1)) 141 us := S1.weak (fun p a => rA_up (by omega) a)
        have ea : (19128 : Int32) + nI k + (1 : Int32) = nI (19128 + (k + 1)) := by
          rw [show (19128 : Int32) = nI 19128 from rfl, nI_add, nI_1]; rfl
        refine u137_144 ?_
        rw [ea, Nat.zero_add]
        refine t139 (s := 141) (txt := pU D (k + 1)) S1' hc hl rfl (by omega) (by omega) (fun j hj => ⟨by unfold rA; omega, hg j hj⟩) ?_
        intro σ2 K2 S2
        have D2 := D1.keep K2 id (fun _ => id)
        have K12 : rK σ σ2 := (upP σ1 K1).tr (K2.mono (fun _ h => h) (fun _ _ h => h) (fun _ h => h.elim) (fun _ h => h))
        have b1 := mc_lt hD.1 (k + 1 + (pU D (k + 1)).length)
        refine ⟨rfl, pk_lt 24 (pU D (k + 1)).length (fun h => H0 (by rw [eS, if_neg (by omega)]) σ2 K12) (fun h24 => ?_)⟩
        rw [nI_1, nI_add]
        refine t136 D2 (by omega) ⟨_, rfl, ?_⟩
        refine pk_eq (mc D (k + 1 + (pU D (k + 1)).length)) 34 (B := _) (A := _) (fun e2 => ?_) (fun e2 => H0 (by rw [eS, if_neg (fun h => e2 h.2.2)]) σ2 K12) |>.symm
        have := H1 _ _ (by rw [eS, if_pos ⟨h24, h92, e2⟩]) σ2 K12 S2
        rw [show k + 1 + (pU D (k + 1)).length + 1 - k = (pU D (k + 1)).length + 2 by omega] at this
        rw [show (2 : Int32) = nI 2 from rfl, nI_add]; exact this
      · intro h92 σ1 K1
        exact H0 (by rw [eS, if_neg (fun h => h.2.1 h92)]) σ1 (upP σ1 K1)
    · -- a number
      have num : ∀ (f : Nat) (b : Bool), f = (if b then k + 1 else k) → f ≤ D.length → pS D k = (mt_pu b (pE D f)).map (fun n => (some (.inl n), f + (pE D f).length)) → mM X (d + 4 + 1) 137 212 [some (.ref 86), some (.int (nI k)), some (.int (nI l)), some (.int (nI f)), some (.int 0), some (.int 0)] [] σ Q := by
        intro f b hfb hf eS
        refine t137_212 (d := d + 1) (k := k) (l := l) hD hf (pE D f) 0 0 rfl (by omega) ?_
        intro n v g1 g2
        rw [Nat.zero_add] at g1 g2
        have hfk : f ≤ k + 1 ∧ k ≤ f ∧ (k < f ↔ b = true) := by
          cases b with
          | false => simp only [Bool.false_eq_true, if_false] at hfb; subst hfb; simp
          | true => simp only [if_true] at hfb; subst hfb; simp
        have hn7 : n ≤ 7 := by
          rcases Nat.lt_or_ge 7 (pE D f).length with h | h
          · have := g2 h; omega
          · have := (g1 h).1; omega
        have hbad : (pE D f).length < 1 ∨ 6 < (pE D f).length ∨ ((pE D f).head? = some 48 ∧ (b = true ∨ 1 < (pE D f).length)) → Q (some (.int 0)) σ := by
          intro h
          refine H0 ?_ σ mKp.rf
          rw [eS]
          unfold mt_pu
          rw [if_pos]
          · rfl
          · rcases h with h | h | h
            · exact Or.inl h
            · exact Or.inr (Or.inl h)
            · exact Or.inr (Or.inr (Or.inl h))
        refine u137_258 (pk_lt n 1 (fun h => hbad (Or.inl ?_)) (fun h1 => pk_lt 6 n (fun h => hbad (Or.inr (Or.inl ?_))) (fun h6 => ?_)))
        · rcases Nat.lt_or_ge 7 (pE D f).length with h' | h'
          · have := g2 h'; omega
          · have := (g1 h').1; omega
        · rcases Nat.lt_or_ge 7 (pE D f).length with h' | h'
          · omega
          · have := (g1 h').1; omega
        · have hle : (pE D f).length ≤ 7 := by
            rcases Nat.lt_or_ge 7 (pE D f).length with h' | h'
            · have := g2 h'; omega
            · exact h'
          obtain ⟨en, ev⟩ := g1 hle
          subst en; subst ev
          cases hes : pE D f with
          | nil => rw [hes] at h1; simp at h1
          | cons c es =>
            obtain ⟨hlt, hc', h48, h57, _⟩ := pE_cut hes
            rw [hes] at eS hbad h1 h6
            have hall : ∀ x ∈ c :: es, 48 ≤ x ∧ x ≤ 57 := by
              intro x hx
              rw [← hes] at hx
              have := (tw_mem hx).1
              rw [Bool.and_eq_true, Nat.ble_eq, Nat.ble_eq] at this
              exact this
            have fin : ¬ (c = 48 ∧ (b = true ∨ 1 < (c :: es).length)) → mM X (d + 4 + 1) 137 294 [some (.ref 86), some (.int (nI k)), some (.int (nI l)), some (.int (nI f)), some (.int (nI (c :: es).length)), some (.int (nI (mt_dv 0 (c :: es))))] [] σ Q := by
              intro hno
              have eS2 : pS D k = some (some (.inl (if b then -(nI (mt_dv 0 (c :: es))) else nI (mt_dv 0 (c :: es)))), f + (c :: es).length) := by
                rw [eS]
                unfold mt_pu
                rw [if_neg]
                · rfl
                · rintro (h | h | h | h)
                  · omega
                  · omega
                  · exact hno ⟨Option.some.inj h.1, h.2⟩
                  · exact h hall
              have er : nI f + nI (c :: es).length - nI k = nI (f + (c :: es).length - k) := by rw [nI_add, pk_sub (by omega)]
              refine u137_294 ?_
              rw [er]
              refine pk_le f k (fun h => S.add (k := 1) hc (by decide) hl (fun σ1 K1 S1 => ⟨rfl, ?_⟩)) (fun h => S.add (k := 1) hc (by decide) hl (fun σ1 K1 S1 => ⟨rfl, ?_⟩))
              · have hb : b = false := by
                  cases b with
                  | false => rfl
                  | true => have := hfk.2.2.mpr rfl; omega
                rw [hb] at eS2
                exact H1 _ _ eS2 σ1 (up σ1 K1) (S1.weak (fun p a => rA_up (by omega) a))
              · have hb : b = true := hfk.2.2.mp h
                rw [hb] at eS2
                exact H1 _ _ eS2 σ1 (up σ1 K1) (S1.weak (fun p a => rA_up (by omega) a))
            refine t136 hD (by omega) ⟨_, rfl, ?_⟩
            rw [← hc']
            refine pk_eq c 48 (B := _) (A := _) (fun e48 => ?_) (fun e48 => fin (fun h => e48 h.1)) |>.symm
            refine pk_lt 1 (c :: es).length (fun hgt => hbad (Or.inr (Or.inr ⟨by rw [e48]; rfl, Or.inr hgt⟩))) (fun hle1 => pk_le f k (fun h => fin ?_) (fun h => hbad (Or.inr (Or.inr ⟨by rw [e48]; rfl, Or.inl (hfk.2.2.mp h)⟩))))
            rintro ⟨_, hb | hb⟩
            · have := hfk.2.2.mpr hb; omega
            · omega
      refine pk_eq (mc D k) 45 (B := _) (A := _) (fun e45 => ?_) (fun e45 => ?_) |>.symm
      · have hkl := mc_ne (D := D) (k := k) (by omega)
        rw [nI_1]
        refine num (k + 1) true rfl (by omega) ?_
        unfold pS; rw [if_neg e110, if_neg e34, if_pos e45]
      · refine num k false rfl hk ?_
        unfold pS; rw [if_neg e110, if_neg e34, if_neg e45]
end RD
