/-! THE REFERENCE: what a job's words come to -/
section RRS
variable {X : List Int32} {d : Nat} {σ : mS} {Q : Option Value → mS → Prop}
theorem aJs_tk {ws : List (List Nat)} {i : Nat} (hi : i < ws.length) : aJs (ws.take (i + 1)) = aJs (ws.take i) ++ ((if i = 0 then [] else [32]) ++ ws[i]) := by
  rw [List.take_succ_eq_append_getElem hi, aJs_snoc]
  congr 2
  by_cases h : i = 0
  · subst h; rfl
  · rw [if_neg h, if_neg (fun g => by have := congrArg List.length g; rw [List.length_take, Nat.min_eq_left (by omega)] at this; exact h this)]
theorem aJs_le {ws : List (List Nat)} : ∀ (m i : Nat), i + m = ws.length → (aJs (ws.take i)).length ≤ (aJs ws).length := by
  intro m
  induction m with
  | zero => intro i h; rw [List.take_of_length_le (by omega)]; exact Nat.le_refl _
  | succ m ih =>
    intro i h
    have h1 := ih (i + 1) (by omega)
    rw [aJs_tk (by omega), List.length_append] at h1
    omega
theorem t200_5 {job : Nat} {ws : List (List Nat)} {o5 o6 o7 : Option Value} {i2 : Int32} (hj : job < 96) (hw : ws.length ≤ 8) (T : wdT σ job ws)
    (H0 : ¬ (aJs ws).length ≤ 24 → Q (some (.int 0)) σ)
    (H1 : (aJs ws).length ≤ 24 → mM X (d + 1) 200 73 [some (.ref 86), some (.int (nI job)), some (.int i2), some (.int (nI (aJs ws).length)), some (.int (nI (600 + 192 * job))), some (.int 0), some (.int 0), o7] [] σ Q) : ∀ (m i : Nat), i + m = ws.length →
    mM X (d + 1) 200 5 [some (.ref 86), some (.int (nI job)), some (.int i2), some (.int (nI (aJs (ws.take i)).length)), some (.int (nI i)), o5, o6, o7] [] σ Q := by
  obtain ⟨T1, T2⟩ := id T
  have hL : ∀ (m i : Nat), i + m = ws.length → (aJs (ws.take i)).length ≤ 25 * i := by
    intro m i
    induction i generalizing m with
    | zero => intro _; simp [aJs]
    | succ i ih =>
      intro h
      have h1 := ih (m + 1) (by omega)
      have h2 := (T2 i (by omega)).1
      rw [aJs_tk (by omega), List.length_append, List.length_append]
      split <;> simp <;> omega
  intro m
  induction m with
  | zero =>
    intro i h
    have e : i = ws.length := by omega
    subst e
    have h25 := hL 0 ws.length (by omega)
    refine u200_5 ⟨m_ix hj (by decide), ?_⟩
    rw [mGet_e (by omega), T1, List.take_length]
    rw [List.take_length] at h25
    refine ⟨fun _ => ?_, fun g => absurd (Int32.le_refl _) g⟩
    refine pk_le (aJs ws).length 24 (fun g => ?_) (fun g => H0 (by omega))
    rw [show (600 : Int32) = nI 600 from rfl, show (192 : Int32) = nI 192 from rfl, pk_mul, nI_add]
    exact H1 g
  | succ m ih =>
    intro i h
    have h25 := hL (m + 1) i h
    have hi : i < ws.length := by omega
    obtain ⟨x1, x2, x3⟩ := T2 i hi
    have ih' := ih (i + 1) (by omega)
    rw [aJs_tk hi] at ih'
    refine u200_5 ⟨m_ix hj (by decide), ?_⟩
    rw [mGet_e (by omega), T1]
    refine pk_le ws.length i (fun g => absurd g (by omega)) (fun _ => ?_)
    rw [show (8 : Int32) = nI 8 from rfl, pk_mul, nI_add]
    refine ⟨m_ix (by omega) (by decide), ?_⟩
    rw [mGet_e (by omega), x2, nI_add, nI_1]
    refine pk_le i 0 (fun g => ?_) (fun g => ?_)
    · rw [show (0 : Int32) = nI 0 from rfl, nI_add]
      rw [if_pos (by omega), List.nil_append, List.length_append] at ih'
      exact ih'
    · rw [nI_1]
      rw [if_neg (by omega), List.length_append, List.length_append] at ih'
      have e : (aJs (ws.take i)).length + ([32].length + ws[i].length) = (aJs (ws.take i)).length + ws[i].length + 1 := by simp; omega
      rw [e] at ih'
      exact ih'
def ecE (σ0 : mS) (job : Nat) (ws : List (List Nat)) (pre : List Nat) (i k : Nat) (σ : mS) : Prop := mKp mN1 mN2 (wA job) mN1 σ0 σ ∧ (∀ m (h : m < pre.length), mg σ (600 + 192 * job + m) = pre[m]) ∧ ∀ w m (hw : w < ws.length) (hm : m < ws[w].length), (i < w ∨ i = w ∧ k ≤ m) → mg σ (600 + 192 * job + 24 * w + m) = ws[w][m]
theorem ecE.put {σ0 σ : mS} {job : Nat} {ws : List (List Nat)} {pre : List Nat} {i k k' c : Nat} (E : ecE σ0 job ws pre i k σ) (hc : c < 128) (hp : pre.length < 24) (hk : k ≤ k') (h0 : i = 0 → pre.length < k') : ecE σ0 job ws (pre ++ [c]) i k' (gP σ (600 + 192 * job + pre.length) c) := by
  obtain ⟨e1, e2, e3⟩ := E
  refine ⟨e1.tr ((gP_kp hc).mono (fun _ h => h) (fun _ _ h => h) (fun p h => by unfold wA; omega) (fun _ h => h)), fun m hm => ?_, fun w m hw hm h => ?_⟩
  · rw [mg_gP hc]
    rw [List.length_append] at hm
    by_cases g : m = pre.length
    · subst g
      rw [if_pos rfl, List.getElem_append_right (by omega)]
      simp
    · have hm' : m < pre.length := by simp at hm; omega
      rw [if_neg (by omega), e2 m hm', List.getElem_append_left hm']
  · rw [mg_gP hc, if_neg, e3 w m hw hm (by omega)]
    omega
theorem ecE.up {σ0 σ : mS} {job : Nat} {ws : List (List Nat)} {pre : List Nat} {i k : Nat} (E : ecE σ0 job ws pre i k σ) : ecE σ0 job ws pre (i + 1) 0 σ := ⟨E.1, E.2.1, fun w m hw hm h => E.2.2 w m hw hm (by omega)⟩
theorem t200_106 {job : Nat} {ws : List (List Nat)} {i2 : Int32} {i N : Nat} {pre : List Nat} {σ0 : mS} (hj : job < 96) (hW : aWok ws) (T : wdT σ0 job ws) (hi : i < ws.length) (hpre : pre.length + ws[i].length ≤ 24) (h0 : i = 0 → pre = [])
    (H : ∀ σ' i7, ecE σ0 job ws (pre ++ ws[i]) (i + 1) 0 σ' → mM X (d + 2) 200 73 [some (.ref 86), some (.int (nI job)), some (.int i2), some (.int (nI N)), some (.int (nI (600 + 192 * job))), some (.int (nI (pre ++ ws[i]).length)), some (.int (nI (i + 1))), some (.int i7)] [] σ' Q) : ∀ (m k : Nat) (σ : mS), k + m = ws[i].length → ecE σ0 job ws (pre ++ ws[i].take k) i k σ →
    mM X (d + 2) 200 106 [some (.ref 86), some (.int (nI job)), some (.int i2), some (.int (nI N)), some (.int (nI (600 + 192 * job))), some (.int (nI (pre ++ ws[i].take k).length)), some (.int (nI i)), some (.int (nI k))] [] σ Q := by
  obtain ⟨T1, T2⟩ := id T
  obtain ⟨x1, x2, x3⟩ := T2 i hi
  have hw8 := hW.1
  intro m
  induction m with
  | zero =>
    intro k σ h E
    have e : k = ws[i].length := by omega
    subst e
    rw [List.take_length] at E ⊢
    refine u200_106 ?_
    rw [show (8 : Int32) = nI 8 from rfl, pk_mul, nI_add]
    refine ⟨m_ix (by omega) (by decide), ?_⟩
    rw [mGet_e (by omega), E.1.2.1 110 _ (by decide) id, x2, nI_1]
    exact ⟨fun _ => H σ _ E.up, fun g => absurd (Int32.le_refl _) g⟩
  | succ m ih =>
    intro k σ h E
    have hk : k < ws[i].length := by omega
    have ih' := ih (k + 1) (gP σ (600 + 192 * job + (pre ++ ws[i].take k).length) ws[i][k]) (by omega)
    have hl : (pre ++ ws[i].take k).length = pre.length + k := by rw [List.length_append, List.length_take]; omega
    have hc := (hW.2 ws[i] (List.getElem_mem hi)).2 _ (List.getElem_mem hk)
    refine u200_106 ?_
    rw [show (8 : Int32) = nI 8 from rfl, pk_mul, nI_add]
    refine ⟨m_ix (by omega) (by decide), ?_⟩
    rw [mGet_e (by omega), E.1.2.1 110 _ (by decide) id, x2]
    refine pk_le ws[i].length k (fun g => absurd g (by omega)) (fun _ => ?_)
    rw [show nI (600 + 192 * job) + (24 : Int32) * nI i + nI k = nI (600 + 192 * job + 24 * i + k) by rw [show (24 : Int32) = nI 24 from rfl, pk_mul, nI_add, nI_add]]
    refine s154 (by omega) ⟨_, rfl, ?_⟩
    rw [nI_add, E.2.2 i k hi hk (by omega)]
    refine s138 (by omega) (by omega) ?_
    rintro σ2 rfl
    refine ⟨rfl, ?_⟩
    rw [nI_1, nI_1]
    have E2 := E.put (k' := k + 1) (c := ws[i][k]) (by omega) (by omega) (by omega) (fun g => by rw [hl, h0 g]; show 0 + k < _; omega)
    rw [List.append_assoc, ← List.take_succ_eq_append_getElem hk] at E2
    have := ih' E2
    rw [show (pre ++ ws[i].take (k + 1)).length = (pre ++ ws[i].take k).length + 1 by rw [hl, List.length_append, List.length_take]; omega] at this
    exact this
theorem aJs_rg : ∀ {ws : List (List Nat)}, (∀ w ∈ ws, ∀ c ∈ w, 32 ≤ c ∧ c ≤ 126) → ∀ c ∈ aJs ws, 32 ≤ c ∧ c ≤ 126
  | [], _, c, h => nomatch h
  | [w], H, c, h => H w List.mem_cons_self c h
  | w :: v :: l, H, c, h => by
    rcases List.mem_append.mp (show c ∈ w ++ 32 :: aJs (v :: l) from h) with h | h
    · exact H w List.mem_cons_self c h
    · rcases List.mem_cons.mp h with rfl | h
      · decide
      · exact aJs_rg (fun w hw => H w (List.mem_cons_of_mem _ hw)) c h
theorem t200_73 {job : Nat} {ws : List (List Nat)} {σ0 : mS} (hj : job < 96) (hW : aWok ws) (T : wdT σ0 job ws) (h24 : (aJs ws).length ≤ 24) (S0 : mSlot σ0 mN1 (27 + job) [])
    (H : ∀ σ', mKp mN1 mN2 (wA job) (fun x => x = 27 + job) σ0 σ' → mSlot σ' (wA job) (27 + job) [(2, 0, 0, aJs ws)] → (rX (aJs ws) = none → Q (some (.int 0)) σ') ∧ (rX (aJs ws) = some (.leaf (some (.inr (aJs ws)))) → Q (some (.int 1)) σ')) : ∀ (m i : Nat) (σ : mS) (o7 : Option Value), i + m = ws.length → ecE σ0 job ws (aJs (ws.take i)) i 0 σ →
    mM X (d + 4) 200 73 [some (.ref 86), some (.int (nI job)), some (.int (nI (27 + job))), some (.int (nI (aJs ws).length)), some (.int (nI (600 + 192 * job))), some (.int (nI (aJs (ws.take i)).length)), some (.int (nI i)), o7] [] σ Q := by
  obtain ⟨T1, T2⟩ := id T
  have hw8 := hW.1
  intro m
  induction m with
  | zero =>
    intro i σ o7 h E
    have e : i = ws.length := by omega
    subst e
    rw [List.take_length] at E ⊢
    refine u200_73 ⟨m_ix hj (by decide), ?_⟩
    rw [mGet_e (by omega), E.1.2.1 109 _ (by decide) id, T1]
    refine ⟨fun _ => ?_, fun g => absurd (Int32.le_refl _) g⟩
    have hcap : mcp (27 + job) = 9 := by unfold mcp; rw [if_neg (by omega), if_pos (by omega)]
    refine t139 (A := wA job) (s := 27 + job) (l := 0) (us := []) (txt := aJs ws) ((S0.keep E.1 id (fun _ h => h.elim)).weak (fun _ h => h.elim)) (by rw [hcap]; decide) (by decide) rfl (by omega) (by omega) (fun j hj' => ⟨by unfold wA; omega, E.2.1 j hj'⟩) (fun σ2 K2 S2 => ⟨rfl, ?_⟩)
    obtain ⟨z1, z2⟩ := H σ2 ((E.1.mono (fun _ h => h) (fun _ _ h => h) (fun _ h => h) (fun _ h => h.elim)).tr (K2.mono (fun _ h => h) (fun _ _ h => h) (fun _ h => h.elim) (fun _ h => h))) S2
    rw [rX_iff h24] at z1 z2
    refine t188 (txt := aJs ws) (by omega) (by omega) (fun j hj' => by rw [K2.2.2.1 _ id]; exact E.2.1 j hj') ⟨_, rfl, ?_⟩
    by_cases hc : ∀ c ∈ aJs ws, c ≠ 34 ∧ c ≠ 92
    · rw [if_pos ⟨h24, hc⟩]
      refine ⟨Or.inr rfl, z2 (if_pos (fun c hm => ?_))⟩
      have := aJs_rg (fun w hw => (hW.2 w hw).2) c hm
      exact ⟨this.1, this.2, hc c hm⟩
    · rw [if_neg (fun g => hc g.2)]
      exact ⟨Or.inl rfl, z1 (if_neg (fun g => hc (fun c hm => (g c hm).2.2)))⟩
  | succ m ih =>
    intro i σ o7 h E
    have hi : i < ws.length := by omega
    have hle := aJs_le (ws := ws) m (i + 1) (by omega)
    have ih' := ih (i + 1)
    rw [aJs_tk hi] at hle ih'
    rw [List.length_append] at hle
    refine u200_73 ⟨m_ix hj (by decide), ?_⟩
    rw [mGet_e (by omega), E.1.2.1 109 _ (by decide) id, T1]
    refine pk_le ws.length i (fun g => absurd g (by omega)) (fun _ => ?_)
    refine pk_le i 0 (fun g => ?_) (fun g => ?_)
    · have e0 : i = 0 := by omega
      subst e0
      rw [if_pos rfl, List.nil_append] at hle ih'
      refine t200_106 (X := X) (d := d + 2) (pre := []) hj hW T hi (by simp at hle ⊢; omega) (fun _ => rfl) (fun σ2 i7 E2 => ?_) _ 0 σ (Nat.zero_add _) E
      exact ih' σ2 _ (by omega) E2
    · rw [if_neg (by omega)] at hle ih'
      rw [List.length_append, List.length_singleton] at hle
      rw [nI_add]
      refine s138 (c := 32) (by omega) (by omega) ?_
      rintro σ2 rfl
      refine ⟨rfl, ?_⟩
      rw [nI_1]
      have E2 := E.put (k' := 0) (c := 32) (by omega) (by omega) (by omega) (fun g => by omega)
      rw [← List.append_assoc] at ih'
      have q := t200_106 (X := X) (d := d + 2) (Q := Q) (i2 := nI (27 + job)) (N := (aJs ws).length) (pre := aJs (ws.take i) ++ [32]) hj hW T hi (by rw [List.length_append, List.length_singleton]; omega) (fun g => by omega) (fun σ2 i7 E2 => ih' σ2 _ (by omega) E2) _ 0 (gP σ (600 + 192 * job + (aJs (ws.take i)).length) 32) (Nat.zero_add _) (by rw [List.take_zero, List.append_nil]; exact E2)
      rw [List.take_zero, List.append_nil, List.length_append, List.length_singleton] at q
      exact q
theorem t200 {job : Nat} {ws : List (List Nat)} (hj : job < 96) (hW : aWok ws) (T : wdT σ job ws) (S0 : mSlot σ mN1 (27 + job) [])
    (H1 : ∀ t, rX (aJs ws) = some t → ∀ σ', mKp mN1 mN2 (wA job) (fun x => x = 27 + job) σ σ' → mSlot σ' (wA job) (27 + job) (mt_tk t 0) → Q (some (.int 1)) σ')
    (H0 : rX (aJs ws) = none → ∀ σ', mKp mN1 mN2 (wA job) (fun x => x = 27 + job) σ σ' → Q (some (.int 0)) σ') : mM X (d + 4) 200 0 (mm_L0 200 [.ref 86, .int (nI job), .int (nI (27 + job))]) [] σ Q := by
  refine u200_0 (t200_5 (X := X) (d := d + 3) hj hW.1 T (fun h => ?_) (fun h => ?_) ws.length 0 (Nat.zero_add _))
  · refine H0 ?_ σ mKp.rf
    unfold rX
    rw [if_neg (fun g => h g.1)]
  · refine t200_73 (X := X) (d := d) hj hW T h S0 (fun σ2 K2 S2 => ⟨fun g => H0 g σ2 K2, fun g => H1 _ g σ2 K2 S2⟩) ws.length 0 σ _ (Nat.zero_add _) ?_
    exact ⟨mKp.rf, fun m h => absurd h (Nat.not_lt_zero _), fun w m hw hm _ => (T.2 w hw).2.2 m hm⟩
end RRS
