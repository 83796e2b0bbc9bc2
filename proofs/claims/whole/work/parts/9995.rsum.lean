/-! THE REFERENCE: the sum of a job's words -/
section RSM
variable {X : List Int32} {d : Nat} {σ : mS} {Q : Option Value → mS → Prop}
theorem t201_130 {f b : Nat} {w : List Nat} {i1 i2 i3 i4 i7 i8 : Int32} (hf : f + w.length ≤ 19200) (hg : ∀ k (h : k < w.length), mg σ (f + k) = w[k]) (h127 : ∀ c ∈ w, c ≤ 126) (hb : b ≤ w.length)
    (H1 : (∀ c ∈ w.drop b, 48 ≤ c ∧ c ≤ 57) → ∀ o5 o6 o7 o8 o9 o10, mM X (d + 2) 201 5 [some (.ref 86), some (.int i1), some (.int i2), some (.int (if i7 = 0 then i3 + nI (mt_dv 0 (w.drop b)) else i3 - nI (mt_dv 0 (w.drop b)))), some (.int (i4 + 1)), o5, o6, o7, o8, o9, o10] [] σ Q)
    (H0 : ¬ (∀ c ∈ w.drop b, 48 ≤ c ∧ c ≤ 57) → Q (some (.int 0)) σ) : ∀ (m j : Nat), b + j + m = w.length → (∀ c ∈ (w.drop b).take j, 48 ≤ c ∧ c ≤ 57) →
    mM X (d + 2) 201 130 [some (.ref 86), some (.int i1), some (.int i2), some (.int i3), some (.int i4), some (.int (nI f)), some (.int (nI w.length)), some (.int i7), some (.int i8), some (.int (nI (mt_dv 0 ((w.drop b).take j)))), some (.int (nI (b + j)))] [] σ Q := by
  intro m
  induction m with
  | zero =>
    intro j h hd
    have ej : (w.drop b).take j = w.drop b := List.take_of_length_le (by rw [List.length_drop]; omega)
    rw [ej] at hd ⊢
    have H1' := H1 hd
    refine u201_130 (pk_le w.length (b + j) (fun _ => ⟨fun g => ?_, fun g => ?_⟩) (fun g => absurd g (by omega)))
    · rw [if_pos g] at H1'; exact H1' _ _ _ _ _ _
    · rw [if_neg g] at H1'; exact H1' _ _ _ _ _ _
  | succ m ih =>
    intro j h hd
    have hk : b + j < w.length := by omega
    have hj : j < (w.drop b).length := by rw [List.length_drop]; omega
    have ec : (w.drop b)[j] = w[b + j] := List.getElem_drop ..
    have hc := h127 _ (List.getElem_mem hk)
    refine u201_130 (pk_le w.length (b + j) (fun g => absurd g (by omega)) (fun _ => ?_))
    rw [nI_add]
    refine s154 (by omega) ⟨_, rfl, ?_⟩
    rw [← Nat.add_assoc] at *
    rw [show f + b + j = f + (b + j) by omega, hg _ hk]
    refine t141 (by omega) ⟨_, rfl, ?_⟩
    by_cases hx : 48 ≤ w[b + j] ∧ w[b + j] ≤ 57
    · rw [if_pos hx]
      refine ⟨fun _ => ?_, fun g => absurd g (by decide)⟩
      refine s154 (by omega) ⟨_, rfl, ?_⟩
      dsimp only
      rw [hg _ hk, nI_1, show (10 : Int32) = nI 10 from rfl, show (48 : Int32) = nI 48 from rfl, pk_mul, nI_add, pk_sub (by omega)]
      have q := ih (j + 1) (by omega) (fun c hm => by
        rw [List.take_succ_eq_append_getElem hj, List.mem_append, List.mem_singleton] at hm
        rcases hm with hm | rfl
        · exact hd c hm
        · rw [ec]; exact hx)
      rw [List.take_succ_eq_append_getElem hj, ec, mt_dv, List.foldl_append] at q
      have e : (10 * mt_dv 0 ((w.drop b).take j) + w[b + j] - 48) = [w[b + j]].foldl (fun v c => v * 10 + (c - 48)) (((w.drop b).take j).foldl (fun v c => v * 10 + (c - 48)) 0) := by
        show _ = mt_dv 0 ((w.drop b).take j) * 10 + (w[b + j] - 48)
        omega
      rw [e]; exact q
    · rw [if_neg hx]
      refine ⟨fun g => absurd rfl g, fun _ => H0 (fun g => hx ?_)⟩
      have := g _ (List.getElem_mem hj)
      rw [ec] at this; exact this
theorem t201_80 {f b : Nat} {bb : Bool} {w : List Nat} {i1 i2 i3 i4 i7 : Int32} {o8 o9 o10 : Option Value} (hf : f + w.length ≤ 19200) (hw : w.length ≤ 24) (hg : ∀ k (h : k < w.length), mg σ (f + k) = w[k]) (h127 : ∀ c ∈ w, c ≤ 126) (hb : b ≤ w.length) (hbb : bb = false ∧ b = 0 ∧ i7 = 0 ∨ bb = true ∧ b = 1 ∧ i7 = 1)
    (H1 : ∀ n, mt_pu bb (w.drop b) = some n → ∀ o5 o6 o7 o8 o9 o10, mM X (d + 2) 201 5 [some (.ref 86), some (.int i1), some (.int i2), some (.int (i3 + n)), some (.int (i4 + 1)), o5, o6, o7, o8, o9, o10] [] σ Q)
    (H0 : mt_pu bb (w.drop b) = none → Q (some (.int 0)) σ) :
    mM X (d + 2) 201 80 [some (.ref 86), some (.int i1), some (.int i2), some (.int i3), some (.int i4), some (.int (nI f)), some (.int (nI w.length)), some (.int i7), o8, o9, o10] [.int (nI b)] σ Q := by
  have hl : (w.drop b).length = w.length - b := List.length_drop ..
  unfold mt_pu at H1 H0
  refine u201_80 ?_
  rw [pk_sub hb]
  refine pk_lt (w.length - b) 1 (fun g => H0 (if_pos (Or.inl (by omega)))) (fun g1 => ?_)
  refine pk_lt 6 (w.length - b) (fun g => H0 (if_pos (Or.inr (Or.inl (by omega))))) (fun g6 => ?_)
  have hk : b < w.length := by omega
  have hh : (w.drop b).head? = some w[b] := by rw [List.head?_drop, List.getElem?_eq_getElem hk]
  have hc := h127 _ (List.getElem_mem hk)
  have loop : ¬ (w[b] = 48 ∧ (bb = true ∨ 1 < w.length - b)) → mM X (d + 2) 201 130 [some (.ref 86), some (.int i1), some (.int i2), some (.int i3), some (.int i4), some (.int (nI f)), some (.int (nI w.length)), some (.int i7), some (.int (nI b)), some (.int 0), some (.int (nI b))] [] σ Q := by
    intro hz
    refine t201_130 (X := X) (d := d) hf hg h127 hb (fun hd o5 o6 o7 o8 o9 o10 => ?_) (fun hd => H0 (if_pos (Or.inr (Or.inr (Or.inr hd))))) (w.length - b) 0 (by omega) (fun c hm => nomatch hm)
    rw [hl, hh] at H1
    rw [if_neg (by
      rintro (g | g | g | g)
      · omega
      · omega
      · exact hz ⟨Option.some.inj g.1, g.2⟩
      · exact g hd)] at H1
    have H1' := H1 _ rfl o5 o6 o7 o8 o9 o10
    rcases hbb with ⟨rfl, rfl, rfl⟩ | ⟨rfl, rfl, rfl⟩
    · exact H1'
    · rw [if_neg (by decide), Int32.sub_eq_add_neg]; exact H1'
  rw [nI_add]
  refine s154 (by omega) ⟨_, rfl, ?_⟩
  rw [hg _ hk]
  refine pk_ne w[b] 48 (fun g => ?_) (fun g => loop (fun z => g z.1))
  refine pk_le w.length 1 (fun g' => loop (fun z => ?_)) (fun g' => ?_)
  · rcases hbb with ⟨rfl, rfl, rfl⟩ | ⟨rfl, rfl, rfl⟩
    · rcases z.2 with z | z
      · exact absurd z (by decide)
      · omega
    · omega
  · refine H0 (if_pos (Or.inr (Or.inr (Or.inl ⟨by rw [hh, g], ?_⟩))))
    rcases hbb with ⟨rfl, rfl, rfl⟩ | ⟨rfl, rfl, rfl⟩
    · exact Or.inr (by rw [hl]; omega)
    · exact Or.inl rfl
theorem mt_pn_pu {w : List Nat} : mt_pn w = if w.head? = some 45 then mt_pu true (w.drop 1) else mt_pu false w := by
  cases w with
  | nil => rfl
  | cons c es =>
    show (if c = 45 then _ else _) = _
    by_cases h : c = 45
    · subst h; rfl
    · rw [if_neg h]; exact (if_neg (fun g => h (Option.some.inj g))).symm
theorem t201_5 {job : Nat} {ws : List (List Nat)} {A : Nat → Prop} (hj : job < 96) (hW : aWok ws) (T : wdT σ job ws) (S0 : mSlot σ A (27 + job) [])
    (H1 : ∀ t, (aSm ws 0).bind aNu = some t → ∀ σ', mKp mN1 mN2 mN1 (fun x => x = 27 + job) σ σ' → mSlot σ' A (27 + job) (mt_tk t 0) → Q (some (.int 1)) σ')
    (H0 : (aSm ws 0).bind aNu = none → ∀ σ', mKp mN1 mN2 mN1 (fun x => x = 27 + job) σ σ' → Q (some (.int 0)) σ') : ∀ (m i : Nat) (n : Int32) (o5 o6 o7 o8 o9 o10 : Option Value), i + m = ws.length → aSm ws 0 = aSm (ws.drop i) n →
    mM X (d + 3) 201 5 [some (.ref 86), some (.int (nI job)), some (.int (nI (27 + job))), some (.int n), some (.int (nI i)), o5, o6, o7, o8, o9, o10] [] σ Q := by
  obtain ⟨T1, T2⟩ := id T
  have hw8 := hW.1
  have hcap : mcp (27 + job) = 9 := by unfold mcp; rw [if_neg (by omega), if_pos (by omega)]
  intro m
  induction m with
  | zero =>
    intro i n o5 o6 o7 o8 o9 o10 h e
    have ei : i = ws.length := by omega
    subst ei
    rw [List.drop_length] at e
    have e' : aSm ws 0 = some n := e
    rw [e'] at H1 H0
    refine u201_5 ⟨m_ix hj (by decide), ?_⟩
    rw [mGet_e (by omega), T1]
    refine ⟨fun _ => ?_, fun g => absurd (Int32.le_refl _) g⟩
    refine S0.add (k := 1) (l := 0) (v := n) (by rw [hcap]; decide) (by decide) (by decide) (fun σ2 K2 S2 => ⟨rfl, ?_⟩)
    refine u127_0 ⟨fun g => ⟨_, rfl, Or.inl rfl, H0 ?_ σ2 K2⟩, fun g => ⟨fun g' => ⟨_, rfl, Or.inl rfl, H0 ?_ σ2 K2⟩, fun g' => ⟨_, rfl, Or.inr rfl, ?_⟩⟩⟩
    · show aNu n = none
      exact if_neg (fun z => absurd z.1 (Int32.not_le.mpr g))
    · show aNu n = none
      exact if_neg (fun z => absurd z.2 (Int32.not_le.mpr g'))
    · refine H1 (.leaf (some (.inl n))) ?_ σ2 K2 S2
      exact if_pos ⟨Int32.not_lt.mp g, Int32.not_lt.mp g'⟩
  | succ m ih =>
    intro i n o5 o6 o7 o8 o9 o10 h e
    have hi : i < ws.length := by omega
    obtain ⟨x1, x2, x3⟩ := T2 i hi
    have hw := hW.2 ws[i] (List.getElem_mem hi)
    rw [List.drop_eq_getElem_cons hi] at e
    have e' : aSm ws 0 = (mt_pn ws[i]).bind (fun q => aSm (ws.drop (i + 1)) (n + q)) := e
    have H0' : mt_pn ws[i] = none → Q (some (.int 0)) σ := fun g => H0 (by rw [e', g]; rfl) σ mKp.rf
    have H1' : ∀ q, mt_pn ws[i] = some q → ∀ o5 o6 o7 o8 o9 o10, mM X (d + 3) 201 5 [some (.ref 86), some (.int (nI job)), some (.int (nI (27 + job))), some (.int (n + q)), some (.int (nI i + 1)), o5, o6, o7, o8, o9, o10] [] σ Q := by
      intro q g o5 o6 o7 o8 o9 o10
      rw [nI_1]
      exact ih (i + 1) (n + q) o5 o6 o7 o8 o9 o10 (by omega) (by rw [e', g]; rfl)
    rw [mt_pn_pu] at H0' H1'
    refine u201_5 ⟨m_ix hj (by decide), ?_⟩
    rw [mGet_e (by omega), T1]
    refine pk_le ws.length i (fun g => absurd g (by omega)) (fun _ => ?_)
    rw [show (8 : Int32) = nI 8 from rfl, pk_mul, nI_add]
    refine ⟨m_ix (by omega) (by decide), ?_⟩
    rw [mGet_e (by omega), x2, show (600 : Int32) + (192 : Int32) * nI job + (24 : Int32) * nI i = nI (600 + 192 * job + 24 * i) by rw [show (600 : Int32) = nI 600 from rfl, show (192 : Int32) = nI 192 from rfl, show (24 : Int32) = nI 24 from rfl, pk_mul, pk_mul, nI_add, nI_add]]
    have plain : ¬ ws[i].head? = some 45 → ∀ o8 o9 o10, mM X (d + 3) 201 80 [some (.ref 86), some (.int (nI job)), some (.int (nI (27 + job))), some (.int n), some (.int (nI i)), some (.int (nI (600 + 192 * job + 24 * i))), some (.int (nI ws[i].length)), some (.int 0), o8, o9, o10] [.int 0] σ Q := by
      intro hx o8 o9 o10
      rw [if_neg hx] at H0' H1'
      exact t201_80 (X := X) (d := d + 1) (b := 0) (bb := false) (by omega) x1 (fun k h => x3 k h) (fun c hm => (hw.2 c hm).2) (by omega) (Or.inl ⟨rfl, rfl, rfl⟩) H1' H0'
    refine pk_le ws[i].length 0 (fun g => ⟨fun _ => plain ?_ _ _ _, fun z => absurd rfl z⟩) (fun g => ?_)
    · rw [List.eq_nil_of_length_eq_zero (l := ws[i]) (by omega)]; exact fun z => nomatch z
    · have h0 := x3 0 g
      rw [Nat.add_zero] at h0
      refine s154 (by omega) ⟨_, rfl, ?_⟩
      rw [h0]
      have hh : ws[i].head? = some ws[i][0] := by rw [List.head?_eq_getElem?, List.getElem?_eq_getElem g]
      have hc := (hw.2 _ (List.getElem_mem g)).2
      refine pk_ne ws[i][0] 45 (fun g2 => ⟨fun z => absurd z (by decide), fun _ => ?_⟩) (fun g2 => ⟨fun _ => plain ?_ _ _ _, fun z => absurd rfl z⟩)
      rotate_left
      · rw [hh]; exact fun z => g2 (Option.some.inj z)
      · rw [hh, g2, if_pos rfl] at H0' H1'
        exact t201_80 (X := X) (d := d + 1) (b := 1) (bb := true) (by omega) x1 (fun k h => x3 k h) (fun c hm => (hw.2 c hm).2) (by omega) (Or.inr ⟨rfl, rfl, rfl⟩) H1' H0'
end RSM
