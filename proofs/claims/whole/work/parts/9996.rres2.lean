/-! THE REFERENCE: the result of a job -/
section RRT
variable {X : List Int32} {d : Nat} {σ : mS} {Q : Option Value → mS → Prop}
def lfX (w : List Nat) : mT := .leaf (some (.inr w))
theorem aIt_some : ∀ {ws : List (List Nat)}, (∀ w ∈ ws, rX w = some (lfX w)) → aIt ws = some (ws.map lfX)
  | [], _ => rfl
  | w :: ws, H => by
    show (rX w).bind _ = _
    rw [H w List.mem_cons_self]
    show (aIt ws).map _ = _
    rw [aIt_some (fun w hw => H w (List.mem_cons_of_mem _ hw))]
    rfl
theorem aIt_none : ∀ {ws : List (List Nat)} {w : List Nat}, w ∈ ws → rX w = none → aIt ws = none
  | v :: ws, w, hm, h => by
    show (rX v).bind _ = _
    rcases List.mem_cons.mp hm with rfl | hm
    · rw [h]; rfl
    · cases rX v with
      | none => rfl
      | some t =>
        show (aIt ws).map _ = _
        rw [aIt_none hm h]; rfl
theorem lfX_tks (l : Nat) : ∀ ws : List (List Nat), mt_tks (ws.map lfX) l = ws.map (fun w => (2, l, 0, w))
  | [] => rfl
  | w :: ws => by
    show mt_tks (lfX w :: ws.map lfX) l = _
    rw [mt_tks_cons, lfX_tks l ws]; rfl
theorem t199_88 {job : Nat} {ws : List (List Nat)} {i1 i5 : Int32} {σ0 : mS} (hj : job < 96) (hW : aWok ws) (T0 : wdT σ0 job ws)
    (H1 : ∀ t, (aIt ws).map mt_mk = some t → ∀ σ', mKp mN1 mN2 mN1 (fun x => x = 27 + job) σ0 σ' → mSlot σ' (wA job) (27 + job) (mt_tk t 0) → Q (some (.int 1)) σ')
    (H0 : (aIt ws).map mt_mk = none → ∀ σ', mKp mN1 mN2 mN1 (fun x => x = 27 + job) σ0 σ' → Q (some (.int 0)) σ') : ∀ (m i : Nat) (σ : mS) (o7 : Option Value), i + m = ws.length → mKp mN1 mN2 mN1 (fun x => x = 27 + job) σ0 σ → mSlot σ (wA job) (27 + job) ((3, 0, 0, []) :: (ws.take i).map (fun w => (2, 1, 0, w))) → (∀ w ∈ ws.take i, rX w = some (lfX w)) →
    mM X (d + 4) 199 88 [some (.ref 86), some (.int i1), some (.int (nI job)), some (.int (nI (27 + job))), some (.int (nI ws.length)), some (.int i5), some (.int (nI i)), o7] [] σ Q := by
  obtain ⟨T1, T2⟩ := id T0
  have hw8 := hW.1
  have hcap : mcp (27 + job) = 9 := by unfold mcp; rw [if_neg (by omega), if_pos (by omega)]
  intro m
  induction m with
  | zero =>
    intro i σ o7 h K S hx
    have e : i = ws.length := by omega
    subst e
    rw [List.take_length] at S hx
    refine u199_88 ⟨fun _ => H1 _ (by rw [aIt_some hx]; rfl) σ K ?_, fun g => absurd (Int32.le_refl _) g⟩
    rw [mt_tk_mk, lfX_tks]; exact S
  | succ m ih =>
    intro i σ o7 h K S hx
    have hi : i < ws.length := by omega
    obtain ⟨x1, x2, x3⟩ := T2 i hi
    have hw := hW.2 ws[i] (List.getElem_mem hi)
    refine u199_88 (pk_le ws.length i (fun g => absurd g (by omega)) (fun _ => ?_))
    rw [show (8 : Int32) = nI 8 from rfl, pk_mul, nI_add, show (600 : Int32) + (192 : Int32) * nI job + (24 : Int32) * nI i = nI (600 + 192 * job + 24 * i) by rw [show (600 : Int32) = nI 600 from rfl, show (192 : Int32) = nI 192 from rfl, show (24 : Int32) = nI 24 from rfl, pk_mul, pk_mul, nI_add, nI_add]]
    refine ⟨m_ix (by omega) (by decide), ?_⟩
    rw [mGet_e (by omega), K.2.1 110 _ (by decide) id, x2]
    have hg : ∀ k (h : k < ws[i].length), mg σ (600 + 192 * job + 24 * i + k) = ws[i][k] := fun k hk => (K.2.2.1 _ id).trans (x3 k hk)
    refine t188 (by omega) (by omega) hg ⟨_, rfl, ?_⟩
    by_cases hc : ∀ c ∈ ws[i], c ≠ 34 ∧ c ≠ 92
    · rw [if_pos ⟨x1, hc⟩]
      refine ⟨fun _ => ⟨m_ix (by omega) (by decide), ?_⟩, fun g => absurd g (by decide)⟩
      rw [mGet_e (by omega), K.2.1 110 _ (by decide) id, x2]
      refine t139 (l := 1) (txt := ws[i]) S (by rw [hcap, List.length_cons, List.length_map, List.length_take]; omega) (by decide) rfl (by omega) (by omega) (fun j hj' => ⟨by unfold wA; omega, hg j hj'⟩) (fun σ2 K2 S2 => ⟨rfl, ?_⟩)
      rw [nI_1]
      refine ih (i + 1) σ2 _ (by omega) (K.tr K2) ?_ ?_
      · rw [List.take_succ_eq_append_getElem hi, List.map_append]; exact S2
      · intro w hm
        rw [List.take_succ_eq_append_getElem hi, List.mem_append, List.mem_singleton] at hm
        rcases hm with hm | rfl
        · exact hx w hm
        · rw [rX_iff x1]; exact if_pos (fun c hc' => ⟨(hw.2 c hc').1, (hw.2 c hc').2, hc c hc'⟩)
    · rw [if_neg (fun g => hc g.2)]
      refine ⟨fun g => absurd rfl g, fun _ => H0 ?_ σ K⟩
      rw [aIt_none (List.getElem_mem hi) (by rw [rX_iff x1]; exact if_neg (fun g => hc (fun c hm => (g c hm).2.2)))]; rfl
def rsK (job : Nat) (σ σ' : mS) : Prop := mKp mN1 mN2 (wA job) (fun x => x = 27 + job) σ σ'
theorem t199 {job s tl k : Nat} {ws : List (List Nat)} (hs : s < 6) (hj : job < 96) (h96 : σ.2.1 96 s = nI tl) (h4 : tl < 4) (h91 : σ.2.1 91 tl = nI k) (hk : k < 4) (hW : aWok ws) (T : wdT σ job ws)
    (H1 : ∀ t, aRes k ws = some t → ∀ σ', rsK job σ σ' → mSlot σ' (wA job) (27 + job) (mt_tk t 0) → Q (some (.int 1)) σ')
    (H0 : aRes k ws = none → ∀ σ', rsK job σ σ' → Q (some (.int 0)) σ') : mM X (d + 5) 199 0 (mm_L0 199 [.ref 86, .int (nI s), .int (nI job)]) [] σ Q := by
  have hw8 := hW.1
  have hcap : mcp (27 + job) = 9 := by unfold mcp; rw [if_neg (by omega), if_pos (by omega)]
  have up : ∀ {σ1 σ2 : mS}, mKp mN1 mN2 mN1 (fun x => x = 27 + job) σ1 σ2 → rsK job σ1 σ2 := fun h => h.mono (fun _ h => h) (fun _ _ h => h) (fun _ h => h.elim) (fun _ h => h)
  refine u199_0 ⟨m_ix hj (by decide), m_ix hs (by decide), ?_⟩
  rw [mGet_e (by omega), h96]
  refine ⟨m_ix h4 (by decide), ?_⟩
  rw [mGet_e (by omega), h91, show (27 : Int32) = nI 27 from rfl, nI_add]
  refine mSlot.clear (A := mN1) (by omega) (fun σ1 K1 D1 => ⟨rfl, ?_⟩)
  have T' : wdT σ1 job ws := by
    obtain ⟨T1, T2⟩ := T
    refine ⟨(K1.2.1 109 _ (by decide) id).trans T1, fun i hi => ?_⟩
    obtain ⟨x1, x2, x3⟩ := T2 i hi
    exact ⟨x1, (K1.2.1 110 _ (by decide) id).trans x2, fun q hq => (K1.2.2.1 _ id).trans (x3 q hq)⟩
  rw [mGet_e (by omega), T.1]
  refine pk_ne k 0 (fun e0 => ?_) (fun n0 => ?_)
  · subst e0
    exact t200 (d := d) hj hW T' (D1 mN1) (fun t ht σ2 K2 S2 => ⟨_, rfl, Or.inr rfl, H1 t ht σ2 ((up K1).tr K2) S2⟩) (fun ht σ2 K2 => ⟨_, rfl, Or.inl rfl, H0 ht σ2 ((up K1).tr K2)⟩)
  refine pk_ne k 1 (fun e1 => ?_) (fun n1 => ?_)
  · subst e1
    refine (D1 (wA job)).add (k := 1) (l := 0) (v := nI ws.length) (by rw [hcap]; decide) (by decide) (by decide) (fun σ2 K2 S2 => ⟨rfl, ?_⟩)
    exact u199_58 ⟨fun _ => ⟨fun _ => H1 _ rfl σ2 ((up K1).tr (up K2)) S2, fun g => absurd g (by decide)⟩, fun g => absurd g (by decide)⟩
  refine u199_58 (pk_ne k 2 (fun e2 => ?_) (fun n2 => ?_))
  · subst e2
    exact u201_0 (t201_5 (X := X) (d := d + 1) hj hW T' (D1 (wA job)) (fun t ht σ2 K2 S2 => ⟨_, rfl, Or.inr rfl, H1 t ht σ2 ((up K1).tr (up K2)) S2⟩) (fun ht σ2 K2 => ⟨_, rfl, Or.inl rfl, H0 ht σ2 ((up K1).tr (up K2))⟩) ws.length 0 0 _ _ _ _ _ _ (Nat.zero_add _) rfl)
  · have e3 : k = 3 := by omega
    subst e3
    refine ⟨fun g => absurd rfl g, fun _ => ?_⟩
    refine (D1 (wA job)).add (k := 3) (l := 0) (v := 0) (by rw [hcap]; decide) (by decide) (by decide) (fun σ2 K2 S2 => ⟨rfl, ?_⟩)
    have T2 : wdT σ2 job ws := by
      obtain ⟨T1, T2⟩ := T'
      refine ⟨(K2.2.1 109 _ (by decide) id).trans T1, fun i hi => ?_⟩
      obtain ⟨x1, x2, x3⟩ := T2 i hi
      exact ⟨x1, (K2.2.1 110 _ (by decide) id).trans x2, fun q hq => (K2.2.2.1 _ id).trans (x3 q hq)⟩
    exact t199_88 (X := X) (d := d + 1) hj hW T2 (fun t ht σ3 K3 S3 => H1 t ht σ3 (((up K1).tr (up K2)).tr (up K3)) S3) (fun ht σ3 K3 => H0 ht σ3 (((up K1).tr (up K2)).tr (up K3))) ws.length 0 σ2 _ (Nat.zero_add _) mKp.rf S2 (fun w hw => nomatch hw)
end RRT
