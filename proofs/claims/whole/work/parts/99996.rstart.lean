/-! THE REFERENCE STARTS -/
section RST
variable {X : List Int32} {d : Nat} {σ : mS} {Q : Option Value → mS → Prop}
theorem aMiss_of {E : mEv} {s o : Nat} (hs : s < (eSp E).length) (ho : o < 6) (hn : aNd E s o = true) (hl : (eSp E).length ≤ o) : aMiss E = true := by
  unfold aMiss
  rw [List.any_eq_true]
  refine ⟨s, List.mem_range.mpr hs, ?_⟩
  rw [List.any_eq_true]
  refine ⟨o, List.mem_range.mpr ho, ?_⟩
  rw [hn, Bool.true_and, Nat.ble_eq]; exact hl
theorem aMiss_no {E : mEv} (h : ∀ s o, s < (eSp E).length → o < 6 → (eSp E).length ≤ o → aNd E s o = false) : aMiss E = false := by
  rw [Bool.eq_false_iff]
  intro z
  unfold aMiss at z
  rw [List.any_eq_true] at z
  obtain ⟨s, hs, z⟩ := z
  rw [List.any_eq_true] at z
  obtain ⟨o, ho, z⟩ := z
  rw [Bool.and_eq_true, Nat.ble_eq] at z
  rw [h s o (List.mem_range.mp hs) (List.mem_range.mp ho) z.2] at z
  exact absurd z.1 (by decide)
theorem t163_21 {E : mEv} {i1 : Int32} (hE : sE σ E) (hF : eF E) (H1 : aMiss E = true → Q (some (.int 1)) σ)
    (H0 : aMiss E = false → ∀ o3, mM X (d + 3) 163 21 [some (.ref 86), some (.int i1), some (.int (nI (eSp E).length)), o3] [] σ Q) : ∀ (m s : Nat) (o3 : Option Value), s + m = (eSp E).length → (∀ k o, k < s → o < 6 → (eSp E).length ≤ o → aNd E k o = false) →
    mM X (d + 3) 163 21 [some (.ref 86), some (.int i1), some (.int (nI s)), o3] [] σ Q := by
  have h6 := hF.2.2.1
  have h12 : σ.1 12 = nI (eSp E).length := hE.2.1
  intro m
  induction m with
  | zero =>
    intro s o3 h hx
    have e : s = (eSp E).length := by omega
    subst e
    exact H0 (aMiss_no hx) o3
  | succ m ih =>
    intro s o3 h hx
    have inner : ∀ (k o : Nat), o + k = 6 → (eSp E).length ≤ o → (∀ q, (eSp E).length ≤ q → q < o → aNd E s q = false) → mM X (d + 3) 163 34 [some (.ref 86), some (.int i1), some (.int (nI s)), some (.int (nI o))] [] σ Q := by
      intro k
      induction k with
      | zero =>
        intro o ho hl hq
        have e : o = 6 := by omega
        subst e
        refine u163_34 ⟨fun _ => ?_, fun g => absurd (by decide) g⟩
        rw [nI_1]
        refine ih (s + 1) _ (by omega) (fun k o hk ho hl => ?_)
        by_cases e : k = s
        · subst e; exact hq o hl ho
        · exact hx k o (by omega) ho hl
      | succ k ihk =>
        intro o ho hl hq
        refine u163_34 (pk_le 6 o (fun g => absurd g (by omega)) (fun _ => ?_))
        refine t164 (X := X) (d := d + 1) hE hF (by omega) (by omega) ⟨_, rfl, ?_⟩
        rw [nI_1]
        refine ⟨fun g => ihk (o + 1) (by omega) (by omega) (fun q h1 h2 => ?_), fun g => H1 (aMiss_of (s := s) (o := o) (by omega) (by omega) ?_ hl)⟩
        · by_cases e : q = o
          · subst e; exact iB_0.mp g
          · exact hq q h1 (by omega)
        · cases e : aNd E s o
          · rw [e] at g; exact absurd rfl g
          · rfl
    refine u163_21 ?_
    rw [h12]
    refine pk_le (eSp E).length s (fun g => absurd g (by omega)) (fun _ => ?_)
    exact inner (6 - (eSp E).length) (eSp E).length (by omega) (Nat.le_refl _) (fun q h1 h2 => absurd h2 (by omega))
theorem t163_135 {i1 : Int32} {o3 : Option Value} {σ0 : mS} (H : ∀ σ', mKp mN1 (fun b j => b = 108) mN1 mN1 σ0 σ' → (∀ j, j < 96 → σ'.2.1 108 j = 0) → mM X d 166 0 (mm_L0 166 [.ref 86]) [] σ' (m0_K (fun σ1 => Q (some (.int 0)) σ1))) : ∀ (m j : Nat) (σ : mS), j + m = 96 → mKp mN1 (fun b j => b = 108) mN1 mN1 σ0 σ → (∀ i, i < j → σ.2.1 108 i = 0) →
    mM X (d + 1) 163 135 [some (.ref 86), some (.int i1), some (.int (nI j)), o3] [] σ Q := by
  intro m
  induction m with
  | zero =>
    intro j σ h K hx
    have e : j = 96 := by omega
    subst e
    exact u163_135 ⟨fun _ => H σ K hx, fun g => absurd (by decide) g⟩
  | succ m ih =>
    intro j σ h K hx
    refine u163_135 (pk_le 96 j (fun g => absurd g (by omega)) (fun _ => ⟨m_ix (by omega) (by decide), ?_⟩))
    rintro σ3 rfl
    rw [uI_e (by omega), nI_1]
    refine ih (j + 1) _ (by omega) (K.tr (uI_kp (by decide) rfl)) (fun i hi => ?_)
    rw [uI_at]
    split
    · rfl
    · exact hx i (by omega)
theorem t163_107 {i1 : Int32} {o3 : Option Value} {σ0 : mS} (H : ∀ σ', mKp mN1 (fun b j => b = 106 ∨ b = 107 ∨ b = 108) mN1 mN1 σ0 σ' → (∀ s, s < 6 → σ'.2.1 106 s = 0) → (∀ j, j < 96 → σ'.2.1 108 j = 0) → mM X d 166 0 (mm_L0 166 [.ref 86]) [] σ' (m0_K (fun σ1 => Q (some (.int 0)) σ1))) : ∀ (m s : Nat) (σ : mS), s + m = 6 → mKp mN1 (fun b j => b = 106 ∨ b = 107) mN1 mN1 σ0 σ → (∀ i, i < s → σ.2.1 106 i = 0) →
    mM X (d + 1) 163 107 [some (.ref 86), some (.int i1), some (.int (nI s)), o3] [] σ Q := by
  intro m
  induction m with
  | zero =>
    intro s σ h K hx
    have e : s = 6 := by omega
    subst e
    refine u163_107 ⟨fun _ => ?_, fun g => absurd (by decide) g⟩
    refine t163_135 (X := X) (d := d) (σ0 := σ) (fun σ2 K2 h2 => H σ2 ((K.mono (fun _ h => h) (fun b j h => by omega) (fun _ h => h) (fun _ h => h)).tr (K2.mono (fun _ h => h) (fun b j h => by omega) (fun _ h => h) (fun _ h => h))) (fun i hi => (K2.2.1 106 _ (by decide) (fun h => absurd (show (106 : Nat) = 108 from h) (by decide))).trans (hx i hi)) h2) 96 0 σ rfl mKp.rf (fun i hi => absurd hi (Nat.not_lt_zero _))
  | succ m ih =>
    intro s σ h K hx
    refine u163_107 (pk_le 6 s (fun g => absurd g (by omega)) (fun _ => ⟨m_ix (by omega) (by decide), ?_⟩))
    rintro σ3 rfl
    rw [uI_e (by omega)]
    refine ⟨m_ix (by omega) (by decide), ?_⟩
    rintro σ4 rfl
    rw [uI_e (by omega), nI_1]
    refine ih (s + 1) _ (by omega) ((K.tr (uI_kp (by decide) (Or.inl rfl))).tr (uI_kp (by decide) (Or.inr rfl))) (fun i hi => ?_)
    rw [uI_at, if_neg (by omega), uI_at]
    split
    · rfl
    · exact hx i (by omega)
theorem t163 {E : mEv} {R : mRn} {w : Int32} (hF : eF E) (hE : sE σ E) (h44 : σ.1 44 = 0) (h23 : σ.1 23 = nI (nSt R)) (h3 : nSt R ≤ 3)
    (HN : ∀ i, i ≠ 0 → aStrt E R w = (i, R) → Q (some (.int i)) σ)
    (HY : aMiss E = false → 1 ≤ w.toNatClampNeg → w.toNatClampNeg ≤ 3 → aStrt E R w = (0, aAd E (aBeg E w.toNatClampNeg)) → ∀ σ', gK σ σ' → sR σ' E (aAd E (aBeg E w.toNatClampNeg)) → Q (some (.int 0)) σ') : mM X (d + 14) 163 0 (mm_L0 163 [.ref 86, .int w]) [] σ Q := by
  have h6 := hF.2.2.1
  have h12 : σ.1 12 = nI (eSp E).length := hE.2.1
  unfold aStrt at HN HY
  refine u163_0 ?_
  rw [h23]
  refine pk_eq (nSt R) 1 (fun e => HN (-1) (by decide) (if_pos (Or.inl e))) (fun e1 => ?_)
  refine u127_0 ⟨fun g => ⟨_, rfl, fun z => absurd rfl z, fun _ => HN (-1) (by decide) (if_pos (Or.inr (Or.inl g)))⟩, fun g => ⟨fun g2 => ⟨_, rfl, fun z => absurd rfl z, fun _ => HN (-1) (by decide) (if_pos (Or.inr (Or.inr g2)))⟩, fun g2 => ⟨_, rfl, fun _ => ?_, fun z => absurd z (by decide)⟩⟩⟩
  have hno : ¬ (nSt R = 1 ∨ w < 1 ∨ 3 < w) := fun z => by
    rcases z with z | z | z
    · exact e1 z
    · exact g z
    · exact g2 z
  rw [if_neg hno] at HY
  rw [if_neg hno] at HN
  obtain ⟨wn, hwn, ew⟩ : ∃ j : Nat, j ≤ 3 ∧ w = nI j := nI_of2 (M := 3) (by decide) (fun z => g (Int32.lt_of_lt_of_le z (by decide))) (Int32.not_lt.mp g2)
  have hw1 : 1 ≤ wn := by
    apply Classical.byContradiction
    intro z
    have : wn = 0 := by omega
    subst this
    apply g; rw [ew]; decide
  have ecl : w.toNatClampNeg = wn := by rw [ew]; exact nI_clamp (by omega)
  rw [ecl] at HY HN
  refine t163_21 (X := X) (d := d + 11) hE hF (fun hm => HN 1 (by decide) (by rw [if_pos hm])) (fun hm o3 => ?_) (eSp E).length 0 _ (Nat.zero_add _) (fun k o hk => absurd hk (Nat.not_lt_zero _))
  rw [if_neg (by rw [hm]; decide)] at HY
  rw [if_neg (by rw [hm]; decide)] at HN
  refine u163_21 ?_
  rw [h12]
  refine ⟨fun _ => t165 (X := X) (d := d + 11) hE hF hm ⟨_, rfl, ?_⟩, fun z => absurd (Int32.le_refl _) z⟩
  refine ⟨fun z => ?_, fun z => ?_⟩
  · have er := iB_0.mp z
    rw [er, if_neg (by decide)] at HY
    rintro σ3 rfl σ4 rfl σ5 rfl σ6 rfl σ7 rfl σ8 rfl
    have e12 : (mSet (mSet σ 24 w) 23 1).1 12 = nI (eSp E).length := h12
    rw [e12, ew]
    generalize e8 : mSet (mSet (mSet (mSet (mSet (mSet σ 24 (nI wn)) 23 1) 25 (nI (eSp E).length)) 26 0) 27 0) 28 0 = σ8
    have v23 : σ8.1 23 = 1 := by subst e8; rfl
    have v24 : σ8.1 24 = nI wn := by subst e8; rfl
    have v25 : σ8.1 25 = nI (eSp E).length := by subst e8; rfl
    have v26 : σ8.1 26 = 0 := by subst e8; rfl
    have v27 : σ8.1 27 = 0 := by subst e8; rfl
    have v28 : σ8.1 28 = 0 := by subst e8; rfl
    have K8 : mKp (fun k => 23 ≤ k ∧ k ≤ 28) mN2 mN1 mN1 σ σ8 := by
      subst e8
      exact (((((mSet_kp (by decide)).tr (mSet_kp (by decide))).tr (mSet_kp (by decide))).tr (mSet_kp (by decide))).tr (mSet_kp (by decide))).tr (mSet_kp (by decide))
    clear e8
    refine t163_107 (X := X) (d := d + 13) (σ0 := σ8) (fun σ9 K9 g1 g2 => ?_) 6 0 σ8 rfl mKp.rf (fun i hi => absurd hi (Nat.not_lt_zero _))
    have hE9 : sE σ9 E := (hE.kp K8 (by omega) (fun _ _ _ _ h => h) (fun _ _ h => h) (fun _ _ h => h)).kp K9 ⟨id, id⟩ (fun b j h1 h2 h => by omega) (fun _ _ h => h) (fun _ _ h => h)
    have kF : ∀ k, σ9.1 k = σ8.1 k := fun k => K9.1 k id
    have K : gK σ σ9 := (K8.mono (fun k h => Or.inr h) (fun _ _ h => h.elim) (fun _ h => h.elim) (fun _ h => h.elim)).tr (K9.mono (fun _ h => h.elim) (fun b j h => by omega) (fun _ h => h.elim) (fun _ h => h.elim))
    have S9 : sR σ9 E (aBeg E wn) := by
      refine ⟨hE9, ?_, ⟨⟨(kF 23).trans v23, (kF 24).trans v24, (kF 25).trans v25, (kF 26).trans v26, (kF 27).trans v27, (kF 28).trans v28⟩, fun s hs => ⟨g1 s hs, fun e => absurd e (by show ¬ 0 = 2; decide)⟩⟩, fun i hi => absurd hi (Nat.not_lt_zero _), fun s hs => ⟨fun e => absurd e (by show ¬ 0 = 1; decide), fun n hn _ => ?_⟩⟩
      · rw [kF, K8.1 44 (by decide)]; exact h44
      · rw [g2 _ (by omega)]; decide
    exact t166 (X := X) (d := d) hF (rOk_beg ⟨hw1, hwn⟩ h6 hF.1 hm) S9 (fun σ10 K10 S10 => ⟨rfl, HY hm hw1 hwn rfl σ10 (K.tr K10) S10⟩)
  · have er : aRound E = true := by
      cases e : aRound E
      · rw [e] at z; exact absurd rfl z
      · rfl
    exact HN 2 (by decide) (by rw [if_pos er])
end RST
