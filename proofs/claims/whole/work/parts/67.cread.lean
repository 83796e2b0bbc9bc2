/-! THE DRAFT READ: numbers, lists, values -/
theorem mt_dv_lt : ∀ (es : List Nat) (v : Nat), (∀ c ∈ es, 48 ≤ c ∧ c ≤ 57) → mt_dv v es < (v + 1) * 10 ^ es.length
  | [], v, _ => by simp [mt_dv]
  | c :: es, v, h => by
    have h1 := h c List.mem_cons_self
    have h2 := mt_dv_lt es (v * 10 + (c - 48)) (fun x hx => h x (List.mem_cons_of_mem _ hx))
    show mt_dv (v * 10 + (c - 48)) es < (v + 1) * 10 ^ (es.length + 1)
    refine Nat.lt_of_lt_of_le h2 ?_
    rw [Nat.pow_succ, Nat.mul_comm (10 ^ es.length) 10, ← Nat.mul_assoc]
    exact Nat.mul_le_mul_right _ (by omega)
theorem mn_rg {a : Nat} (h : a ≤ 999999) : (-999999 ≤ nI a ∧ nI a ≤ 999999) ∧ (-999999 ≤ -(nI a) ∧ -(nI a) ≤ 999999) := by
  have h3 : (-999999 : Int32).toInt = -999999 := by decide
  have h4 : (999999 : Int32).toInt = 999999 := by decide
  have h5 : (nI a).toInt = a := nI_toInt (by omega)
  have e : (-(nI a)).toInt = - (a : Int) := by
    rw [Int32.toInt_neg, h5]
    apply Int.bmod_eq_of_le <;> omega
  refine ⟨⟨Int32.le_iff_toInt_le.mpr ?_, Int32.le_iff_toInt_le.mpr ?_⟩, ⟨Int32.le_iff_toInt_le.mpr ?_, Int32.le_iff_toInt_le.mpr ?_⟩⟩ <;> omega
theorem mt_pu_rg {b : Bool} {es : List Nat} {n : Int32} (h : mt_pu b es = some n) : -999999 ≤ n ∧ n ≤ 999999 ∧ 1 ≤ es.length := by
  unfold mt_pu at h
  split at h
  · cases h
  · rename_i hno
    have hall : ∀ c ∈ es, 48 ≤ c ∧ c ≤ 57 := Decidable.byContradiction (fun g => hno (Or.inr (Or.inr (Or.inr g))))
    have hl : ¬ es.length < 1 := fun g => hno (Or.inl g)
    have hl6 : ¬ 6 < es.length := fun g => hno (Or.inr (Or.inl g))
    have hv := mt_dv_lt es 0 hall
    have hp : 10 ^ es.length ≤ 10 ^ 6 := Nat.pow_le_pow_right (by decide) (by omega)
    have := mn_rg (a := mt_dv 0 es) (by omega)
    cases h
    cases b with
    | false => exact ⟨this.1.1, this.1.2, by omega⟩
    | true => exact ⟨this.2.1, this.2.2, by omega⟩
theorem pS_lt {D : List Nat} {k k' : Nat} {s : mSc} (hk : k ≤ D.length) (h : pS D k = some (s, k')) : k < k' ∧ k' ≤ D.length := by
  unfold pS at h
  split at h
  · split at h
    · rename_i h1 h2
      cases h
      have := mc_ne (D := D) (k := k + 3) (by omega)
      omega
    · cases h
  · split at h
    · split at h
      · rename_i h1 h2 h3
        cases h
        have := mc_ne (D := D) (k := k + 1 + (pU D (k + 1)).length) (by omega)
        omega
      · cases h
    · split at h
      · rename_i h1 h2 h3
        rw [Option.map_eq_some_iff] at h
        obtain ⟨n, h4, e⟩ := h
        cases e
        have := mt_pu_rg h4
        have hkl := mc_ne (D := D) (k := k) (by omega)
        have := pE_len _ (k + 1) rfl hkl
        omega
      · rw [Option.map_eq_some_iff] at h
        obtain ⟨n, h4, e⟩ := h
        cases e
        have := mt_pu_rg h4
        have := pE_len _ k rfl hk
        omega
theorem tw_mem {p : Nat → Bool} {c : Nat} : ∀ {l : List Nat}, c ∈ l.takeWhile p → p c = true ∧ c ∈ l
  | [], h => by simp at h
  | a :: l, h => by
    rw [List.takeWhile_cons] at h
    split at h
    · rename_i ha
      rcases List.mem_cons.mp h with rfl | h
      · exact ⟨ha, List.mem_cons_self⟩
      · exact ⟨(tw_mem h).1, List.mem_cons_of_mem _ (tw_mem h).2⟩
    · cases h
theorem pU_ch {D : List Nat} (h : mD_ok D) (j : Nat) : ∀ c ∈ pU D j, 32 ≤ c ∧ c ≤ 126 ∧ c ≠ 34 := by
  intro c hc
  unfold pU at hc
  have h1 := (tw_mem hc).1
  have h2 := h.2 c (List.mem_of_mem_drop (tw_mem hc).2)
  refine ⟨h2.1, h2.2, ?_⟩
  simpa using h1
/-- a scalar that is read is good -/
theorem pS_lg {D : List Nat} {k k' : Nat} {s : mSc} (hD : mD_ok D) (h : pS D k = some (s, k')) : mt_lg s := by
  unfold pS at h
  split at h
  · split at h
    · cases h; exact trivial
    · cases h
  · split at h
    · split at h
      · rename_i h3
        cases h
        refine ⟨h3.1, fun c hc => ?_⟩
        have := pU_ch hD _ c hc
        exact ⟨this.1, this.2.1, this.2.2, fun e => h3.2.1 (e ▸ hc)⟩
      · cases h
    · split at h
      · rw [Option.map_eq_some_iff] at h
        obtain ⟨n, h4, e⟩ := h
        cases e
        have := mt_pu_rg h4
        exact ⟨this.1, this.2.1⟩
      · rw [Option.map_eq_some_iff] at h
        obtain ⟨n, h4, e⟩ := h
        cases e
        have := mt_pu_rg h4
        exact ⟨this.1, this.2.1⟩
section CRE
variable {X : List Int32} {d : Nat} {hp : mm_H} {Q : Option Value → mm_H → Prop} {S : Nat → Prop} {D : List Nat}
theorem k36_l {i1 : Int32} : ∀ (m j n : Nat) (hp1 : mm_H), (pE D j).length = m → n + m ≤ 60 → j ≤ D.length → cD hp1 D (nI j) →
    (∀ hp' n', cE (fun x => x = 1) hp1 hp' → cG 0 hp1 hp' → hp'.length = hp1.length → cD hp' D (nI (j + m)) → mm_R X (d + 2) 36 58 [some (.ref 1), some (.int i1), some (.int n')] [] hp' Q) →
    mm_R X (d + 2) 36 26 [some (.ref 1), some (.int i1), some (.int (nI n))] [] hp1 Q := by
  intro m
  induction m with
  | zero =>
    intro j n hp1 hm hn hj D1 H
    have h60 := D1.1.1
    have hml := mc_lt D1.1 j
    refine w36_26 (pk_le 60 n (fun _ => H hp1 _ cE.rf cG.rf rfl D1) (fun _ => ⟨⟨1, _, rfl, D1.2.1⟩, k30 D1 (by omega) ⟨_, rfl, k37 (by omega) ⟨_, rfl, fun _ => H hp1 _ cE.rf cG.rf rfl D1, fun h => absurd ?_ h⟩⟩⟩))
    rw [if_neg]
    intro hd
    have hjl := mc_ne (D := D) (k := j) (by omega)
    rw [pE_c hjl, if_pos hd] at hm
    simp at hm
  | succ m ih =>
    intro j n hp1 hm hn hj D1 H
    have h60 := D1.1.1
    have hml := mc_lt D1.1 j
    have hjl : j < D.length := by
      rcases Nat.lt_or_ge j D.length with h | h
      · exact h
      · rw [pE_n h] at hm; simp at hm
    have hd : 48 ≤ mc D j ∧ mc D j ≤ 57 := by
      rcases Decidable.em (48 ≤ mc D j ∧ mc D j ≤ 57) with h | h
      · exact h
      · rw [pE_c hjl, if_neg h] at hm; simp at hm
    have hm' : (pE D (j + 1)).length = m := by
      rw [pE_c hjl, if_pos hd, List.length_cons] at hm; omega
    refine w36_26 (pk_le 60 n (fun h => absurd h (by omega)) (fun _ => ⟨⟨1, _, rfl, D1.2.1⟩, k30 D1 (by omega) ⟨_, rfl, k37 (by omega) ⟨_, rfl, fun h => absurd h ?_, fun _ => D1.gi (D1.pt ?_)⟩⟩⟩))
    · rw [if_pos hd]; decide
    · rw [nI_1]
      intro hp2 E2 G2 L2 D2
      rw [nI_1]
      refine ih (j + 1) (n + 1) hp2 hm' (by omega) (by omega) D2 ?_
      intro hp3 n3 E3 G3 L3 D3
      refine H hp3 n3 (E2.tr E3) (G2.tr G3) (by omega) ?_
      rw [show j + (m + 1) = j + 1 + m by omega]; exact D3
theorem k36_58 {k j : Nat} {o : Int32} {hp1 : mm_H} {b : Bool} {es : List Nat} {c : Nat} (hl : 113 ≤ hp.length) (E1 : cE (fun x => x = 1) hp hp1) (G1 : cG 0 hp hp1) (L1 : hp1.length = hp.length) (D1 : cD hp1 D (nI j)) (hk : k + es.length + (if b then 1 else 0) = j) (hj : j ≤ D.length) (hes : ∀ i (h : i < es.length), es[i] = mc D (k + (if b then 1 else 0) + i)) (hb : b = true → mc D k = 45) (hb2 : b = false → ∀ c ∈ es.head?, c ≠ 45) (H : cRd D hp ((mt_pu b es).map (fun n => (.leaf (some (.inl n)), j))) Q 2) :
    mm_R X (d + 3) 36 58 [some (.ref 1), some (.int (nI k)), some (.int o)] [] hp1 Q := by
  obtain ⟨⟨h60, hch⟩, c1, junk, c2', c3⟩ := id D1
  have hmp : mt_pn (if b then 45 :: es else es) = mt_pu b es := by
    cases b with
    | true => rw [if_pos rfl, mt_pn, if_pos rfl]
    | false =>
      rw [if_neg (by decide)]
      cases es with
      | nil => rfl
      | cons c es => rw [mt_pn, if_neg (hb2 rfl c rfl)]
  have hlen : (if b then 45 :: es else es).length = es.length + (if b then 1 else 0) := by cases b <;> rfl
  have hcl : (D.map mI ++ junk).length = 60 := by simp; omega
  have hget : ∀ i (h : i < (if b then 45 :: es else es).length), (D.map mI ++ junk)[k + i]? = some (mI (if b then 45 :: es else es)[i]) := by
    intro i hi
    rw [hlen] at hi
    have hki : k + i < D.length := by omega
    rw [List.getElem?_append_left (by simpa using hki), List.getElem?_map, mc_get hki]
    cases b with
    | false =>
      simp only [Bool.false_eq_true, if_false] at hi hes ⊢
      rw [hes i (by omega)]
      simp
    | true =>
      simp only [if_true] at hi hes ⊢
      cases i with
      | zero => simp [hb rfl]
      | succ i =>
        simp only [List.getElem_cons_succ]
        rw [hes i (by omega), show k + 1 + i = k + (i + 1) by omega]
        rfl
  have hbd : ∀ x ∈ (if b then 45 :: es else es), x < 65536 := by
    intro x hx
    obtain ⟨i, hi, rfl⟩ := List.getElem_of_mem hx
    have := hget i hi
    have hki : k + i < D.length := by rw [hlen] at hi; omega
    rw [List.getElem?_append_left (by simpa using hki), List.getElem?_map, mc_get hki] at this
    simp only [Option.map_some, Option.some.injEq, mI, Value.int.injEq] at this
    have hm := (hch _ (mc_in hki)).2
    cases b with
    | false =>
      simp only [Bool.false_eq_true, if_false] at hi hes ⊢
      rw [hes i hi]
      simp only [Nat.add_zero]
      omega
    | true =>
      simp only [if_true] at hi hes ⊢
      cases i with
      | zero => show 45 < 65536; decide
      | succ i =>
        simp only [List.getElem_cons_succ]
        rw [hes i (by simpa using hi), show k + 1 + i = k + (i + 1) by omega]
        omega
  refine w36_58 ⟨1, _, _, rfl, c1, rfl, ⟨1, _, _, rfl, c1, rfl, rfl, k38 c2' (by omega) (by rw [hlen]; omega) (by omega) hget hbd ⟨_, rfl, ?_⟩⟩⟩
  rw [hmp]
  cases hpu : mt_pu b es with
  | none =>
    rw [hpu] at H
    exact ⟨fun h => absurd rfl h, fun _ => H.2 rfl hp1 _ E1 (G1.mono (by omega)) D1⟩
  | some n =>
    rw [hpu] at H
    obtain ⟨n1, n2, _⟩ := mt_pu_rg hpu
    refine ⟨fun _ => k39 (fun _ _ q hp2 hq E2 G2 L2 T2 => ⟨_, rfl, Or.inr ⟨_, rfl⟩, ?_⟩) (fun h => absurd ⟨n1, n2⟩ h), fun h => ?_⟩
    · refine H.1 _ _ rfl hp2 q (by omega) (E1.tr (E2.mono (fun x _ h => h.elim))) ((G1.tr G2).mono (by omega)) (D1.keep E2 id id) T2
    · have h : n = -1000000 := h
      rw [h] at n1
      exact absurd n1 (by decide)
/-- readNumber -/
theorem k36 {k : Nat} (hD : cD hp D (nI k)) (hl : 113 ≤ hp.length) (hk : k ≤ D.length) (h1 : mc D k ≠ 110) (h2 : mc D k ≠ 34) (H : cRd D hp ((pS D k).map (fun p => (.leaf p.1, p.2))) Q 2) : mm_R X (d + 3) 36 0 (mm_L0 36 [.ref 1]) [] hp Q := by
  have h60 := hD.1.1
  have hml := mc_lt hD.1 k
  refine w36_0 (hD.gi ⟨⟨1, _, rfl, hD.2.1⟩, k30 hD (by omega) ⟨_, rfl, ?_⟩⟩)
  refine pk_eq (mc D k) 45 (B := _) (A := _) (fun e => hD.gi (hD.pt ?_)) (fun e => ?_) |>.symm
  · rw [nI_1]
    intro hp1 E1 G1 L1 D1
    have hkl := mc_ne (D := D) (k := k) (by omega)
    have hpe := pE_len (D := D) _ (k + 1) rfl (by omega)
    have eS : pS D k = (mt_pu true (pE D (k + 1))).map (fun n => (some (.inl n), k + 1 + (pE D (k + 1)).length)) := by
      unfold pS; rw [if_neg h1, if_neg h2, if_pos e]
    refine k36_l (D := D) (pE D (k + 1)).length (k + 1) 0 hp1 rfl (by omega) (by omega) D1 ?_
    intro hp2 n2 E2 G2 L2 D2
    refine k36_58 (c := 0) (b := true) (es := pE D (k + 1)) hl (E1.tr E2) (G1.tr G2) (by omega) D2 (by simp; omega) (by omega) (fun i hi => (pE_get hi).2) (fun _ => e) (fun h => by cases h) ?_
    rw [eS, Option.map_map] at H
    exact H
  · have hpe := pE_len (D := D) _ k rfl hk
    have eS : pS D k = (mt_pu false (pE D k)).map (fun n => (some (.inl n), k + (pE D k).length)) := by
      unfold pS; rw [if_neg h1, if_neg h2, if_neg e]
    refine k36_l (D := D) (pE D k).length k 0 hp rfl (by omega) (by omega) hD ?_
    intro hp2 n2 E2 G2 L2 D2
    refine k36_58 (c := 0) (b := false) (es := pE D k) hl E2 G2 L2 D2 (by simp) (by omega) (fun i hi => (pE_get hi).2) (fun h => by cases h) (fun _ c hc => ?_) ?_
    · rcases Nat.lt_or_ge k D.length with h | h
      · rw [pE_c h] at hc
        split at hc
        · simp only [List.head?_cons, Option.mem_def, Option.some.injEq] at hc
          omega
        · cases hc
      · rw [pE_n h] at hc; cases hc
    · rw [eS, Option.map_map] at H
      exact H
end CRE
