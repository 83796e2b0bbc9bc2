/-! THE REFERENCE ENDS A STEP -/
section REN2
variable {X : List Int32} {d : Nat} {σ : mS} {Q : Option Value → mS → Prop} {A : Nat → Prop}
theorem t142l {s l : Nat} {t : mT} (S : mSlot σ A s (mt_tk t l)) (H1 : mt_okl l t → Q (some (.int 1)) σ) (H0 : ¬ mt_okl l t → Q (some (.int 0)) σ) : mM X (d + 4) 142 0 (mm_L0 142 [.ref 86, .int (nI s)]) [] σ Q := by
  refine u142_0 (s143 S.1 S.2.2.1 ⟨_, rfl, s123 S.1 ⟨_, rfl, ?_⟩⟩)
  obtain ⟨g1, g2⟩ := t142_11 (X := X) (d := d) (Q := Q) S rfl (nI s) t l [] [] (mb s) (by simp) (mt_cl_nil l) rfl
  by_cases hok : mt_okl l t
  · refine g1 hok (u142_11 ⟨fun _ => H1 hok, fun h => absurd ?_ h⟩)
    simp
  · exact g2 hok (H0 hok)
theorem t196_19 {s ov to k full lists l : Nat} {ln : Nat → Nat} {lv : List Nat} (hs : s < 6) (ho : ov < 16) (hk : k < 1000) (hl3 : l < 4) (hf : full ≤ 4) (h8 : ∀ p, p < 4 → aBit ov p = true → ln p ≤ 8) (h112 : ∀ p, p < 4 → aBit ov p = true → σ.2.1 112 (4 * s + p) = nI (ln p)) (hpos : 0 < uP l full 0 lv)
    (H1 : k % uP l full 0 lv = 0 → ∀ i8 i9 i10, mM X (d + 2) 122 0 (mm_L0 122 [.ref 86, .int (nI to), .int (3 : Int32), .int (nI l), .int (0 : Int32)]) [] σ (m0_K (fun σ1 => mM X (d + 3) 196 3 [some (.ref 86), some (.int (nI s)), some (.int (nI ov)), some (.int (nI to)), some (.int (nI k)), some (.int (nI full)), some (.int (nI lists)), some (.int (nI (l + 1))), some (.int i8), some (.int i9), some (.int i10)] [] σ1 Q)))
    (H0 : ¬ k % uP l full 0 lv = 0 → ∀ i8 i9 i10, mM X (d + 3) 196 3 [some (.ref 86), some (.int (nI s)), some (.int (nI ov)), some (.int (nI to)), some (.int (nI k)), some (.int (nI full)), some (.int (nI lists)), some (.int (nI (l + 1))), some (.int i8), some (.int i9), some (.int i10)] [] σ Q) : ∀ (m p i u : Nat), p + m = 4 → i ≤ p → u ≤ 8 ^ p → u * uP l full i ((aLr ov m p).map ln) = uP l full 0 lv →
    mM X (d + 3) 196 19 [some (.ref 86), some (.int (nI s)), some (.int (nI ov)), some (.int (nI to)), some (.int (nI k)), some (.int (nI full)), some (.int (nI lists)), some (.int (nI l)), some (.int (nI u)), some (.int (nI i)), some (.int (nI p))] [] σ Q := by
  intro m
  induction m with
  | zero =>
    intro p i u hm hi hu hU
    have e4 : p = 4 := by omega
    subst e4
    have hu' : u ≤ 4096 := hu
    have eu : u = uP l full 0 lv := by
      have : u * 1 = uP l full 0 lv := hU
      omega
    have hu0 : 0 < u := by omega
    refine u196_19 ⟨fun _ => ⟨fun e => ?_, ?_⟩, fun g => absurd (Int32.le_refl _) g⟩
    · have := (nI_eq (b := 0) (by omega) (by omega)).mp e; omega
    · have em : nI k - nI k / nI u * nI u = nI (k % u) := by
        rw [pk_div (by omega) hu0 (by omega), pk_mul, pk_sub (Nat.div_mul_le_self _ _), Nat.mod_def, Nat.mul_comm]
      have hmod : k % u < 1000 := Nat.lt_of_le_of_lt (Nat.mod_le _ _) hk
      rw [em, nI_1]
      rw [← eu] at H1 H0
      exact pk_ne (k % u) 0 (fun h => H1 h _ _ _) (fun h => H0 h _ _ _)
  | succ m ih =>
    intro p i u hm hi hu hU
    have hp4 : p < 4 := by omega
    have ps : 8 ^ (p + 1) = 8 ^ p * 8 := Nat.pow_succ 8 p
    have hpw : 8 ^ p ≤ 8 ^ 3 := Nat.pow_le_pow_right (by decide) (show p ≤ 3 by omega)
    have hpw' : (8 : Nat) ^ 3 = 512 := by decide
    have eL : aLr ov (m + 1) p = if aBit ov p = true then p :: aLr ov m (p + 1) else aLr ov m (p + 1) := rfl
    rw [eL] at hU
    refine u196_19 (pk_le 4 p (fun g => absurd g (by omega)) (fun _ => bitc ho hp4 (fun hb => ?_) (fun hb => ?_)))
    · rw [if_pos hb, List.map_cons] at hU
      have hU' : u * ((if l ≤ i ∧ i < full then ln p else 1) * uP l full (i + 1) ((aLr ov m (p + 1)).map ln)) = uP l full 0 lv := hU
      have h8p := h8 p hp4 hb
      rw [nI_1, nI_1]
      refine pk_lt i l (fun hlt => ?_) (fun hge => pk_le full i (fun hge2 => ?_) (fun hlt2 => ?_))
      · rw [if_neg (by omega), Nat.one_mul] at hU'
        exact ih (p + 1) (i + 1) u (by omega) (by omega) (by omega) hU'
      · rw [if_neg (by omega), Nat.one_mul] at hU'
        exact ih (p + 1) (i + 1) u (by omega) (by omega) (by omega) hU'
      · rw [if_pos ⟨hge, hlt2⟩, ← Nat.mul_assoc] at hU'
        rw [show (4 : Int32) = nI 4 from rfl, pk_mul, nI_add]
        refine ⟨m_ix (by omega) (by decide), ?_⟩
        rw [mGet_e (by omega), h112 p hp4 hb, pk_mul]
        exact ih (p + 1) (i + 1) (u * ln p) (by omega) (by omega) (by rw [ps]; exact Nat.mul_le_mul hu h8p) hU'
    · rw [if_neg (by rw [hb]; decide)] at hU
      rw [nI_1]
      exact ih (p + 1) i u (by omega) (by omega) (by omega) hU
theorem t196 {s ov to k full lists : Nat} {ln : Nat → Nat} {lv : List Nat} (hlv : lv = (aLr ov 4 0).map ln) (hs : s < 6) (ho : ov < 16) (hk : k < 1000) (hl3 : lists ≤ 3) (hf : full ≤ 4) (h8 : ∀ p, p < 4 → aBit ov p = true → ln p ≤ 8) (hpos : ∀ l, l < lists → 0 < uP l full 0 lv) (hcap : mcp to = 176) : ∀ (m l : Nat) (σ : mS) (us : List mTk) (o8 o9 o10 : Option Value), l + m = lists → (∀ p, p < 4 → aBit ov p = true → σ.2.1 112 (4 * s + p) = nI (ln p)) → mSlot σ A to us → us.length + (hF lv full k l m).length ≤ 176 →
    (∀ σ', mKp mN1 mN2 mN1 (· = to) σ σ' → mSlot σ' A to (us ++ hF lv full k l m) → Q none σ') →
    mM X (d + 3) 196 3 [some (.ref 86), some (.int (nI s)), some (.int (nI ov)), some (.int (nI to)), some (.int (nI k)), some (.int (nI full)), some (.int (nI lists)), some (.int (nI l)), o8, o9, o10] [] σ Q := by
  intro m
  induction m with
  | zero =>
    intro l σ us o8 o9 o10 hm h112 D hc H
    have e : l = lists := by omega
    subst e
    exact u196_3 ⟨fun _ => H σ mKp.rf (by simpa [hF] using D), fun g => absurd (Int32.le_refl _) g⟩
  | succ m ih =>
    intro l σ us o8 o9 o10 hm h112 D hc H
    have eh : hF lv full k l (m + 1) = (if k % uP l full 0 lv = 0 then [((3, l, 0, []) : mTk)] else []) ++ hF lv full k (l + 1) m := by
      unfold hF
      rw [List.range'_succ, List.map_cons, List.flatten_cons]
    rw [eh] at hc H
    rw [List.length_append] at hc
    refine u196_3 (pk_le lists l (fun g => absurd g (by omega)) (fun _ => ?_))
    refine t196_19 (X := X) (d := d) (Q := Q) (ln := ln) (lv := lv) (lists := lists) hs ho hk (by omega) hf h8 h112 (hpos l (by omega)) (fun hz i8 i9 i10 => ?_) (fun hz i8 i9 i10 => ?_) 4 0 0 1 (by omega) (by omega) (by show 1 ≤ 1; omega) (by rw [Nat.one_mul, hlv])
    · rw [if_pos hz] at hc H
      simp only [List.length_cons, List.length_nil] at hc
      refine D.add (k := 3) (l := l) (v := 0) (by rw [hcap]; omega) (by omega) (by omega) (fun σ1 K1 D1 => ⟨rfl, ?_⟩)
      refine ih (l + 1) σ1 _ _ _ _ (by omega) (fun p hp hb => (K1.2.1 112 _ (by decide) id).trans (h112 p hp hb)) D1 (by rw [List.length_append]; simp only [List.length_cons, List.length_nil]; omega) (fun σ2 K2 D2 => H σ2 (K1.tr K2) (by rw [← List.append_assoc]; exact D2))
    · rw [if_neg hz] at hc H
      simp only [List.length_nil, Nat.zero_add] at hc
      exact ih (l + 1) σ us _ _ _ (by omega) h112 D hc (fun σ2 K2 D2 => H σ2 K2 (by rw [List.nil_append]; exact D2))
theorem t195_12 {s ov to : Nat} {ln : Nat → Nat} (hs : s < 6) (ho : ov < 16) (h8 : ∀ p, p < 4 → aBit ov p = true → ln p ≤ 8) (h112 : ∀ p, p < 4 → aBit ov p = true → σ.2.1 112 (4 * s + p) = nI (ln p)) (LV : Nat × Nat × Nat)
    (H : ∀ i7 o8, mM X (d + 4) 195 82 [some (.ref 86), some (.int (nI s)), some (.int (nI ov)), some (.int (nI to)), some (.int (nI LV.1)), some (.int (nI LV.2.1)), some (.int (nI LV.2.2)), some (.int i7), o8] [.int (if LV.2.1 = 0 then 1 else 0)] σ Q) : ∀ (m p L a t : Nat) (o8 : Option Value), p + m = 4 → L ≤ p → a ≤ 8 ^ p → t ≤ 8 ^ p → nF ((aLr ov m p).map ln) L a t = LV →
    mM X (d + 4) 195 12 [some (.ref 86), some (.int (nI s)), some (.int (nI ov)), some (.int (nI to)), some (.int (nI L)), some (.int (nI a)), some (.int (nI t)), some (.int (nI p)), o8] [] σ Q := by
  intro m
  induction m with
  | zero =>
    intro p L a t o8 hm hL ha ht hF
    have e4 : p = 4 := by omega
    subst e4
    have ha' : a ≤ 4096 := ha
    have e : LV = (L, a, t) := hF.symm
    subst e
    refine u195_12 ⟨fun _ => pk_ne a 0 (fun h0 => ?_) (fun h0 => ?_), fun g => absurd (Int32.le_refl _) g⟩
    · have := H (nI 4) o8
      rw [show ((L, a, t) : Nat × Nat × Nat).2.1 = a from rfl, if_pos h0] at this
      exact this
    · have := H (nI 4) o8
      rw [show ((L, a, t) : Nat × Nat × Nat).2.1 = a from rfl, if_neg h0] at this
      exact this
  | succ m ih =>
    intro p L a t o8 hm hL ha ht hF
    have hp4 : p < 4 := by omega
    have ps : 8 ^ (p + 1) = 8 ^ p * 8 := Nat.pow_succ 8 p
    have hpw : 8 ^ p ≤ 8 ^ 3 := Nat.pow_le_pow_right (by decide) (show p ≤ 3 by omega)
    have hpw' : (8 : Nat) ^ 3 = 512 := by decide
    have eL : aLr ov (m + 1) p = if aBit ov p = true then p :: aLr ov m (p + 1) else aLr ov m (p + 1) := rfl
    rw [eL] at hF
    refine u195_12 (pk_le 4 p (fun g => absurd g (by omega)) (fun _ => bitc ho hp4 (fun hb => ?_) (fun hb => ?_)))
    · rw [if_pos hb, List.map_cons] at hF
      have hF' : (if 0 < a then nF ((aLr ov m (p + 1)).map ln) (L + 1) (a * ln p) (if 0 < a * ln p then a * ln p else t) else nF ((aLr ov m (p + 1)).map ln) L a t) = LV := hF
      have h8p := h8 p hp4 hb
      have hmul : a * ln p ≤ 8 ^ p * 8 := Nat.mul_le_mul ha h8p
      rw [nI_1]
      refine pk_le a 0 (fun h0 => ?_) (fun h0 => ?_)
      · rw [if_neg (by omega)] at hF'
        exact ih (p + 1) L a t _ (by omega) (by omega) (by omega) (by omega) hF'
      · rw [if_pos (by omega)] at hF'
        rw [show (4 : Int32) = nI 4 from rfl, pk_mul, nI_add]
        refine ⟨m_ix (by omega) (by decide), ?_⟩
        rw [mGet_e (by omega), h112 p hp4 hb, pk_mul, nI_1]
        refine pk_le (a * ln p) 0 (fun z => ?_) (fun z => ?_)
        · rw [if_neg (by omega)] at hF'
          exact ih (p + 1) (L + 1) (a * ln p) t _ (by omega) (by omega) (by omega) (by omega) hF'
        · rw [if_pos (by omega)] at hF'
          exact ih (p + 1) (L + 1) (a * ln p) (a * ln p) _ (by omega) (by omega) (by omega) (by omega) hF'
    · rw [if_neg (by rw [hb]; decide)] at hF
      rw [nI_1]
      exact ih (p + 1) L a t _ (by omega) (by omega) (by omega) (by omega) hF
end REN2
