/-! THE REFERENCE GOES ON, whole -/
section RGP
variable {X : List Int32} {d : Nat} {σ : mS} {Q : Option Value → mS → Prop}
theorem mSet_kp {σ : mS} {k : Nat} {v : Int32} {F : Nat → Prop} {B : Nat → Nat → Prop} {P W : Nat → Prop} (h : F k) : mKp F B P W σ (mSet σ k v) :=
  ⟨fun j hj => by rw [mSet_g]; exact if_neg (fun e : j = k => hj (by rw [e]; exact h)), fun _ _ _ _ => rfl, fun _ _ => rfl, fun _ _ _ => ⟨rfl, fun _ _ => rfl⟩⟩
theorem sR.st {E : mEv} {R : mRn} {v : Nat} (h : sR σ E R) : sR (mSet σ 23 (nI v)) E (v, R.2) := by
  have K : mKp (fun k => k = 23) mN2 mN1 mN1 σ (mSet σ 23 (nI v)) := mSet_kp rfl
  obtain ⟨h1, h2, ⟨⟨c1, c2, c3, c4, c5, c6⟩, h4⟩, h5, h6⟩ := h
  exact ⟨h1.kp K (by omega) (fun _ _ _ _ h => h) (fun _ _ h => h) (fun _ _ h => h), (K.1 44 (by decide)).trans h2, ⟨⟨by rw [mSet_g, if_pos rfl]; rfl, (K.1 24 (by decide)).trans c2, (K.1 25 (by decide)).trans c3, (K.1 26 (by decide)).trans c4, (K.1 27 (by decide)).trans c5, (K.1 28 (by decide)).trans c6⟩, fun k hk => (h4 k hk : sO σ k (nPg R k))⟩, h5, h6⟩
theorem t166_123 {E : mEv} {R : mRn} {i1 i2 : Int32} (hR : rOk E R) (hS : sR σ E R) (H : ∀ σ', gK σ σ' → sR σ' E (aEnd R) → Q none σ') : mM X (d + 1) 166 123 [some (.ref 86), some (.int i1), some (.int i2)] [] σ Q := by
  obtain ⟨_, _, ⟨⟨_, _, _, _, c5, c6⟩, _⟩, _⟩ := id hS
  have h3 : (nAc R).length ≤ 3 := by have := hR.2.2.2.2.2.1; have := hR.2.2.2.2.2.2.1; omega
  refine u166_123 ?_
  rw [c5, c6]
  refine pk_ne (nAc R).length 0 (fun e => ?_) (fun e => H σ mKp.rf ?_)
  · have en : nAc R = [] := List.eq_nil_of_length_eq_zero e
    refine ⟨fun g => ?_, fun g => ?_⟩
    · rintro σ1 rfl
      have ef := iB_0.mp g
      have ee : aEnd R = (2, R.2) := by unfold aEnd; rw [if_pos en, ef]; rfl
      rw [ee] at H
      exact H _ (mSet_kp (Or.inr (by omega))) (hS.st (v := 2))
    · rintro σ1 rfl
      have ef : nFl R = true := by
        cases e : nFl R
        · rw [e] at g; exact absurd rfl g
        · rfl
      have ee : aEnd R = (3, R.2) := by unfold aEnd; rw [if_pos en, ef]; rfl
      rw [ee] at H
      exact H _ (mSet_kp (Or.inr (by omega))) (hS.st (v := 3))
  · have en : ¬ nAc R = [] := fun z => e (by rw [z]; rfl)
    unfold aEnd; rw [if_neg en]; exact hS
theorem t166_46 {E : mEv} (hF : eF E) {i1 : Int32} : ∀ (m j : Nat) (R : mRn) (σ : mS), j + m = 96 → nFl R = false → rOk E R → sR σ E R → (∀ σ' i2, gK σ σ' → sR σ' E (aStj m j R) → rOk E (aStj m j R) → mM X (d + 1) 166 123 [some (.ref 86), some (.int i1), some (.int i2)] [] σ' Q) →
    mM X (d + 1) 166 46 [some (.ref 86), some (.int i1), some (.int (nI j))] [] σ Q := by
  intro m
  induction m with
  | zero =>
    intro j R σ h hfl hR hS H
    have e : j = 96 := by omega
    subst e
    exact u166_46 ⟨fun _ => H σ _ mKp.rf hS hR, fun g => absurd (by decide) g⟩
  | succ m ih =>
    intro j R σ h hfl hR hS H
    have ej : j = 16 * (j / 16) + j % 16 := by omega
    obtain ⟨hE, _, ⟨⟨_, c2, _, c4, c5, c6⟩, _⟩, _⟩ := id hS
    have hw := hR.2.2.2.2.2.1
    have hw3 := hR.2.2.2.2.2.2.1
    have h6 := hF.2.2.1
    have hac : ∀ k n, (k, n) ∈ nAc R → k < 6 ∧ n < 16 := fun k n hm => by
      obtain ⟨z1, z2, _⟩ := hR.2.2.2.1 k n hm
      have := hR.1
      exact ⟨by omega, z2⟩
    have stay : aTake R (j / 16) (j % 16) = R → mM X (d + 1) 166 46 [some (.ref 86), some (.int i1), some (.int (nI j + 1))] [] σ Q := by
      intro et
      rw [nI_1]
      refine ih (j + 1) R σ (by omega) hfl hR hS (fun σ' i2 K S R' => ?_)
      have eS : aStj (m + 1) j R = aStj m (j + 1) R := by show aStj m (j + 1) (aTake R (j / 16) (j % 16)) = _; rw [et]
      rw [eS] at H
      exact H σ' i2 K S R'
    have hrd := hS.rd (s := j / 16) (n := j % 16) (by omega) (by omega)
    rw [← ej] at hrd
    refine u166_46 (pk_le 96 j (fun g => absurd g (by omega)) (fun _ => ?_))
    rw [c6, hfl, c2, c5]
    refine ⟨fun g => absurd rfl g, fun _ => ⟨m_ix (by omega) (by decide), ?_⟩⟩
    rw [mGet_e (by omega)]
    refine ⟨fun g => stay (aTake_no ?_), fun g => ?_⟩
    · rw [Bool.eq_false_iff]; exact fun z => g (hrd.mpr z)
    · have hr := hrd.mp g
      refine pk_le (nWk R) (nAc R).length (fun g2 => stay (aTake_full g2)) (fun g2 => ⟨m_ix (by omega) (by decide), ?_⟩)
      rintro σ3 rfl
      rw [uI_e (by omega)]
      have e27 : (uI σ 108 j 2).1 27 = nI (nAc R).length := c5
      rw [e27]
      refine ⟨m_ix (by omega) (by decide), ?_⟩
      rintro σ5 rfl
      rw [uI_e (by omega)]
      rintro σ6 rfl
      rintro σ7 rfl
      have e1 : (uI (uI σ 108 j 2) 111 (nAc R).length (nI j)).1 27 + 1 = nI ((nAc R).length + 1) := by
        show σ.1 27 + 1 = _
        rw [c5, nI_1]
      rw [e1]
      have e2 : (mSet (uI (uI σ 108 j 2) 111 (nAc R).length (nI j)) 27 (nI ((nAc R).length + 1))).1 26 + 1 = nI (nBg R + 1) := by
        rw [mSet_g, if_neg (by decide)]
        show σ.1 26 + 1 = _
        rw [c4, nI_1]
      rw [e2, nI_1]
      obtain ⟨S', K'⟩ := hS.take (s := j / 16) (n := j % 16) (by omega) (by omega) hr (by omega) hw3 hac rfl
      rw [← ej] at S' K'
      refine ih (j + 1) (aTake R (j / 16) (j % 16)) _ (by omega) ?_ (rOk_take hR hr (by omega)) S' (fun σ' i2 K S R' => H σ' i2 (K'.tr K) S R')
      unfold aTake
      split
      · exact hfl
      · exact hfl
theorem t166 {E : mEv} {R : mRn} (hF : eF E) (hR : rOk E R) (hS : sR σ E R) (H : ∀ σ', gK σ σ' → sR σ' E (aAd E R) → Q none σ') : mM X (d + 13) 166 0 (mm_L0 166 [.ref 86]) [] σ Q := by
  obtain ⟨hE, _, ⟨⟨_, _, c3, _, _, c6⟩, hO⟩, _⟩ := id hS
  have main := t166_16 (X := X) (d := d) (Q := Q) hF (nKn R) R σ none (wt_le R) hR hS (fun σ1 i1 K1 S1 R1 _ => by
    cases hfl : nFl (aGo E (nKn R) R) with
    | true =>
      have ea : aAd E R = aEnd (aGo E (nKn R) R) := by unfold aAd aStt; rw [if_pos hfl]
      rw [ea] at H
      obtain ⟨_, _, ⟨⟨_, _, _, _, _, c6'⟩, _⟩, _⟩ := id S1
      refine u166_46 ⟨fun g => absurd g (by decide), fun _ => ⟨fun _ => t166_123 (d := d + 12) R1 S1 (fun σ2 K2 S2 => H σ2 (K1.tr K2) S2), fun g => ?_⟩⟩
      rw [c6', hfl] at g; exact absurd g (by decide)
    | false =>
      have ea : aAd E R = aEnd (aStj 96 0 (aGo E (nKn R) R)) := by unfold aAd aStt; rw [if_neg (by rw [hfl]; decide)]
      rw [ea] at H
      exact t166_46 (X := X) (d := d + 12) hF 96 0 _ σ1 rfl hfl R1 S1 (fun σ2 i2 K2 S2 R2 => t166_123 (d := d + 12) R2 S2 (fun σ3 K3 S3 => H σ3 ((K1.tr K2).tr K3) S3)))
  refine u166_0 ?_
  rw [c6]
  refine ⟨fun g => ?_, fun g => ?_⟩
  · have efl := iB_0.mp g
    refine t167 (X := X) (d := d + 10) hE hF hR.1 c3 (fun k hk => (hO k hk).1) (fun k => (hR.2.1 k).1) ⟨_, rfl, ?_⟩
    rw [if_neg (by rw [efl]; decide)] at main
    exact main
  · have efl : nFl R = true := by
      cases e : nFl R
      · rw [e] at g; exact absurd rfl g
      · rfl
    rw [if_pos efl] at main
    exact main
end RGP
