/-! THE REFERENCE FINISHES A JOB -/
section RFI
variable {X : List Int32} {d : Nat} {σ : mS} {Q : Option Value → mS → Prop}
def fOk (R : mRn) : Prop := ∀ s, gPh (nPg R s) = 3 → nFl R = true
theorem fOk_beg {E : mEv} {w : Nat} : fOk (aBeg E w) := fun s h => absurd h (by show ¬ 0 = 3; decide)
theorem fOk_put {R : mRn} {s : Nat} {g : mPg} (h : fOk R) : fOk (rPg R s g) := fun k hk => by
  show (nFl R || gPh g == 3) = true
  have hk : gPh (up (nPg R) s g k) = 3 := hk
  by_cases e : k = s
  · subst e; rw [up_eq] at hk; rw [hk, Bool.or_eq_true]; exact Or.inr rfl
  · rw [up_ne e] at hk; rw [h k hk]; rfl
theorem fOk_take {R : mRn} {s n : Nat} (h : fOk R) : fOk (aTake R s n) := by
  unfold aTake
  split
  · intro k hk
    have hk : gPh (up (nPg R) s (gTak (nPg R s) n) k) = 3 := hk
    by_cases e : k = s
    · subst e; rw [up_eq] at hk; exact h k hk
    · rw [up_ne e] at hk; exact h k hk
  · exact h
theorem fOk_stj : ∀ (m j : Nat) (R : mRn), fOk R → fOk (aStj m j R)
  | 0, _, _, h => h
  | m + 1, j, _, h => fOk_stj m (j + 1) _ (fOk_take h)
theorem fOk_go {E : mEv} : ∀ (f : Nat) (R : mRn), fOk R → fOk (aGo E f R)
  | 0, _, h => h
  | f + 1, R, h => by
    show fOk (if nFl R = true then R else match aNx E R with | none => R | some s => aGo E f (rPg R s (aXg E R s)))
    split
    · exact h
    · split
      · exact h
      · exact fOk_go f _ (fOk_put h)
theorem fOk_ad {E : mEv} {R : mRn} (h : fOk R) : fOk (aAd E R) := by
  have h1 := fOk_go (E := E) (nKn R) R h
  have h2 : fOk (aStt (aGo E (nKn R) R)) := by
    unfold aStt
    split
    · exact h1
    · exact fOk_stj 96 0 _ h1
  unfold aAd aEnd
  split
  · exact h2
  · exact h2
theorem fOk_fin {E : mEv} {R : mRn} {k : Nat} (h : fOk R) : fOk (aFin E R k) := by
  unfold aFin
  split
  · exact h
  · exact fOk_ad (fOk_put h)
def zK (job s : Nat) (σ σ' : mS) : Prop := mKp (fun k => k = 27 ∨ k = 28) (fun b j => b = 111 ∨ b = 106 ∧ j = s ∨ b = 108 ∧ 16 * s ≤ j ∧ j < 16 * s + 16) (wA job) (fun x => x = 27 + job ∨ x = 123 + s) σ σ'
theorem sR.fin {σ' : mS} {E : mEv} {R : mRn} {k s n : Nat} {g : mPg} (h : sR σ E R) (hF : eF E) (hR : rOk E R) (hk : (nAc R)[k]? = some (s, n)) (K : zK (16 * s + n) s σ σ') (h27 : σ'.1 27 = nI ((nAc R).length - 1)) (h111 : ∀ i, i < (nAc R).length - 1 → σ'.2.1 111 i = σ.2.1 111 (if i < k then i else i + 1)) (h28 : σ'.1 28 = iB (nFl R || gPh g == 3)) (hcm : gCm g = gCm (nPg R s)) (ho : sO σ' s g) (hp : sP σ' E s g) : sR σ' E (rPg (aDe R k) s g) := by
  obtain ⟨hkl, hke⟩ := List.getElem?_eq_some_iff.mp hk
  have hmem : (s, n) ∈ nAc R := List.mem_of_getElem? hk
  obtain ⟨m1, m2, _⟩ := hR.2.2.2.1 s n hmem
  have h6 := hF.2.2.1
  have hkn := hR.1
  have hnd := hR.2.2.2.2.1
  obtain ⟨h1, h2, ⟨⟨c1, c2, c3, c4, c5, c6⟩, h4⟩, h5, h6'⟩ := h
  have kF : ∀ k, ¬ (k = 27 ∨ k = 28) → σ'.1 k = σ.1 k := fun k hk => K.1 k hk
  have hlen : ((nAc R).eraseIdx k).length = (nAc R).length - 1 := List.length_eraseIdx_of_lt hkl
  have cm : ∀ q, gCm (up (nPg R) s g q) = gCm (nPg R q) := fun q => by
    by_cases e : q = s
    · subst e; rw [up_eq]; exact hcm
    · rw [up_ne e]
  refine ⟨h1.kp K (by omega) (fun b j h1 h2 hB => by omega) (fun p hp h => by unfold wA at h; omega) (fun x hx h => by omega), (kF 44 (by omega)).trans h2, ⟨⟨(kF 23 (by omega)).trans c1, (kF 24 (by omega)).trans c2, (kF 25 (by omega)).trans c3, (kF 26 (by omega)).trans c4, ?_, h28⟩, fun q hq => ?_⟩, fun i hi => ?_, fun q hq => ?_⟩
  · show σ'.1 27 = nI ((nAc R).eraseIdx k).length
    rw [hlen]; exact h27
  · show sO σ' q (up (nPg R) s g q)
    by_cases e : q = s
    · subst e; rw [up_eq]; exact ho
    · rw [up_ne e]
      exact ⟨(K.2.1 106 _ (by decide) (by omega)).trans (h4 q hq).1, fun z => ((h4 q hq).2 z).keep K (by omega) (fun p hp hP => by unfold aW at hp; unfold wA at hP; omega)⟩
  · have hi' : i < ((nAc R).eraseIdx k).length := hi
    show σ'.2.1 111 i = nI (16 * (((nAc R).eraseIdx k)[i]).1 + (((nAc R).eraseIdx k)[i]).2) ∧ ∀ ws, gCm (up (nPg R) s g (((nAc R).eraseIdx k)[i]).1) (((nAc R).eraseIdx k)[i]).2 = some ws → wdU σ' (16 * (((nAc R).eraseIdx k)[i]).1 + (((nAc R).eraseIdx k)[i]).2) ws
    rw [cm]
    have e : ∃ j, ∃ hj : j < (nAc R).length, ((nAc R).eraseIdx k)[i] = (nAc R)[j] ∧ j ≠ k ∧ σ'.2.1 111 i = σ.2.1 111 j := by
      have h11 := h111 i (by omega)
      rw [List.getElem_eraseIdx]
      by_cases g : i < k
      · rw [if_pos g] at h11
        exact ⟨i, by omega, dif_pos g, by omega, h11⟩
      · rw [if_neg g] at h11
        exact ⟨i + 1, by omega, dif_neg g, by omega, h11⟩
    obtain ⟨j, hj, e1, e2, e3⟩ := e
    rw [e1, e3]
    obtain ⟨q1, q2⟩ := h5 j hj
    refine ⟨q1, fun ws hw => ?_⟩
    obtain ⟨z1, z2, _⟩ := hR.2.2.2.1 (nAc R)[j].1 (nAc R)[j].2 (List.getElem_mem hj)
    have hne : ¬ ((nAc R)[j].1 = s ∧ (nAc R)[j].2 = n) := by
      rintro ⟨x1, x2⟩
      have : (nAc R)[j] = (nAc R)[k] := by rw [hke]; exact Prod.ext x1 x2
      have hpw := List.pairwise_iff_getElem.mp hnd
      rcases Nat.lt_or_gt_of_ne e2 with z | z
      · exact hpw j k hj hkl z this
      · exact hpw k j hkl hj z this.symm
    refine (q2 ws hw).keep K (fun b j' hb hB => by unfold wdB at hb; omega) (fun p hp hP => ?_)
    unfold wA at hp hP
    omega
  · show sP σ' E q (up (nPg R) s g q)
    by_cases e : q = s
    · subst e; rw [up_eq]; exact hp
    · rw [up_ne e]
      obtain ⟨p1, p2⟩ := h6' q hq
      refine ⟨fun g1 => ?_, fun m hm hg => ?_⟩
      · obtain ⟨q1, ⟨ln, q2, q3⟩, q4⟩ := p1 g1
        refine ⟨(K.2.1 107 _ (by decide) (by omega)).trans q1, ⟨ln, q2, fun p hp hb => ⟨(q3 p hp hb).1, (K.2.1 112 _ (by decide) (by omega)).trans (q3 p hp hb).2⟩⟩, fun m hm => ?_⟩
        obtain ⟨z1, z2, z3, z4⟩ := q4 m hm
        exact ⟨z1, (K.2.1 108 _ (by decide) (by omega)).trans z2, fun t ht => (z3 t ht).keep K (by omega) (fun p hp hP => by unfold wA at hp hP; omega), fun hr' ws hw' => (z4 hr' ws hw').keep K (fun b j hb hB => by unfold wdB at hb; omega) (fun p hp hP => by unfold wA at hp hP; omega)⟩
      · rw [K.2.1 108 _ (by decide) (by omega)]
        exact p2 m hm hg
theorem t198_33 {L k : Nat} {i1 i2 : Int32} {σ0 : mS} (hL : L ≤ 3) (hk : k < L) (h27 : σ0.1 27 = nI (L - 1))
    (H : ∀ σ', mKp mN1 (fun b j => b = 111) mN1 mN1 σ0 σ' → (∀ i, i < L - 1 → σ'.2.1 111 i = σ0.2.1 111 (if i < k then i else i + 1)) → ∀ o4, mM X (d + 1) 198 33 [some (.ref 86), some (.int i1), some (.int i2), some (.int (nI (L - 1))), o4] [] σ' Q) : ∀ (m q : Nat) (σ : mS) (o4 : Option Value), q + m = L - 1 → k ≤ q → mKp mN1 (fun b j => b = 111) mN1 mN1 σ0 σ → (∀ i, i < 3 → σ.2.1 111 i = σ0.2.1 111 (if k ≤ i ∧ i < q then i + 1 else i)) →
    mM X (d + 1) 198 33 [some (.ref 86), some (.int i1), some (.int i2), some (.int (nI q)), o4] [] σ Q := by
  intro m
  induction m with
  | zero =>
    intro q σ o4 h hkq K hx
    have e : q = L - 1 := by omega
    subst e
    refine H σ K (fun i hi => ?_) o4
    rw [hx i (by omega)]
    congr 1
    by_cases g : i < k
    · rw [if_pos g, if_neg (by omega)]
    · rw [if_neg g, if_pos ⟨by omega, hi⟩]
  | succ m ih =>
    intro q σ o4 h hkq K hx
    refine u198_33 ?_
    rw [K.1 27 id, h27]
    refine pk_le (L - 1) q (fun g => absurd g (by omega)) (fun _ => ?_)
    rw [nI_1]
    refine ⟨m_ix (by omega) (by decide), m_ix (by omega) (by decide), ?_⟩
    rw [mGet_e (by omega)]
    rintro σ2 rfl
    rw [uI_e (by omega)]
    refine ih (q + 1) _ o4 (by omega) (by omega) (K.tr (uI_kp (by decide) rfl)) (fun i hi => ?_)
    rw [uI_at]
    by_cases e : i = q
    · subst e
      rw [if_pos ⟨rfl, rfl⟩, hx (i + 1) (by omega), if_neg (by omega), if_pos (by omega)]
    · rw [if_neg (by omega), hx i hi]
      congr 1
      by_cases g : k ≤ i ∧ i < q
      · rw [if_pos g, if_pos (by omega)]
      · rw [if_neg g, if_neg (by omega)]
end RFI
