/-! START AND FINISH ARE OWED -/
section OSF
variable {X : List Int32} {t d : Nat} {hp : mm_H} {Q : Option Value → mm_H → Prop}
theorem rOk_stj {E : mEv} : ∀ (m j : Nat) (R : mRn), rOk E R → rOk E (aStj m j R)
  | 0, _, _, h => h
  | m + 1, j, R, h => by
    show rOk E (aStj m (j + 1) (aTake R (j / 16) (j % 16)))
    refine rOk_stj m (j + 1) _ ?_
    cases hr : aRd R (j / 16) (j % 16) with
    | false => rw [aTake_no hr]; exact h
    | true =>
      by_cases hw : (nAc R).length < nWk R
      · exact rOk_take h hr hw
      · rw [aTake_full (by omega)]; exact h
theorem rOk_go {E : mEv} (hF : eF E) : ∀ (f : Nat) (R : mRn), rOk E R → rOk E (aGo E f R)
  | 0, _, h => h
  | f + 1, R, h => by
    show rOk E (if nFl R = true then R else match aNx E R with | none => R | some s => aGo E f (rPg R s (aXg E R s)))
    split
    · exact h
    · cases en : aNx E R with
      | none => exact h
      | some s =>
        obtain ⟨z1, _⟩ := aNx_ok en
        have hs : s < (eSp E).length := by have := h.1; omega
        exact rOk_go hF f _ (rOk_xp hF.1 h (hF.2.2.2.1 s hs) en (hF.2.2.2.2 (sTl (eSt E s))))
theorem rOk_ad {E : mEv} {R : mRn} (hF : eF E) (h : rOk E R) : rOk E (aAd E R) := by
  have h1 := rOk_go hF (nKn R) R h
  unfold aAd
  refine rOk_end ?_
  unfold aStt
  split
  · exact h1
  · exact rOk_stj 96 0 _ h1
def rG (R : mRn) : Prop := nSt R = 1 ∧ ∀ k, 6 ≤ k → nPg R k = g0
theorem rG.put {R : mRn} {s : Nat} {g : mPg} (h : rG R) (hs : s < 6) : rG (rPg R s g) := ⟨h.1, fun k hk => by
  show up (nPg R) s g k = g0
  rw [up_ne (by omega)]; exact h.2 k hk⟩
theorem rG.stj : ∀ (m j : Nat) (R : mRn), j + m ≤ 96 → rG R → rG (aStj m j R)
  | 0, _, _, _, h => h
  | m + 1, j, R, hj, h => by
    show rG (aStj m (j + 1) (aTake R (j / 16) (j % 16)))
    refine rG.stj m (j + 1) _ (by omega) ?_
    unfold aTake
    split
    · refine ⟨h.1, fun k hk => ?_⟩
      show up (nPg R) (j / 16) (gTak (nPg R (j / 16)) (j % 16)) k = g0
      rw [up_ne (by omega)]; exact h.2 k hk
    · exact h
theorem rG.go {E : mEv} : ∀ (f : Nat) (R : mRn), nKn R ≤ 6 → rG R → rG (aGo E f R)
  | 0, _, _, h => h
  | f + 1, R, hk, h => by
    show rG (if nFl R = true then R else match aNx E R with | none => R | some s => aGo E f (rPg R s (aXg E R s)))
    split
    · exact h
    · cases en : aNx E R with
      | none => exact h
      | some s =>
        obtain ⟨z1, _⟩ := aNx_ok en
        exact rG.go f _ hk (h.put (by omega))
theorem rG.ad {E : mEv} {R : mRn} (hk : nKn R ≤ 6) (h : rG R) : (nSt (aAd E R) ≠ 1 → nAc (aAd E R) = []) ∧ nSt (aAd E R) ≤ 3 ∧ nSt (aAd E R) ≠ 0 ∧ ∀ k, 6 ≤ k → nPg (aAd E R) k = g0 := by
  have h1 := rG.go (E := E) (nKn R) R hk h
  have h2 : rG (aStt (aGo E (nKn R) R)) := by
    unfold aStt
    split
    · exact h1
    · exact rG.stj 96 0 _ (by omega) h1
  unfold aAd aEnd
  split
  · rename_i he
    refine ⟨fun _ => he, ?_, ?_, h2.2⟩
    · show (if nFl _ = true then 3 else 2) ≤ 3
      split <;> omega
    · show (if nFl _ = true then 3 else 2) ≠ 0
      split <;> omega
  · exact ⟨fun z => absurd h2.1 z, by rw [h2.1]; decide, by rw [h2.1]; decide, h2.2⟩
theorem AI.ad {E : mEv} {tr sr : Nat → Nat} {R R1 : mRn} (h : AI E tr sr R) (hR : rOk E R1) (hf : fOk R1) (hg : rG R1) : AI E tr sr (aAd E R1) := by
  have h6 := h.1.2.2.1
  obtain ⟨g1, g2, g3, g4⟩ := hg.ad (E := E) (by have := hR.1; omega)
  have hR' := rOk_ad h.1 hR
  exact ⟨h.1, fun _ => ⟨hR', fOk_ad hf⟩, g1, g2, g4, hR'.2.1, hR'.1, hR'.2.2.2.2.2.2.2, h.2.2.2.2.2.2.2.2.1, h.2.2.2.2.2.2.2.2.2.1, fun z => absurd z g3⟩
theorem CI.run {hp hp' : mm_H} {D : List Nat} {x : Int32} {E : mEv} {tr sr : Nat → Nat} {R R' : mRn} {JL JL' : Nat → List Value} {σ : mS} (h : CI hp D x E tr sr R JL) (M : mR hp σ) (F : cE wRun hp hp') (A : cA hp' E tr sr R' JL') : CI hp' D x E tr sr R' JL' ∧ mR hp' σ := by
  obtain ⟨h1, ⟨d1, d2, junk, d3, d4⟩, h3⟩ := h
  exact ⟨⟨F.at h1 (by unfold wRun; omega), ⟨d1, F.at d2 (by unfold wRun; omega), junk, F.at d3 (by unfold wRun; omega), d4⟩, A⟩, F.mR M (fun y h1 h2 => by unfold wRun; omega)⟩
theorem GI.run {hp hp' : mm_H} {JL JL' : Nat → List Value} {t c w : Nat} (h : GI hp JL t) (ht : t < 512) (B : cB c w hp hp' JL JL') (hc : c ≤ 1100) (hw : w ≤ 14000) : GI hp' JL' (t + 1) := by
  obtain ⟨a, b⟩ := h
  obtain ⟨p, q⟩ := B
  exact ⟨by omega, by omega⟩
theorem SI.gk {σ σ' : mS} {D : List Nat} {E : mEv} {R R' : mRn} (h : SI σ D E R) (K : gK σ σ') (S : sR σ' E R') : SI σ' D E R' := by
  obtain ⟨⟨s1, s2, s3⟩, _⟩ := h
  exact ⟨⟨s1, (K.1 3 (by unfold xF; omega)).trans s2, fun i hi => (K.2.1 88 _ (by decide) (by omega)).trans (s3 i hi)⟩, S.1, S.2.1, S.2.2.1, fun _ => S⟩
theorem PC.gk {σ σ' : mS} {D : List Nat} {E : mEv} {t : Nat} (h : PC σ D E t) (K : gK σ σ') : PC σ' D E (t + 1) := h.up.kp K (by unfold xF; omega) (fun p hp h => by omega) (fun x hx h => by omega)
theorem ob_start {y1 : Int32} (I : IV X t hp) (ht : t < 512) : mL_ob X (IV X) t hp 53 163 [.int y1] := by
  obtain ⟨D, x, E, tr, sr, R, JL, σ, hC, M, hS, hA, hP, hG⟩ := I
  have hpg := hA.2.2.2.2.1
  have h3 := hA.2.2.2.1
  refine ob_of rfl (k53 (d := 988) hA.1.1 hC.1 hC.2.2 hpg h3 (fun hp' JL' F B A' _ => ?_))
  obtain ⟨hC', M'⟩ := hC.run M F A'
  have hG' := hG.run ht B (by omega) (by omega)
  have hcs : (∃ i, i ≠ 0 ∧ aStrt E R y1 = (i, R)) ∨ (aMiss E = false ∧ 1 ≤ y1.toNatClampNeg ∧ y1.toNatClampNeg ≤ 3 ∧ aStrt E R y1 = (0, aAd E (aBeg E y1.toNatClampNeg))) := by
    unfold aStrt
    by_cases h1 : nSt R = 1 ∨ y1 < 1 ∨ 3 < y1
    · rw [if_pos h1]; exact Or.inl ⟨-1, by decide, rfl⟩
    · rw [if_neg h1]
      by_cases h2 : aMiss E = true
      · rw [if_pos h2]; exact Or.inl ⟨1, by decide, rfl⟩
      · rw [if_neg h2]
        by_cases h3 : aRound E = true
        · rw [if_pos h3]; exact Or.inl ⟨2, by decide, rfl⟩
        · rw [if_neg h3]
          obtain ⟨n, n1, n2, n3, n4⟩ := w13 (w := y1) (fun z => h1 (Or.inr (Or.inl z))) (Int32.not_lt.mp (fun z => h1 (Or.inr (Or.inr z))))
          exact Or.inr ⟨by rw [Bool.eq_false_iff]; exact h2, by omega, by omega, rfl⟩
  have hA' : AI E tr sr (aStrt E R y1).2 := by
    rcases hcs with ⟨i, _, e⟩ | ⟨hm, w1, w3, e⟩
    · rw [e]; exact hA
    · rw [e]
      exact hA.ad (rOk_beg ⟨w1, w3⟩ hA.1.2.2.1 hA.1.1 hm) fOk_beg ⟨rfl, fun _ _ => rfl⟩
  refine ⟨_, rfl, D, x, E, tr, sr, _, JL', σ, hC', M', hA', hG', ?_⟩
  refine t163 (X := X) (d := 985) (R := R) hA.1 hS.2.1 hS.2.2.1 hS.2.2.2.1.1.1 h3 (fun i hi e => ?_) (fun hm w1 w3 e σ' K S => ?_)
  · rw [e]; exact ⟨rfl, hS, hP.up⟩
  · rw [e]; exact ⟨rfl, hS.gk K S, hP.gk K⟩
theorem ob_finish {y1 : Int32} (I : IV X t hp) (ht : t < 512) : mL_ob X (IV X) t hp 98 198 [.int y1] := by
  obtain ⟨D, x, E, tr, sr, R, JL, σ, hC, M, hS, hA, hP, hG⟩ := I
  have rn := hC.2.2.2.2.1
  obtain ⟨⟨s1, i1, r12, _⟩, _⟩ := id rn
  by_cases e1 : nSt R = 1
  · obtain ⟨hR, hf⟩ := hA.2.1 e1
    have hs := hS.2.2.2.2 e1
    have hL := hA.len
    refine ob_of rfl (k98 (d := 988) hA.1.1 hR hC.1 hC.2.2 (fun _ => by omega) (fun n en hn hp' JL' F B A' _ => ?_) (fun hno => ?_))
    · obtain ⟨hC', M'⟩ := hC.run M F A'
      have hG' := hG.run ht B (by omega) (by omega)
      have hA' : AI E tr sr (aFin E R n) := by
        unfold aFin
        rw [List.getElem?_eq_getElem hn]
        have hk : (nAc R)[n]? = some ((nAc R)[n].1, (nAc R)[n].2) := by rw [List.getElem?_eq_getElem hn]
        obtain ⟨z1, z2, _⟩ := hR.2.2.2.1 (nAc R)[n].1 (nAc R)[n].2 (List.getElem_mem hn)
        have hk6 : (nAc R)[n].1 < 6 := by have := hR.1; have := hA.1.2.2.1; omega
        exact hA.ad (rOk_fin hR hk) (fOk_put hf) (rG.put ⟨e1, hA.2.2.2.2.1⟩ hk6)
      refine ⟨_, rfl, D, x, E, tr, sr, _, JL', σ, hC', M', hA', hG', ?_⟩
      refine t198 (X := X) (d := 985) hA.1 hR hf hs (fun m em hm σ' K S => ?_) (fun hno => absurd en (hno n hn))
      have := (nI_eq (by omega) (by omega)).mp (en.symm.trans em)
      subst this
      exact ⟨rfl, hS.gk K S, hP.gk K⟩
    · refine ⟨0, rfl, D, x, E, tr, sr, R, JL, σ, hC, M, hA, hG.up, ?_⟩
      exact t198 (X := X) (d := 985) hA.1 hR hf hs (fun m em hm => absurd em (hno m hm)) (fun _ => ⟨rfl, hS, hP.up⟩)
  · have en := hA.2.2.1 e1
    have hno : ∀ n : Nat, n < (nAc R).length → y1 ≠ nI n := fun n hn => by rw [en] at hn; exact absurd hn (Nat.not_lt_zero _)
    refine ob_of rfl (w98_0 ⟨_, _, _, rfl, hC.1, rfl, ⟨_, _, rfl, r12⟩, w99_0 ⟨⟨_, _, rfl, r12⟩, k100 rn (fun m em hm => absurd em (hno m hm)) (fun _ => ⟨_, rfl, rfl, Or.inl ⟨rfl, _, rfl, fun g => absurd rfl g, fun _ => ?_⟩⟩)⟩⟩)
    refine ⟨0, rfl, D, x, E, tr, sr, R, JL, σ, hC, M, hA, hG.up, ?_⟩
    have h27 : σ.1 27 = 0 := by rw [hS.2.2.2.1.1.2.2.2.2.1, en]; rfl
    exact t198_0 (d := 998) h27 ⟨rfl, hS, hP.up⟩
end OSF
