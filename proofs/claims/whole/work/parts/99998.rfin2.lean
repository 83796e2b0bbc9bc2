/-! THE REFERENCE FINISHES A JOB, whole -/
section RFJ
variable {X : List Int32} {d : Nat} {σ : mS} {Q : Option Value → mS → Prop}
theorem rsK.z {job s : Nat} {σ σ' : mS} (K : rsK job σ σ') : zK job s σ σ' := K.mono (fun _ h => h.elim) (fun _ _ h => h.elim) (fun _ h => h) (fun x h => Or.inl h)
theorem zK.g {job s : Nat} {σ σ' : mS} (K : zK job s σ σ') : gK σ σ' := K.mono (fun k h => Or.inr (by omega)) (fun b j h => by omega) (fun p h => by unfold wA at h; omega) (fun x h => by omega)
theorem t198_end {E : mEv} {R : mRn} {k s n : Nat} {i1 : Int32} {o4 : Option Value} {σ0 : mS} (hF : eF E) (hR : rOk E R) (hf : fOk R) (hS : sR σ0 E R) (hk : (nAc R)[k]? = some (s, n)) (K0 : mKp (fun x => x = 27) (fun b _ => b = 111) mN1 mN1 σ0 σ) (h27 : σ.1 27 = nI ((nAc R).length - 1)) (h111 : ∀ i, i < (nAc R).length - 1 → σ.2.1 111 i = σ0.2.1 111 (if i < k then i else i + 1))
    (H : ∀ σ', gK σ0 σ' → sR σ' E (aFin E R k) → Q (some (.int 1)) σ') : mM X (d + 14) 198 33 [some (.ref 86), some (.int i1), some (.int (nI (16 * s + n))), some (.int (nI ((nAc R).length - 1))), o4] [] σ Q := by
  obtain ⟨hkl, hke⟩ := List.getElem?_eq_some_iff.mp hk
  have hmem : (s, n) ∈ nAc R := List.mem_of_getElem? hk
  obtain ⟨m1, m2, m3, ⟨ws, m4, m5⟩, m6, m7⟩ := hR.2.2.2.1 s n hmem
  obtain ⟨f1, f2, f3, f4, f5⟩ := id hF
  have hkn := hR.1
  have hs : s < (eSp E).length := by omega
  have hs6 : s < 6 := by omega
  have ht := f4 s hs
  have ht4 : sTl (eSt E s) < 4 := by omega
  have hso := f1.2.1 s hs
  have hto := (f1.1 _ ht).1
  have hnp4 : (eTo E s).2.length ≤ 4 := f5 (sTl (eSt E s))
  obtain ⟨hE0, h440, ⟨⟨c1, c2, c3, c4, c5, c6⟩, hO⟩, hQ, hP⟩ := id hS
  have hgo := hR.2.1 s
  have eF : aFin E R k = aAd E (rPg (aDe R k) s (aFg E R s n)) := by unfold aFin; rw [hk]
  have hRf := rOk_fin hR hk
  obtain ⟨_, _, hcm, _⟩ := aFg_ok hR hk
  have hU := (hQ k hkl).2
  rw [hke] at hU
  have hU0 : wdU σ0 (16 * s + n) ws := hU ws m4
  -- the frame up to the result
  refine u198_33 ?_
  rw [h27]
  refine ⟨fun _ => ⟨m_ix (by omega) (by decide), ?_⟩, fun g => absurd (Int32.le_refl _) g⟩
  rintro σ2 rfl
  rw [uI_e (by omega), show nI (16 * s + n) / 16 = nI s by
    rw [show (16 : Int32) = nI 16 from rfl, pk_div (by omega) (by omega) (by omega)]; congr 1; omega]
  have K2 : zK (16 * s + n) s σ0 (uI σ 108 (16 * s + n) 3) := (K0.mono (fun k h => Or.inl h) (fun b j h => Or.inl h) (fun _ h => h.elim) (fun _ h => h.elim)).tr (uI_kp (by decide) (by omega))
  have K2u : mKp (fun x => x = 27) (fun b j => b = 111 ∨ b = 108 ∧ j = 16 * s + n) mN1 mN1 σ0 (uI σ 108 (16 * s + n) 3) := (K0.mono (fun _ h => h) (fun b j h => Or.inl h) (fun _ h => h) (fun _ h => h)).tr (uI_kp (by decide) (Or.inr ⟨rfl, rfl⟩))
  have v8 : (uI σ 108 (16 * s + n) 3).2.1 108 (16 * s + n) = 3 := by rw [uI_at, if_pos ⟨rfl, rfl⟩]
  have v8' : ∀ i, i ≠ n → (uI σ 108 (16 * s + n) 3).2.1 108 (16 * s + i) = σ0.2.1 108 (16 * s + i) := fun i hi => by rw [uI_at, if_neg (by omega), K0.2.1 108 _ (by decide) (by omega)]
  have v11 : ∀ i, i < (nAc R).length - 1 → (uI σ 108 (16 * s + n) 3).2.1 111 i = σ0.2.1 111 (if i < k then i else i + 1) := fun i hi => by rw [uI_at, if_neg (by omega)]; exact h111 i hi
  have v27 : (uI σ 108 (16 * s + n) 3).1 27 = nI ((nAc R).length - 1) := h27
  have v28 : (uI σ 108 (16 * s + n) 3).1 28 = iB (nFl R) := (K0.1 28 (by omega)).trans c6
  have v106 : (uI σ 108 (16 * s + n) 3).2.1 106 s = nI (gPh (nPg R s)) := by rw [uI_at, if_neg (by omega), K0.2.1 106 _ (by decide) (by omega)]; exact (hO s hs6).1
  generalize uI σ 108 (16 * s + n) 3 = σ2 at *
  have hU2 : wdU σ2 (16 * s + n) ws := hU0.keep K2u (fun b j hb hB => by unfold wdB at hb; omega) (fun _ _ h => h)
  have hE2 : sE σ2 E := hE0.kp K2u (by omega) (fun b j h1 h2 hB => by omega) (fun _ _ h => h) (fun _ _ h => h)
  obtain ⟨_, _, e3, e4, _⟩ := id hE2
  obtain ⟨a1, _⟩ := e4 s hs6
  obtain ⟨b1, _⟩ := e3 _ ht4
  have fin : ∀ σ4, zK (16 * s + n) s σ0 σ4 → σ4.1 27 = nI ((nAc R).length - 1) → (∀ i, i < (nAc R).length - 1 → σ4.2.1 111 i = σ0.2.1 111 (if i < k then i else i + 1)) → σ4.1 28 = iB (nFl R || gPh (aFg E R s n) == 3) → sO σ4 s (aFg E R s n) → sP σ4 E s (aFg E R s n) → mM X (d + 13) 166 0 (mm_L0 166 [.ref 86]) [] σ4 (m0_K (fun σ' => Q (some (.int 1)) σ')) := by
    intro σ4 K4 g27 g111 g28 go gp
    refine t166 (X := X) (d := d) hF hRf (hS.fin hF hR hk K4 g27 g111 g28 hcm go gp) (fun σ5 K5 S5 => ⟨rfl, H σ5 (K4.g.tr K5) ?_⟩)
    rw [eF]; exact S5
  have hk4 : (eTo E s).1 < 4 := by have := hto.1; show (eTi E (sTl (eSt E s))).1 < 4; unfold eTi; omega
  refine t199 (X := X) (d := d + 8) (k := (eTo E s).1) hs6 (by omega) a1 ht4 b1 hk4 m5 hU2.2 (fun t hr σ3 K3 S3 => ⟨_, rfl, fun _ => ⟨m_ix hs6 (by decide), ?_⟩, fun g => absurd g (by decide)⟩) (fun hr σ3 K3 => ⟨_, rfl, fun g => absurd rfl g, fun _ => ?_⟩)
  · have hr' : aRes (eTo E s).1 ((gCm (nPg R s) n).getD []) = some t := by rw [m4]; exact hr
    have eA : aFg E R s n = if gPh (nPg R s) = 1 then gSe (gKp (nPg R s) n t) else nPg R s := by unfold aFg; rw [hr']
    have w106 : σ3.2.1 106 s = nI (gPh (nPg R s)) := (K3.2.1 106 _ (by decide) id).trans v106
    have w27 : σ3.1 27 = nI ((nAc R).length - 1) := (K3.1 27 id).trans v27
    have w28 : σ3.1 28 = iB (nFl R) := (K3.1 28 id).trans v28
    have w11 : ∀ i, i < (nAc R).length - 1 → σ3.2.1 111 i = σ0.2.1 111 (if i < k then i else i + 1) := fun i hi => (K3.2.1 111 _ (by decide) id).trans (v11 i hi)
    have w8 : σ3.2.1 108 (16 * s + n) = 3 := (K3.2.1 108 _ (by decide) id).trans v8
    have w8' : ∀ i, i ≠ n → σ3.2.1 108 (16 * s + i) = σ0.2.1 108 (16 * s + i) := fun i hi => (K3.2.1 108 _ (by decide) id).trans (v8' i hi)
    have KK : zK (16 * s + n) s σ0 σ3 := K2.tr K3.z
    have hph : gPh (nPg R s) < 4 := by omega
    rw [mGet_e (by omega), w106]
    refine pk_ne (gPh (nPg R s)) 1 (fun e1 => ?_) (fun e1 => ?_)
    · rw [if_pos e1] at eA
      obtain ⟨g1, g2, g3, g4, g5, g6⟩ := hgo.2.1 e1
      obtain ⟨p1, ⟨ln, p2, p3⟩, p4⟩ := (hP s hs6).1 e1
      have hrs : ∀ i, gRs (gKp (nPg R s) n t) i = if i = n then some t else gRs (nPg R s) i := fun i => rfl
      have hgd : mt_gd t := aRes_gd m5 hr
      have SP1 : sP1 σ3 E s (gKp (nPg R s) n t) := by
        refine ⟨?_, ⟨ln, p2, fun p hp hb => ⟨(p3 p hp hb).1, ?_⟩⟩, fun i hi => ?_⟩
        · rw [K3.2.1 107 _ (by decide) id, K2u.2.1 107 _ (by decide) (by omega)]; exact p1
        · rw [K3.2.1 112 _ (by decide) id, K2u.2.1 112 _ (by decide) (by omega)]; exact (p3 p hp hb).2
        · obtain ⟨z1, z2, z3, z4⟩ := p4 i hi
          refine ⟨z1, ?_⟩
          by_cases ei : i = n
          · subst ei
            have er : gRs (gKp (nPg R s) i t) i = some t := by rw [hrs, if_pos rfl]
            refine ⟨by rw [jS_some er]; exact w8, fun t' ht' => ?_, fun hn => ?_⟩
            · have := Option.some.inj (er.symm.trans ht')
              subst this; exact S3
            · rw [er] at hn; exact nomatch hn
          · have er : gRs (gKp (nPg R s) n t) i = gRs (nPg R s) i := by rw [hrs, if_neg ei]
            refine ⟨?_, fun t' ht' => ?_, fun hn ws' hw' => ?_⟩
            · rw [w8' i ei, z2]
              congr 1
              unfold jS
              rw [er]; rfl
            · rw [er] at ht'
              refine ((z3 t' ht').keep K2u id (fun _ _ h => h)).keep K3 (by omega) (fun p hp hP => ?_)
              unfold wA at hp hP; omega
            · rw [er] at hn
              refine ((z4 hn ws' hw').keep K2u (fun b j hb hB => by unfold wdB at hb; omega) (fun _ _ h => h)).keep K3 (fun _ _ _ h => h) (fun p hp hP => ?_)
              unfold wA at hp hP; omega
      have h1 : ∀ i, gN (nPg R s) ≤ i → i < 16 → σ3.2.1 108 (16 * s + i) ≠ 1 := fun i hi h16 => by
        rw [w8' i (by omega)]; exact (hP s hs6).2 i h16 (fun _ => hi)
      have hgs : ∀ i, mt_gd ((gRs (gKp (nPg R s) n t) i).getD (.leaf none)) := fun i => by
        rw [hrs]
        split
        · exact hgd
        · exact gRs_gd g5 i
      have hE3 : sE σ3 E := hE2.kp K3 ⟨id, id⟩ (fun _ _ _ _ h => h) (fun p hp h => by unfold wA at h; omega) (fun x hx h => by omega)
      refine t193 (d := d + 12) hs6 g1 SP1.1 (fun hall => ⟨_, rfl, fun g => absurd g (by decide), fun _ => ?_⟩) (fun hall => ⟨_, rfl, fun _ => ?_, fun g => absurd rfl g⟩)
      · have hsome : ∀ i, i < gN (nPg R s) → ∃ t', gRs (gKp (nPg R s) n t) i = some t' := fun i hi => by
          cases er : gRs (gKp (nPg R s) n t) i with
          | some t' => exact ⟨t', rfl⟩
          | none =>
            obtain ⟨_, z2, _⟩ := SP1.2.2 i hi
            rw [hall i hi, jS_none er] at z2
            split at z2 <;> exact absurd z2 (by decide)
        have hA : gAll (gKp (nPg R s) n t) = true := by
          unfold gAll
          rw [List.all_eq_true]
          intro i hi
          obtain ⟨t', er⟩ := hsome i (List.mem_range.mp hi)
          rw [er]; rfl
        have ese : gSe (gKp (nPg R s) n t) = if okB (gTr (gKp (nPg R s) n t)) = true then (2, gLv (gKp (nPg R s) n t), gN (gKp (nPg R s) n t), gCm (gKp (nPg R s) n t), gRs (gKp (nPg R s) n t), gTk (gKp (nPg R s) n t), gTr (gKp (nPg R s) n t)) else (3, (gKp (nPg R s) n t).2) := if_pos ⟨e1, hA⟩
        have etr : gTr (gKp (nPg R s) n t) = aNs (fun i => (gRs (gKp (nPg R s) n t) i).getD (.leaf none)) (lvO (aOv (eSt E s) (eTo E s)) (sMe (eSt E s)) (gN (nPg R s)) ln) 0 := by
          unfold gTr
          rw [show gLv (gKp (nPg R s) n t) = gLv (nPg R s) from rfl, p2]
        have hcap : ∀ i, i < 16 → mcp (27 + (16 * s + i)) = 9 := fun i hi => by unfold mcp; rw [if_neg (by omega), if_pos (by omega)]
        refine t194 (X := X) (d := d + 7) (A := aW s) (E := E) (N := gN (nPg R s)) (ln := ln) (rs := fun i => (gRs (gKp (nPg R s) n t) i).getD (.leaf none)) hE3 hs6 hso ht4 hnp4 (fun p hp hb => (p3 p hp hb).1) (fun p hp hb => ?_) SP1.1 g1 (fun i => mt_gd_dp (hgs i)) (fun i => ?_) (by rw [← p2]; exact g2) (fun i hi => ?_) (fun hok σ4 K4 h2 S4 => ⟨rfl, ?_⟩) (fun hok σ4 K4 h2 h3 h4 => ⟨rfl, ?_⟩)
        · rw [K3.2.1 112 _ (by decide) id, K2u.2.1 112 _ (by decide) (by omega)]; exact (p3 p hp hb).2
        · cases er : gRs (gKp (nPg R s) n t) i with
          | none => decide
          | some t' =>
            have hi : i < gN (nPg R s) := by
              rw [hrs] at er
              split at er
              · omega
              · exact (g5 i t' er).1
            have S := (SP1.2.2 i hi).2.2.1 t' er
            have := S.2.1
            rw [hcap i (by omega)] at this
            exact this
        · obtain ⟨t', er⟩ := hsome i hi
          show mSlot σ3 (aW s) _ (mt_tk ((gRs (gKp (nPg R s) n t) i).getD (.leaf none)) 0)
          rw [er]
          exact ((SP1.2.2 i hi).2.2.1 t' er).weak (fun p hp => wA_aW (by omega) hp)
        · have hokB : okB (gTr (gKp (nPg R s) n t)) = true := by rw [etr]; exact okB_iff.mpr hok
          have K4' : zK (16 * s + n) s σ3 σ4 := K4.mono (fun _ h => h.elim) (fun b j h => by unfold eB at h; omega) (fun _ h => h.elim) (fun x h => Or.inr h)
          rw [ese, if_pos hokB] at eA
          refine fin σ4 (KK.tr K4') ((K4.1 27 id).trans w27) (fun i hi => (K4.2.1 111 _ (by decide) (by unfold eB; omega)).trans (w11 i hi)) ?_ ?_ ?_
          · rw [eA, K4.1 28 id, w28]
            show iB (nFl R) = iB (nFl R || 2 == 3)
            rw [show ((2 : Nat) == 3) = false from rfl, Bool.or_false]
          · rw [eA]
            refine ⟨h2, fun _ => ?_⟩
            show mSlot σ4 (aW s) (123 + s) (mt_tk (gTr (gKp (nPg R s) n t)) 0)
            rw [etr]; exact S4
          · rw [eA]
            refine ⟨fun z => absurd z (by show ¬ 2 = 1; decide), fun i hi _ => ?_⟩
            rw [K4.2.1 108 _ (by decide) (by unfold eB; omega)]
            by_cases hin : i < gN (nPg R s)
            · rw [hall i hin]; decide
            · exact h1 i (by omega) hi
        · have hokB : ¬ okB (gTr (gKp (nPg R s) n t)) = true := by rw [etr]; exact fun z => hok (okB_iff.mp z)
          have K4' : zK (16 * s + n) s σ3 σ4 := K4.mono (fun k h => Or.inr h) (fun b j h => by unfold fB at h; omega) (fun _ h => h.elim) (fun x h => Or.inr h)
          rw [ese, if_neg hokB] at eA
          refine fin σ4 (KK.tr K4') ((K4.1 27 (by omega)).trans w27) (fun i hi => (K4.2.1 111 _ (by decide) (by unfold fB; omega)).trans (w11 i hi)) ?_ ?_ ?_
          · rw [eA, h2]
            show (1 : Int32) = iB (nFl R || 3 == 3)
            rw [show ((3 : Nat) == 3) = true from rfl, Bool.or_true]; rfl
          · rw [eA]
            exact ⟨h3, fun z => absurd z (by show ¬ 3 = 2; decide)⟩
          · rw [eA]
            refine sP_3 rfl (fun i hi => ?_)
            rw [h4 i hi]
            split
            · decide
            · assumption
      · have hA : ¬ gAll (gKp (nPg R s) n t) = true := by
          intro hA
          apply hall
          intro i hi
          unfold gAll at hA
          rw [List.all_eq_true] at hA
          have := hA i (List.mem_range.mpr hi)
          cases er : gRs (gKp (nPg R s) n t) i with
          | none => rw [er] at this; exact absurd this (by decide)
          | some t' => rw [(SP1.2.2 i hi).2.1, jS_some er]; rfl
        have ese : gSe (gKp (nPg R s) n t) = gKp (nPg R s) n t := if_neg (fun z => hA z.2)
        rw [ese] at eA
        refine fin σ3 KK w27 w11 ?_ ?_ ?_
        · rw [eA, w28]
          show iB (nFl R) = iB (nFl R || gPh (nPg R s) == 3)
          rw [e1, show ((1 : Nat) == 3) = false from rfl, Bool.or_false]
        · rw [eA]
          exact ⟨w106, fun z => absurd (show gPh (nPg R s) = 2 from z) (by omega)⟩
        · rw [eA]
          exact ⟨fun _ => SP1, fun i hi hg => h1 i (hg e1) hi⟩
    · have e3 : gPh (nPg R s) = 3 := by omega
      rw [if_neg e1] at eA
      refine fin σ3 KK w27 w11 ?_ ?_ ?_
      · rw [eA, w28, hf s e3, Bool.true_or]
      · rw [eA]
        exact ⟨w106, fun z => absurd z (by omega)⟩
      · rw [eA]
        refine sP_3 e3 (fun i hi => ?_)
        by_cases ei : i = n
        · subst ei; rw [w8]; decide
        · rw [w8' i ei]; exact (hP s hs6).2 i hi (fun z => absurd z e1)
  · have hr' : aRes (eTo E s).1 ((gCm (nPg R s) n).getD []) = none := by rw [m4]; exact hr
    have eA : aFg E R s n = (3, (nPg R s).2) := by unfold aFg; rw [hr']
    refine t173 (d := d + 12) hs6 (fun σ4 F4 => ⟨rfl, ?_⟩)
    obtain ⟨q1, q2, q3, q4⟩ := F4
    have K4' : zK (16 * s + n) s σ3 σ4 := q1.mono (fun k h => Or.inr h) (fun b j h => by unfold fB at h; omega) (fun _ h => h.elim) (fun _ h => h.elim)
    refine fin σ4 ((K2.tr K3.z).tr K4') ?_ (fun i hi => ?_) ?_ ?_ ?_
    · rw [q1.1 27 (by omega), K3.1 27 id]; exact v27
    · rw [q1.2.1 111 _ (by decide) (by unfold fB; omega), K3.2.1 111 _ (by decide) id]; exact v11 i hi
    · rw [eA, q2]
      show (1 : Int32) = iB (nFl R || 3 == 3)
      rw [show ((3 : Nat) == 3) = true from rfl, Bool.or_true]; rfl
    · rw [eA]
      exact ⟨q3, fun z => absurd z (by show ¬ 3 = 2; decide)⟩
    · rw [eA]
      refine sP_3 rfl (fun i hi => ?_)
      rw [q4 i hi]
      split
      · decide
      · assumption
theorem t198 {E : mEv} {R : mRn} {k : Int32} (hF : eF E) (hR : rOk E R) (hf : fOk R) (hS : sR σ E R)
    (H1 : ∀ n : Nat, k = nI n → n < (nAc R).length → ∀ σ', gK σ σ' → sR σ' E (aFin E R n) → Q (some (.int 1)) σ')
    (H0 : (∀ n : Nat, n < (nAc R).length → k ≠ nI n) → Q (some (.int 0)) σ) : mM X (d + 14) 198 0 (mm_L0 198 [.ref 86, .int k]) [] σ Q := by
  obtain ⟨hE0, h440, ⟨⟨c1, c2, c3, c4, c5, c6⟩, hO⟩, hQ, hP⟩ := id hS
  have hL : (nAc R).length ≤ 3 := by have := hR.2.2.2.2.2.1; have := hR.2.2.2.2.2.2.1; omega
  refine u198_0 ⟨fun g => H0 (fun n hn e => ?_), fun g => ?_⟩
  · rw [e] at g; exact nI_pos (by omega) g
  rw [c5]
  refine ⟨fun g2 => ?_, fun g2 => H0 (fun n hn e => g2 (by rw [e]; exact nI_lt hn (by omega)))⟩
  obtain ⟨n, hn, rfl⟩ := nI_of g
  have hnl : n < (nAc R).length := (nI_ltI hn (by omega)).mp g2
  refine ⟨m_ix (by omega) (by decide), ?_⟩
  rintro σ2 rfl
  rw [mGet_e (by omega), (hQ n hnl).1, show (1 : Int32) = nI 1 from rfl, pk_sub (by omega)]
  have K2 : mKp (fun x => x = 27) mN2 mN1 mN1 σ (mSet σ 27 (nI ((nAc R).length - 1))) := mSet_kp rfl
  refine t198_33 (X := X) (d := d + 13) (L := (nAc R).length) (k := n) (σ0 := mSet σ 27 (nI ((nAc R).length - 1))) hL hnl (by rw [mSet_g, if_pos rfl]) (fun σ3 K3 h3 o4 => ?_) ((nAc R).length - 1 - n) n _ none (by omega) (Nat.le_refl _) mKp.rf (fun i hi => by rw [if_neg (by omega)])
  exact t198_end (X := X) (d := d) (k := n) hF hR hf hS (by rw [List.getElem?_eq_getElem hnl]) ((K2.mono (fun _ h => h) (fun _ _ h => h.elim) (fun _ h => h) (fun _ h => h)).tr (K3.mono (fun _ h => h.elim) (fun _ _ h => h) (fun _ h => h) (fun _ h => h))) (by rw [K3.1 27 id, mSet_g, if_pos rfl]) (fun i hi => h3 i hi) (fun σ4 K4 S4 => H1 n rfl hnl σ4 K4 S4)
theorem t198_0 {k : Int32} (h27 : σ.1 27 = 0) (H : Q (some (.int 0)) σ) : mM X (d + 1) 198 0 (mm_L0 198 [.ref 86, .int k]) [] σ Q := by
  refine u198_0 ⟨fun _ => H, fun g => ?_⟩
  rw [h27]
  exact ⟨fun g2 => absurd g2 g, fun _ => H⟩
end RFJ
