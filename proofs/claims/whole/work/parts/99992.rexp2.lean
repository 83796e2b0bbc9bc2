/-! THE REFERENCE: a step is laid out, from the start -/
section RXQ
variable {X : List Int32} {d : Nat} {σ : mS} {Q : Option Value → mS → Prop}
theorem t168_76 {s N np : Nat} {wh : Nat → mT} {σ0 : mS} {i3 : Int32} (hs : s < 6) (hnp : np ≤ 4) (hk : ∀ p, np ≤ p → p < 4 → True)
    (H : ∀ σ', yK s σ0 σ' → σ'.2.1 106 s = 1 → σ'.2.1 107 s = nI N → (∀ p, p < np → σ'.2.1 112 (4 * s + p) = nI (aLen wh p)) → (∀ p, p < np → mSlot σ' (xA s) (129 + p) (mt_tk (wh p) 0)) → (∀ i, i < 16 → σ'.2.1 108 (16 * s + i) = σ0.2.1 108 (16 * s + i)) → (∀ k, σ'.1 k = σ0.1 k) → mM X (d + 4) 168 140 [some (.ref 86), some (.int (nI s)), some (.int (nI np)), some (.int i3), some (.int (nI N)), some (.int 0)] [] σ' Q) : ∀ (m p : Nat) (σ : mS), p + m = np → mKp mN1 (fun b j => b = 112 ∧ 4 * s ≤ j ∧ j < 4 * s + 4) mN1 mN1 σ0 σ → (∀ q, q < np → mSlot σ (xA s) (129 + q) (mt_tk (wh q) 0)) → (∀ q, q < p → σ.2.1 112 (4 * s + q) = nI (aLen wh q)) →
    mM X (d + 4) 168 76 [some (.ref 86), some (.int (nI s)), some (.int (nI np)), some (.int i3), some (.int (nI N)), some (.int (nI p))] [] σ Q := by
  intro m
  induction m with
  | zero =>
    intro p σ h K SP hl
    have e : p = np := by omega
    subst e
    refine u168_76 ⟨fun _ => ⟨m_ix hs (by decide), ?_⟩, fun g => absurd (Int32.le_refl _) g⟩
    rintro σ2 rfl
    rw [uI_e (by omega)]
    refine ⟨m_ix hs (by decide), ?_⟩
    rintro σ4 rfl
    rw [uI_e (by omega)]
    have K2 : mKp mN1 (fun b j => (b = 106 ∨ b = 107) ∧ j = s) mN1 mN1 σ (uI (uI σ 106 s 1) 107 s (nI N)) := (uI_kp (by decide) ⟨Or.inl rfl, rfl⟩).tr (uI_kp (by decide) ⟨Or.inr rfl, rfl⟩)
    refine H _ ((K.mono (fun _ h => h.elim) (fun b j h => by unfold yB; omega) (fun _ h => h.elim) (fun _ h => h.elim)).tr (K2.mono (fun _ h => h.elim) (fun b j h => by unfold yB; omega) (fun _ h => h.elim) (fun _ h => h.elim))) ?_ ?_ (fun q hq => (K2.2.1 112 _ (by decide) (by omega)).trans (hl q hq)) (fun q hq => (SP q hq).keep K2 id (fun _ _ h => h)) (fun i hi => ?_) (fun k => (K2.1 k id).trans (K.1 k id))
    · rw [uI_at, if_neg (by omega), uI_at, if_pos ⟨rfl, rfl⟩]
    · rw [uI_at, if_pos ⟨rfl, rfl⟩]
    · rw [K2.2.1 108 _ (by decide) (by omega), K.2.1 108 _ (by decide) (by omega)]
  | succ m ih =>
    intro p σ h K SP hl
    refine u168_76 (pk_le np p (fun g => absurd g (by omega)) (fun _ => ?_))
    rw [show (129 : Int32) = nI 129 from rfl, nI_add]
    have S := SP p (by omega)
    refine s123 S.1 ⟨_, rfl, s143 S.1 S.2.2.1 ⟨_, rfl, t146 (pre := []) (rest := []) (t := wh p) (l := 0) S (by simp) (mt_cl_nil 0) rfl rfl ⟨_, rfl, ?_⟩⟩⟩
    rw [show (4 : Int32) = nI 4 from rfl, pk_mul, nI_add]
    refine ⟨m_ix (by omega) (by decide), ?_⟩
    rintro σ2 rfl
    rw [uI_e (by omega), nI_1]
    have K2 : mKp mN1 (fun b j => b = 112 ∧ j = 4 * s + p) mN1 mN1 σ (uI σ 112 (4 * s + p) (nI (mt_els (wh p)).length)) := uI_kp (by decide) ⟨rfl, rfl⟩
    refine ih (p + 1) _ (by omega) (K.tr (K2.mono (fun _ h => h) (fun b j h => by omega) (fun _ h => h) (fun _ h => h))) (fun q hq => (SP q hq).keep K2 id (fun _ _ h => h)) (fun q hq => ?_)
    by_cases e : q = p
    · subst e; rw [uI_at, if_pos ⟨rfl, rfl⟩]; rfl
    · rw [uI_at, if_neg (by omega)]; exact hl q (by omega)
theorem t168 {E : mEv} {R : mRn} {s : Nat} (hF : eF E) (hR : rOk E R) (hS : sR σ E R) (hfl : nFl R = false) (hn : aNx E R = some s) (H : ∀ σ', yK s σ σ' → sR σ' E (rPg R s (aXg E R s)) → Q none σ') : mM X (d + 12) 168 0 (mm_L0 168 [.ref 86, .int (nI s)]) [] σ Q := by
  obtain ⟨f1, f2, f3, f4, f5⟩ := id hF
  obtain ⟨hk, hp0, _⟩ := aNx_ok hn
  have hs : s < (eSp E).length := by have := hR.1; omega
  have hs6 : s < 6 := by omega
  have ht := f4 s hs
  have ht4 : sTl (eSt E s) < 4 := by omega
  have hso := f1.2.1 s hs
  have hnp4 : (eTo E s).2.length ≤ 4 := f5 (sTl (eSt E s))
  have ho : aOv (eSt E s) (eTo E s) < 16 := aOv_lt hso.2.2.2.2.1 hnp4
  obtain ⟨hE, h44, ⟨hSc, hO⟩, hQ, hP⟩ := id hS
  have h28 : σ.1 28 = 0 := by rw [hSc.2.2.2.2.2, hfl]; rfl
  have hsv := sV_gd f1 hR hn
  have hgd := aWh_gd (to := eTo E s) hso (fun p hp c hc => (hsv p hp c hc).1)
  obtain ⟨_, _, e3, e4, e5⟩ := id hE
  obtain ⟨a1, a2, a3, _⟩ := e4 s hs6
  obtain ⟨_, b2, _⟩ := e3 _ ht4
  have h108 : ∀ i, i < 16 → σ.2.1 108 (16 * s + i) ≠ 1 := fun i hi => (hP s hs6).2 i hi (fun e => by omega)
  have hac : ∀ k n, (k, n) ∈ nAc R → k < 6 ∧ n < 16 ∧ k ≠ s := fun k n hm => by
    obtain ⟨z1, z2, z3, _⟩ := hR.2.2.2.1 k n hm
    have := hR.1
    exact ⟨by omega, z2, fun e => by subst e; omega⟩
  have H' : ∀ σ', yK s σ σ' → sO σ' s (aXg E R s) → sP σ' E s (aXg E R s) → σ'.1 28 = iB (gPh (aXg E R s) == 3) → Q none σ' := fun σ' K o p h => H σ' K (hS.put K hs6 hac o p (by rw [hfl, Bool.false_or]; exact h))
  have bad : aExp (eSt E s) (eTo E s) (sV E R) = none → gPh (aXg E R s) = 3 := fun h => by unfold aXg; rw [h]; rfl
  have failing : aExp (eSt E s) (eTo E s) (sV E R) = none → ∀ σ2, yK s σ σ2 → mM X (d + 11) 173 0 (mm_L0 173 [.ref 86, .int (nI s)]) [] σ2 (m0_K (fun σ5 => Q none σ5)) := fun h σ2 K2 => t173 hs6 (fun σ3 F3 => ⟨rfl, fail_end (E := E) (bad h) K2 F3.2.1 F3.2.2.1 F3.y F3.2.2.2 H'⟩)
  have gath : ∀ (m p : Nat) (σ2 : mS) (o4 o5 : Option Value), p + m = (eTo E s).2.length → mKp mN1 mN2 mN1 (fun x => 129 ≤ x) σ σ2 → (∀ q, q < p → aPort (sMg (eSt E s) q) (sPk (eSt E s) q) (sPr (eSt E s) q) ((sSr (eSt E s) q).map (sV E R)) ≠ none) → (∀ q, q < p → mSlot σ2 (xA s) (129 + q) (mt_tk (aWh (eSt E s) (eTo E s) (sV E R) q) 0)) →
      mM X (d + 12) 168 14 [some (.ref 86), some (.int (nI s)), some (.int (nI (eTo E s).2.length)), some (.int (nI p)), o4, o5] [] σ2 Q := by
    intro m
    induction m with
    | zero =>
      intro p σ2 o4 o5 h K hne SP
      have e : p = (eTo E s).2.length := by omega
      subst e
      have K' : yK s σ σ2 := K.mono (fun _ h => h.elim) (fun _ _ h => h.elim) (fun _ h => h.elim) (fun x h => Or.inl h)
      have hE2 := hE.yk K'
      have hpts : aPts (eSt E s) (eTo E s) (sV E R) = true := aPts_iff.mpr hne
      refine u168_14 ⟨fun _ => t174 (d := d + 10) hE2 hs6 hso.2.2.2.2.1 ht4 hnp4 ⟨_, rfl, ?_⟩, fun g => absurd (Int32.le_refl _) g⟩
      have go : ∀ N, aJobs (sMe (eSt E s)) (aOv (eSt E s) (eTo E s)) (aWh (eSt E s) (eTo E s) (sV E R)) = some N → mM X (d + 12) 168 76 [some (.ref 86), some (.int (nI s)), some (.int (nI (eTo E s).2.length)), some (.int (nI (aOv (eSt E s) (eTo E s)))), some (.int (nI N)), some (.int 0)] [] σ2 Q := by
        intro N hN
        refine t168_76 (X := X) (d := d + 8) (σ0 := σ2) (wh := aWh (eSt E s) (eTo E s) (sV E R)) hs6 hnp4 (fun _ _ _ => trivial) ?_ _ 0 σ2 (Nat.zero_add _) mKp.rf SP (fun q hq => absurd hq (Nat.not_lt_zero _))
        intro σ3 K3 g1 g2 g3 g4 g5 g6
        refine t168_140 (X := X) (d := d + 1) (E := E) (R := R) (σ0 := σ) hF hs hgd hpts hN H' N 0 σ3 (Nat.zero_add _) (K'.tr K3) (hE2.yk K3) ?_ ?_ g1 g2 (fun p hp hb => g3 p (aBit_ge hnp4 hp hb)) g4 (fun i hi => absurd hi (Nat.not_lt_zero _)) (fun i _ hi => ?_)
        · rw [g6, K.1 44 id]; exact h44
        · rw [g6, K.1 28 id]; exact h28
        · rw [g5 i hi, K.2.1 108 _ (by decide) id]; exact h108 i hi
      refine pk_ne (aOv (eSt E s) (eTo E s)) 0 (fun e0 => ⟨fun _ => ?_, fun g => absurd (by decide) g⟩) (fun e0 => ?_)
      · have hN : aJobs (sMe (eSt E s)) (aOv (eSt E s) (eTo E s)) (aWh (eSt E s) (eTo E s) (sV E R)) = some 1 := by unfold aJobs; rw [if_pos e0]
        exact go 1 hN
      · refine t175 (X := X) (d := d + 7) (A := xA s) hs6 ho e0 hso.2.2.2.2.2 ((K.2.1 98 _ (by decide) id).trans a3) (fun p hp hb => ⟨SP p (aBit_ge hnp4 hp hb), hgd p⟩) (fun N hN => ⟨_, rfl, ?_⟩) (fun hN => ⟨_, rfl, ?_⟩)
        · have h16 := (aJobs_pos hN).1
          exact ⟨fun _ => go N hN, fun g => absurd (nI_pos' (by omega)) g⟩
        · refine ⟨fun g => absurd g (by decide), fun _ => failing ?_ σ2 K'⟩
          unfold aExp
          rw [if_pos hpts, hN]; rfl
    | succ m ih =>
      intro p σ2 o4 o5 h K hne SP
      have hp : p < (eTo E s).2.length := by omega
      have K' : yK s σ σ2 := K.mono (fun _ h => h.elim) (fun _ _ h => h.elim) (fun _ h => h.elim) (fun x h => Or.inl h)
      refine u168_14 (pk_le (eTo E s).2.length p (fun g => absurd g (by omega)) (fun _ => ?_))
      refine t169 (X := X) (d := d + 4) (A := xA s) (E := E) (sv := sV E R) (hE.yk K') hso hs6 (by omega) (fun q hq => ⟨by unfold aP at hq; omega, by unfold aP at hq; unfold aW; omega⟩) (fun c hc => ⟨?_, (hsv p hp c hc).1⟩) (fun t ht σ3 K3 S3 => ⟨_, rfl, fun _ => ?_, fun g => absurd g (by decide)⟩) (fun ht σ3 K3 => ⟨_, rfl, fun g => absurd rfl g, fun _ => failing ?_ σ3 ?_⟩)
      · have hc3 := (hso.1 p).2 c hc
        unfold sl sV
        by_cases g3 : c < 3
        · rw [if_pos g3, if_pos g3]
          exact ((e5 c g3).keep K (by omega) (fun _ _ h => h)).weak (fun q hq => ⟨by unfold aP at hq; omega, by unfold aP at hq; unfold aW; omega⟩)
        · rw [if_neg g3, if_neg g3]
          obtain ⟨z1, z2⟩ := (hsv p hp c hc).2 (by omega)
          have := hR.1
          have So := (hO (c - 10) (by omega)).2 z1
          rw [show 123 + (c - 10) = 113 + c by omega] at So
          have hne : c - 10 ≠ s := fun e => by rw [e] at z1; omega
          exact (So.keep K (by omega) (fun _ _ h => h)).weak (fun q hq => ⟨by unfold aW at hq; omega, by unfold aW at hq ⊢; omega⟩)
      · rw [nI_1]
        refine ih (p + 1) σ3 _ _ (by omega) (K.tr (K3.mono (fun _ h => h) (fun _ _ h => h) (fun _ h => h) (fun x h => by omega))) (fun q hq => ?_) (fun q hq => ?_)
        · by_cases e : q = p
          · subst e; rw [ht]; exact fun z => nomatch z
          · exact hne q (by omega)
        · by_cases e : q = p
          · subst e
            unfold aWh
            rw [if_pos hp, ht]; exact S3
          · exact (SP q (by omega)).keep K3 (by omega) (fun _ _ h => h)
      · unfold aExp
        rw [if_neg (fun z => aPts_iff.mp z p hp ht)]
      · exact K'.tr (K3.mono (fun _ h => h.elim) (fun _ _ h => h.elim) (fun _ h => h.elim) (fun x h => Or.inl (by omega)))
  refine u168_0 ⟨m_ix hs6 (by decide), ?_⟩
  rw [mGet_e (by omega), a1]
  refine ⟨m_ix ht4 (by decide), ?_⟩
  rw [mGet_e (by omega), b2]
  exact gath _ 0 σ none none (Nat.zero_add _) mKp.rf (fun q hq => absurd hq (Nat.not_lt_zero _)) (fun q hq => absurd hq (Nat.not_lt_zero _))
end RXQ
