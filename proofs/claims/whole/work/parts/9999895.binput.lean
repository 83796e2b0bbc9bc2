/-! INPUT IS OWED -/
section OIN
variable {X : List Int32} {t d : Nat} {hp : mm_H} {Q : Option Value → mm_H → Prop}
def eInS (E : mEv) (k : Nat) (u : mT) : mEv := (up (eIn E) k u, eTl E, eSp E)
theorem ob_input {y1 : Int32} (I : IV X t hp) (ht : t < 512) : mL_ob X (IV X) t hp 52 162 [.int y1] := by
  obtain ⟨D, x, E, tr, sr, R, JL, σ, hC, M, hS, hA, hP, hG⟩ := I
  have h6 := hA.1.2.2.1
  obtain ⟨p0, q1, q2, q3⟩ := id hP
  have h512 := Nat.min_le_right t 512
  have hD60 := hS.1.1.1
  have ref : ∀ Q : Option Value → mS → Prop, (nSt R ≠ 1 → ∀ k : Nat, y1 = nI k → k < 3 → ∀ u, pD D = some u → ∀ σ', mKp (fun k => k = 1 ∨ k = 3) mN2 (fun q => kA p0 (mt_tl (mt_tk u 0)) q ∨ rP 0 q) (fun x => x = k ∨ x = 141) σ σ' → sD σ' [] → σ'.1 1 = nI (p0 + mt_tl (mt_tk u 0)) → mSlot σ' (kA p0 (mt_tl (mt_tk u 0))) k (mt_tk u 0) → Q (some (.int 1)) σ') → ((nSt R = 1 ∨ (∀ k : Nat, k < 3 → y1 ≠ nI k) ∨ pD D = none) → ∀ σ', mKp (fun k => k = 3) mN2 (rP 0) (fun x => x = 141) σ σ' → sD σ' [] → Q (some (.int 0)) σ') → mM X 999 162 0 (mm_L0 162 [.ref 86, .int y1]) [] σ Q := by
    intro Q H1 H0
    have bd : (nSt R = 1 ∨ (∀ k : Nat, k < 3 → y1 ≠ nI k)) → mM X 999 162 20 [some (.ref 86), some (.int y1), none] [] σ Q := fun hb => by
      refine u162_20 ⟨fun _ => ?_, fun z => absurd rfl z⟩
      refine t134 (d := 991) (s := 0) (Or.inl rfl) hS.1 (by omega) q1 (by omega) (fun z => absurd z (by decide)) (fun _ σ' K hd => ⟨_, rfl, Or.inl rfl, H0 ?_ σ' K hd⟩)
      rcases hb with z | z
      · exact Or.inl z
      · exact Or.inr (Or.inl z)
    refine u162_0 (t126 hS.2.2.2.1.1.1 hA.2.2.2.1 (fun n1 => ⟨_, rfl, fun z => absurd z (by decide), fun _ => ?_⟩) (fun e => ⟨_, rfl, fun _ => bd (Or.inl e), fun z => absurd rfl z⟩))
    refine t127 (lo := 0) (hi := 2) rfl rfl (by omega) (by omega) (fun k ek _ hk => ⟨_, rfl, fun z => absurd z (by decide), fun _ => ⟨fun z => absurd z (by decide), fun _ => ?_⟩⟩) (fun hno => ⟨_, rfl, fun _ => bd (Or.inr (fun k hk => hno k (by omega) (by omega))), fun z => absurd rfl z⟩)
    subst ek
    refine t134 (d := 991) (Or.inr rfl) hS.1 (by omega) q1 (by omega) (fun _ u hu σ' K hd g1 g2 => ⟨_, rfl, Or.inr rfl, H1 n1 k rfl (by omega) u hu σ' K hd g1 g2⟩) (fun hb σ' K hd => ⟨_, rfl, Or.inl rfl, H0 ?_ σ' K hd⟩)
    rcases hb with z | z
    · exact absurd z (by decide)
    · exact Or.inr (Or.inr z)
  have bad : (nSt R = 1 ∨ (∀ k : Nat, k < 3 → y1 ≠ nI k) ∨ pD D = none) → ∀ hp' x', cE (fun z => z = 1) hp hp' → cG 122 hp hp' → cD hp' [] x' → ∃ y, some (Value.int 0) = some (.int y) ∧ ∃ D x E tr sr R JL σ, CI hp' D x E tr sr R JL ∧ mR hp' σ ∧ AI E tr sr R ∧ GI hp' JL (t + 1) ∧ mM X 999 162 0 (mm_L0 162 [.ref 86, .int y1]) [] σ (fun r2 σ' => r2 = some (.int y) ∧ SI σ' D E R ∧ PC σ' D E (t + 1)) := fun hb hp' x' F G hD' => ob_drop hC M hS hA hP hG ht F G.h (by omega) (by omega) hD' (fun Q HQ => ref Q (fun n1 k ek hk u hu σ' _ _ _ _ => by
    exfalso
    rcases hb with z | z | z
    · exact n1 z
    · exact z k hk ek
    · rw [hu] at z; cases z) (fun _ => HQ))
  obtain ⟨_, d1, _⟩ := id hC.2.1
  refine ob_of rfl (w52_0 ⟨_, _, _, rfl, hC.1, rfl, ⟨_, _, rfl, d1⟩, k28 (d := 972) hC.2.1 hC.2.2.2.2.2 (fun u hu hgu hp' q x' hq F G hD' T => ?_) (fun hu hp' x' F G hD' => ⟨_, rfl, rfl, Or.inl ⟨rfl, bad (Or.inr (Or.inr hu)) hp' x' F G hD'⟩⟩)⟩)
  obtain ⟨hC', M'⟩ := hC.draft M F hD'
  have rn := hC'.2.2.2.2.1
  obtain ⟨⟨s1, i1, r12, _⟩, _⟩ := id rn
  refine ⟨_, rfl, rfl, Or.inr ⟨⟨_, rfl⟩, _, _, _, rfl, hC'.1, rfl, ⟨_, _, rfl, r12⟩, k16 rn hA.2.2.2.1 ⟨_, rfl, ?_⟩⟩⟩
  by_cases e1 : nSt R = 1
  · rw [if_pos e1]; exact ⟨fun _ => bad (Or.inl e1) hp' x' F G hD', fun z => absurd z (by decide)⟩
  rw [if_neg e1]
  refine ⟨fun z => absurd rfl z, fun _ => ?_⟩
  rcases nI_arg y1 (L := 3) (by omega) with ⟨k, ek, hk⟩ | ⟨h, hno⟩
  · rw [ek]
    refine ⟨fun g => absurd g (nI_pos (by omega)), fun _ => pk_lt k 3 (fun _ => ?_) (fun g => absurd g (by omega))⟩
    obtain ⟨xx, ⟨⟨l, a1, a2, a3⟩, ⟨m, b1, b2, b3, b4⟩, ⟨n, c1, c2, c3, c4⟩⟩, rn', hl'⟩ := id hC'.2.2
    obtain ⟨vs, htag⟩ := T.tag
    have h113 := hC.2.2.2.2.2
    have l3 := (List.getElem?_eq_some_iff.mp a1).1
    refine ⟨_, _, _, rfl, hC'.1, rfl, _, _, _, rfl, a1, by decide, rfl, nI_pos' (by omega), by rw [nI_clamp (by omega), a2]; exact hk, Or.inr ⟨_, _, _, rfl, htag, by decide, by decide⟩, ?_⟩
    rw [nI_clamp (by omega)]
    generalize e12 : hp'.set 3 (2002, l.set k (.ref q)) = hp2
    have F2 : cE (fun x => x = 3) hp' hp2 := by subst e12; exact cE.set rfl
    have hH2 : cH 0 0 hp' hp2 := by subst e12; exact ⟨by rw [List.length_set]; exact Nat.le_refl _, Nat.le_of_eq (mm_sz_set a1 (by rw [List.length_set]))⟩
    have g3 : hp2[3]? = some (2002, l.set k (.ref q)) := by subst e12; rw [List.getElem?_set_self l3]
    have qb : qB hp' (fun x => x = 3) := hC'.qF.mono (fun x h => by unfold wF; omega)
    have T' : cT cS hp' u q := T.mono (fun z _ hz => by unfold cS; omega)
    have hC2 : CI hp2 [] x' (eInS E k u) tr sr R JL := by
      refine ⟨F2.at hC'.1 (by omega), hC'.2.1.keep F2 (by omega) (by omega), xx.keepB F2 qb, ⟨⟨l.set k (.ref q), g3, by rw [List.length_set]; exact a2, fun c hc => ?_⟩, ⟨m, F2.at b1 (by omega), b2, b3, fun i hi => ?_⟩, ⟨n, F2.at c1 (by omega), c2, c3, fun i hi => ?_⟩⟩, rn'.keepB F2 qb, Nat.le_trans hl' F2.1⟩
      · show ∃ q' : Nat, (l.set k (.ref q))[c]? = some (.ref q') ∧ cS q' ∧ cT cS hp2 (up (eIn E) k u c) q'
        by_cases e : c = k
        · subst e
          rw [up_eq]
          exact ⟨q, List.getElem?_set_self (by omega), by unfold cS; omega, cT.keepT F2 qb.nv T'⟩
        · rw [up_ne e]
          obtain ⟨y, e1, e2, e3⟩ := a3 c hc
          exact ⟨y, by rw [List.getElem?_set_ne (fun z => e z.symm)]; exact e1, e2, cT.keepT F2 qb.nv e3⟩
      · obtain ⟨e1, e2, e3⟩ := b4 i hi
        exact ⟨e1, e2, e3.keep F2 (fun y _ _ => by omega)⟩
      · obtain ⟨e1, e2, e3, e4⟩ := c4 i hi
        exact ⟨e1, e2, e3, e4.keepB F2 qb (fun j hj => by omega)⟩
    have M2 : mR hp2 σ := F2.mR M' (fun y h1 h2 => by omega)
    have hA2 : AI (eInS E k u) tr sr R := by
      obtain ⟨⟨⟨o1, o2, o3⟩, f2, f3, f4, f5⟩, a2', a3', a4', a5', a6', a7', a8', a9', a10', a11'⟩ := hA
      refine ⟨⟨⟨o1, o2, fun c hc => ?_⟩, f2, f3, f4, f5⟩, fun z => absurd z e1, a3', a4', a5', a6', a7', a8', a9', a10', a11'⟩
      show mt_gd (up (eIn E) k u c)
      by_cases e : c = k
      · subst e; rw [up_eq]; exact hgu
      · rw [up_ne e]; exact o3 c hc
    have hsz := pD_sz hS.1.1 hu
    have goal : ∃ y, some (Value.int 1) = some (.int y) ∧ ∃ D x E tr sr R JL σ, CI hp2 D x E tr sr R JL ∧ mR hp2 σ ∧ AI E tr sr R ∧ GI hp2 JL (t + 1) ∧ mM X 999 162 0 (mm_L0 162 [.ref 86, .int y1]) [] σ (fun r2 σ' => r2 = some (.int y) ∧ SI σ' D E R ∧ PC σ' D E (t + 1)) := by
      refine ⟨1, rfl, [], x', eInS E k u, tr, sr, R, JL, σ, hC2, M2, hA2, hG.h ht (G.h.tr hH2) (by omega) (by omega), ref _ (fun _ k' ek' hk' u' hu' σ' K hd g1 g2 => ?_) (fun hb => ?_)⟩
      · have a := (nI_eq (by omega) (by omega)).mp (ek.symm.trans ek')
        have c := Option.some.inj (hu.symm.trans hu')
        subst a; subst c
        have kin : ∀ c, c < 3 → mSlot σ' (fun p => p < p0 + mt_tl (mt_tk u 0)) c (mt_tk (up (eIn E) k u c) 0) := fun c hc => by
          by_cases e : c = k
          · subst e; rw [up_eq]; exact g2.weak (fun z hz => by unfold kA at hz; omega)
          · rw [up_ne e]
            exact ((q3.1 c hc).keep K (by omega) (fun z hz hP' => by unfold kA rP at hP'; omega)).weak (fun z hz => by omega)
        have kpr : ∀ s p v, s < 6 → p < 4 → sPr (eSt E s) p = some v → mSlot σ' (fun z => z < p0) (3 + (4 * s + p)) (mt_tk v 0) := fun s p v hs hp4 ev => (q3.2 s p v hs hp4 ev).keep K (by omega) (fun z hz hP' => by unfold kA rP at hP'; omega)
        obtain ⟨z1, z2, z3, z4, z5⟩ := hS.2.1
        have hE' : sE σ' (eInS E k u) := by
          refine ⟨(K.1 6 (by omega)).trans z1, (K.1 12 (by omega)).trans z2, fun i hi => ?_, fun s hs => ?_, fun c hc => (kin c hc).weak (fun z hz => by show z < 600; omega)⟩
          · obtain ⟨b1, b2, b3⟩ := z3 i hi
            refine ⟨(K.2.1 91 _ (by decide) id).trans b1, (K.2.1 92 _ (by decide) id).trans b2, fun p hp' => ?_⟩
            obtain ⟨w1, w2, w3, w4⟩ := b3 p hp'
            exact ⟨w1, (K.2.1 93 _ (by decide) id).trans w2, (K.2.1 94 _ (by decide) id).trans w3, (K.2.1 95 _ (by decide) id).trans w4⟩
          · obtain ⟨b1, b2, b3, b4, b5⟩ := z4 s hs
            refine ⟨(K.2.1 96 _ (by decide) id).trans b1, (K.2.1 97 _ (by decide) id).trans b2, (K.2.1 98 _ (by decide) id).trans b3, b4.k K id (fun _ _ _ h => h), fun p hp4 => ?_⟩
            obtain ⟨w1, w2, w3, w4, w5, w6⟩ := b5 p hp4
            refine ⟨(K.2.1 99 _ (by decide) id).trans w1, fun i hi => (K.2.1 100 _ (by decide) id).trans (w2 i hi), (K.2.1 101 _ (by decide) id).trans w3, (K.2.1 102 _ (by decide) id).trans w4, w5.k K id (fun _ _ _ h => h), ?_⟩
            rcases w6 with ⟨v1, v2⟩ | ⟨v, v1, v2, v3⟩
            · exact Or.inl ⟨v1, (K.2.1 103 _ (by decide) id).trans v2⟩
            · exact Or.inr ⟨v, v1, (K.2.1 103 _ (by decide) id).trans v2, (kpr s p v hs hp4 v1).weak (fun z hz => by show z < 600; omega)⟩
        exact ⟨rfl, ⟨hd, hE', (K.1 44 (by omega)).trans hS.2.2.1, hS.2.2.2.1.bk (K.mono (fun k h => by omega) (fun _ _ h => h.elim) (fun z h => by unfold kA rP at h; omega) (fun x h => by omega)), fun z => absurd z e1⟩, p0 + mt_tl (mt_tk u 0), g1, by show _ + 0 ≤ _; omega, kin, fun s p v hs hp4 ev => (kpr s p v hs hp4 ev).weak (fun z hz => by omega)⟩
      · exfalso
        rcases hb with z | z | z
        · exact e1 z
        · exact z k hk ek
        · rw [hu] at z; cases z
    rw [ek] at goal
    exact goal
  · have b := bad (Or.inr (Or.inl hno)) hp' x' F G hD'
    exact ⟨fun _ => b, fun g => ⟨fun g2 => absurd (h.resolve_left g) (Int32.not_le.mpr g2), fun _ => b⟩⟩
end OIN
