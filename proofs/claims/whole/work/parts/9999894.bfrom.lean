/-! FROM, WHEN ARE OWED -/
section OFW
variable {X : List Int32} {t d : Nat} {hp : mm_H} {Q : Option Value → mm_H → Prop}
theorem sEs1_R {σ σ' : mS} {s p : Nat} {st : mStp} {D : List Nat} {w : Nat} (h : sEs1 σ s st) (hs : s < 6) (hw : p < 4 ∧ w = 4 * s + p ∨ p = 4 ∧ w = 24 + s) (h3 : ∀ p, (sSr st p).length ≤ 3) (K : mKp (fun k => k = 3) (kB w) mN1 mN1 σ σ') (hr : sRu σ' w D) : sEs1 σ' s (stR st p D) := by
  obtain ⟨a1, a2, a3, a4, a5⟩ := h
  refine ⟨(K.2.1 96 _ (by decide) (by unfold kB; omega)).trans a1, (K.2.1 97 _ (by decide) (by unfold kB; omega)).trans a2, (K.2.1 98 _ (by decide) (by unfold kB; omega)).trans a3, ?_, fun i hi => ?_⟩
  · show sEr σ' (24 + s) (up (sRl st) p (some D) 4)
    by_cases e : p = 4
    · subst e
      rw [up_eq]
      have : w = 24 + s := by omega
      subst this
      exact Or.inr ⟨D, rfl, hr⟩
    · rw [up_ne (fun z => e z.symm)]
      exact a4.k K (by unfold kB; omega) (fun j _ _ => by unfold kB; omega)
  · obtain ⟨b1, b2, b3, b4, b5, b6⟩ := a5 i hi
    refine ⟨(K.2.1 99 _ (by decide) (by unfold kB; omega)).trans b1, fun k hk => (K.2.1 100 _ (by decide) (by unfold kB; omega)).trans (b2 k hk), (K.2.1 101 _ (by decide) (by unfold kB; omega)).trans b3, (K.2.1 102 _ (by decide) (by unfold kB; omega)).trans b4, ?_, ?_⟩
    · show sEr σ' (4 * s + i) (up (sRl st) p (some D) i)
      by_cases e : i = p
      · subst e
        rw [up_eq]
        have : w = 4 * s + i := by omega
        subst this
        exact Or.inr ⟨D, rfl, hr⟩
      · rw [up_ne e]
        exact b5.k K (by unfold kB; omega) (fun j _ _ => by unfold kB; omega)
    · rcases b6 with ⟨z1, z2⟩ | ⟨v, z1, z2, z3⟩
      · exact Or.inl ⟨z1, (K.2.1 103 _ (by decide) (by unfold kB; omega)).trans z2⟩
      · exact Or.inr ⟨v, z1, (K.2.1 103 _ (by decide) (by unfold kB; omega)).trans z2, z3.keep K id (fun _ _ h => h)⟩
/-- a rule has come into a step, in both -/
theorem ob_rule {t : Nat} {km c w : Nat} {as : List Value} {hp' hp2 : mm_H} {D : List Nat} {is : List mIt} {x x' : Int32} {E : mEv} {tr sr : Nat → Nat} {R : mRn} {JL : Nat → List Value} {σ : mS} {s p wr : Nat} (hC : CI hp D x E tr sr R JL) (M : mR hp σ) (hS : SI σ D E R) (hA : AI E tr sr R) (hP : PC σ D E t) (hG : GI hp JL t) (ht : t < 512) (n1 : nSt R ≠ 1) (hs : s < (eSp E).length) (hr : rR D = some is) (hw : p < 4 ∧ wr = 4 * s + p ∨ p = 4 ∧ wr = 24 + s) (F : cE (fun z => z = 1) hp hp') (hH : cH c w hp hp') (hc : c ≤ 1100) (hww : w ≤ 14000) (hD : cD hp' [] x') (F' : cE (wSt (sr s)) hp' hp2) (hH2 : cH 0 0 hp' hp2) (C : cSt hp2 (sr s) (tr (sTl (eSt E s))) (stR (eSt E s) p D))
    (H : ∀ Q : Option Value → mS → Prop, (∀ σ', mKp (fun k => k = 3) (kB wr) mN1 mN1 σ σ' → sD σ' [] → sRu σ' wr D → Q (some (.int 1)) σ') → mM X 999 km 0 (mm_L0 km (.ref 86 :: as)) [] σ Q) : ∃ y, some (Value.int 1) = some (.int y) ∧ ∃ D x E tr sr R JL σ, CI hp2 D x E tr sr R JL ∧ mR hp2 σ ∧ AI E tr sr R ∧ GI hp2 JL (t + 1) ∧ mM X 999 km 0 (mm_L0 km (.ref 86 :: as)) [] σ (fun r2 σ' => r2 = some (.int y) ∧ SI σ' D E R ∧ PC σ' D E (t + 1)) := by
  obtain ⟨hC', M'⟩ := hC.draft M F hD
  obtain ⟨hC2, M2⟩ := hC'.setS (st := stR (eSt E s) p D) M' hA hs F' rfl C
  have hso := hA.1.1.2.1 s hs
  have h6 := hA.1.2.2.1
  have hs6 : s < 6 := by omega
  obtain ⟨p0, q1, q2, q3⟩ := id hP
  have h512 := Nat.min_le_right t 512
  refine ⟨1, rfl, [], x', eSet E s (stR (eSt E s) p D), tr, sr, R, JL, σ, hC2, M2, hA.set n1 hs rfl (stR_ok hso hS.1.1 hr), hG.h ht (hH.tr hH2) (by omega) (by omega), H _ (fun σ' K hd hru => ?_)⟩
  have S1 : sEs1 σ' s (stR (eSt E s) p D) := sEs1_R (hS.2.1.2.2.2.1 s hs6) hs6 hw (fun q => (hso.1 q).1) K hru
  obtain ⟨e1, e2, e3⟩ := hS.2.1.setS (st := stR (eSt E s) p D) q3 (by omega) hs h6 (hso3 hA) K (by omega) (fun b j _ _ h => by unfold kB at h; unfold sB; omega) (fun _ _ h => h) (fun _ _ h => h.elim) S1
  refine ⟨rfl, ⟨hd, e1, (K.1 44 (by decide)).trans hS.2.2.1, hS.2.2.2.1.bk (K.mono (fun k h => by omega) (fun b j h => by unfold kB at h; omega) (fun _ h => h.elim) (fun _ h => h.elim)), fun z => absurd z n1⟩, p0, (K.1 1 (by decide)).trans q1, by show _ + 0 ≤ _; omega, e2, fun k i v hk hi ev => ?_⟩
  rw [eSt_set hs] at ev
  by_cases ek : k = s
  · subst ek
    rw [if_pos rfl] at ev
    exact (q3.2 k i v hk hi ev).keep K id (fun _ _ h => h)
  · rw [if_neg ek] at ev
    exact e3 k i v hk hi ek ev
theorem ob_from {y1 y2 : Int32} (I : IV X t hp) (ht : t < 512) : mL_ob X (IV X) t hp 41 155 [.int y1, .int y2] := by
  obtain ⟨D, x, E, tr, sr, R, JL, σ, hC, M, hS, hA, hP, hG⟩ := I
  have h6 := hA.1.2.2.1
  have ref : ∀ Q : Option Value → mS → Prop, (nSt R ≠ 1 → ∀ s p : Nat, y1 = nI s → s < (eSp E).length → y2 = nI p → p < 4 → ∀ is, rR D = some is → ∀ σ', mKp (fun k => k = 3) (kB (4 * s + p)) mN1 mN1 σ σ' → sD σ' [] → sRu σ' (4 * s + p) D → Q (some (.int 1)) σ') → ((nSt R = 1 ∨ noS E y1 ∨ noP y2 ∨ rR D = none) → ∀ σ', mKp (fun k => k = 3) mN2 (rP 0) (fun x => x = 141) σ σ' → sD σ' [] → Q (some (.int 0)) σ') → mM X 999 155 0 (mm_L0 155 [.ref 86, .int y1, .int y2]) [] σ Q := by
    intro Q H1 H0
    have lift : ∀ {σ'}, mKp (fun k => k = 3) mN2 mN1 mN1 σ σ' → mKp (fun k => k = 3) mN2 (rP 0) (fun x => x = 141) σ σ' := fun K => K.mono (fun _ h => h) (fun _ _ h => h) (fun _ h => h.elim) (fun _ h => h.elim)
    refine u155_0 (good_sp (X := X) (d := 997) hS hA (fun n1 s p es hs ep hp4 => ?_) (fun hb => ?_))
    · subst es; subst ep
      refine u155_29 ⟨fun z => absurd z (by decide), fun _ => ?_⟩
      rw [show (4 : Int32) * nI s + nI p = nI (4 * s + p) by rw [show (4 : Int32) = nI 4 from rfl, pk_mul, nI_add]]
      refine t156 (d := 992) (Or.inr rfl) hS.1 (by omega) (fun _ is hi σ' K hd g => ⟨_, rfl, Or.inr rfl, H1 n1 s p rfl hs rfl hp4 is hi σ' K hd g⟩) (fun hb σ' K hd => ⟨_, rfl, Or.inl rfl, H0 ?_ σ' (lift K) hd⟩)
      rcases hb with z | z
      · exact absurd z (by decide)
      · exact Or.inr (Or.inr (Or.inr z))
    · refine u155_29 ⟨fun _ => ?_, fun z => absurd rfl z⟩
      refine t156 (d := 992) (w := 0) (Or.inl rfl) hS.1 (by omega) (fun z => absurd z (by decide)) (fun _ σ' K hd => ⟨_, rfl, Or.inl rfl, H0 ?_ σ' (lift K) hd⟩)
      rcases hb with z | z | z
      · exact Or.inl z
      · exact Or.inr (Or.inl z)
      · exact Or.inr (Or.inr (Or.inl z))
  have bad : (nSt R = 1 ∨ noS E y1 ∨ noP y2 ∨ rR D = none) → ∀ hp' x', cE (fun z => z = 1) hp hp' → cG 4 hp hp' → cD hp' [] x' → ∃ y, some (Value.int 0) = some (.int y) ∧ ∃ D x E tr sr R JL σ, CI hp' D x E tr sr R JL ∧ mR hp' σ ∧ AI E tr sr R ∧ GI hp' JL (t + 1) ∧ mM X 999 155 0 (mm_L0 155 [.ref 86, .int y1, .int y2]) [] σ (fun r2 σ' => r2 = some (.int y) ∧ SI σ' D E R ∧ PC σ' D E (t + 1)) := fun hb hp' x' F G hD' => ob_drop hC M hS hA hP hG ht F G.h (by omega) (by omega) hD' (fun Q HQ => ref Q (fun n1 s p es hs ep hp4 u hu σ' _ _ _ => by
    exfalso
    rcases hb with z | z | z | z
    · exact n1 z
    · exact z s hs es
    · exact z p hp4 ep
    · rw [hu] at z; cases z) (fun _ => HQ))
  obtain ⟨_, d1, _⟩ := id hC.2.1
  refine ob_of rfl (w41_0 ⟨_, _, _, rfl, hC.1, rfl, ⟨_, _, rfl, d1⟩, k42 (d := 993) (by omega) hC.2.1 hC.2.2.2.2.2 (fun is hu hp' q hq F G hD' T => ?_) (fun hu hp' F G hD' => ?_)⟩)
  · obtain ⟨hC', M'⟩ := hC.draft M F hD'
    refine ⟨_, rfl, rfl, ⟨_, _, rfl, hC'.1⟩, k23 hC' hA (fun n1 s es hs => ⟨_, rfl, rfl, Or.inr ⟨⟨_, rfl⟩, Or.inr ⟨⟨_, rfl⟩, k24 (fun p ep hp4 => ⟨_, rfl, fun _ => ?_, fun z => absurd z (by decide)⟩) (fun hno => ⟨_, rfl, fun z => absurd rfl z, fun _ => bad (Or.inr (Or.inr (Or.inl hno))) hp' x F G hD'⟩)⟩⟩⟩) (fun hno => ⟨_, rfl, rfl, Or.inr ⟨⟨_, rfl⟩, Or.inl ⟨rfl, bad (by rcases hno with z | z; exact Or.inl z; exact Or.inr (Or.inl z)) hp' x F G hD'⟩⟩⟩)⟩
    obtain ⟨_, ⟨_, _, n, c1, c2, c3, c4⟩, _⟩ := id hC'.2.2
    obtain ⟨d1, d2, d3, d4⟩ := c4 s hs
    obtain ⟨cond, srcs, ps, rs, h0, h1, hl, h2, h3, h4, h5, h6', h7, h8, h9, h10, h11⟩ := id d4
    have l6 := (List.getElem?_eq_some_iff.mp h7).1
    obtain ⟨jk, htag, _⟩ := id T
    have h113 := hC.2.2.2.2.2
    rw [ep]
    refine ⟨_, _, _, rfl, h0, rfl, _, _, _, rfl, h7, by decide, rfl, nI_pos' (by omega), by rw [nI_clamp (by omega)]; exact hp4, Or.inr ⟨_, _, _, rfl, htag, by decide, by decide⟩, ?_⟩
    rw [nI_clamp (by omega), row4_set hp4]
    generalize e12 : hp'.set (sr s + 6) (2008, row4 (fun j => if j = p then .ref q else rs j)) = hp2
    have F2 : cE (fun x => x = sr s + 6) hp' hp2 := by subst e12; exact cE.set rfl
    have hH2 : cH 0 0 hp' hp2 := by subst e12; exact ⟨by rw [List.length_set]; exact Nat.le_refl _, Nat.le_of_eq (mm_sz_set h7 (by rfl))⟩
    have g6 : hp2[sr s + 6]? = some (2008, row4 (fun j => if j = p then .ref q else rs j)) := by subst e12; rw [List.getElem?_set_self l6]
    have F' : cE (wSt (sr s)) hp' hp2 := F2.mono (fun x _ h => by unfold wSt; omega)
    obtain ⟨kt, kr⟩ := d4.parts d2 F'
    have C : cSt hp2 (sr s) (tr (sTl (eSt E s))) (stR (eSt E s) p D) := by
      refine ⟨cond, srcs, ps, (fun j => if j = p then .ref q else rs j), F2.at h0 (by omega), F2.at h1 (by omega), hl, h2, F2.at h3 (by omega), F2.at h4 (by omega), F2.at h5 (by omega), F2.at h6' (by omega), g6, fun i hi => ?_, fun i hi => ?_, ?_, h11⟩
      · rcases h8 i hi with z | ⟨v, y, z1, z2, z3, z4⟩
        · exact Or.inl z
        · exact Or.inr ⟨v, y, z1, z2, z3, kt z4⟩
      · by_cases e : i = p
        · subst e
          exact Or.inr ⟨D, is, q, up_eq _ _ _, hu, if_pos rfl, kr T, by omega⟩
        · rcases h9 i hi with ⟨z1, z2⟩ | ⟨D', is', y, z1, z2, z3, z4, z5⟩
          · exact Or.inl ⟨(up_ne e).trans z1, (if_neg e).trans z2⟩
          · exact Or.inr ⟨D', is', y, (up_ne e).trans z1, z2, (if_neg e).trans z3, kr z4, z5⟩
      · have e4 : sRl (stR (eSt E s) p D) 4 = sRl (eSt E s) 4 := up_ne (by omega)
        rw [e4]
        rcases h10 with z | ⟨D', is', y, z1, z2, z3, z4, z5⟩
        · exact Or.inl z
        · exact Or.inr ⟨D', is', y, z1, z2, z3, kr z4, z5⟩
    have fin := ob_rule (km := 155) (as := [.int y1, .int y2]) (wr := 4 * s + p) (p := p) hC M hS hA hP hG ht n1 hs hu (Or.inl ⟨hp4, rfl⟩) F G.h (by omega) (by omega) hD' F' hH2 C (fun Q HQ => ref Q (fun _ s' p' es' hs' ep' hp4' is' hi' σ' K hd g => by
      have a := (nI_eq (by omega) (by omega)).mp (es.symm.trans es')
      have b := (nI_eq (by omega) (by omega)).mp (ep.symm.trans ep')
      subst a; subst b
      exact HQ σ' K hd g) (fun hb => by
      exfalso
      rcases hb with z | z | z | z
      · exact n1 z
      · exact z s hs es
      · exact z p hp4 ep
      · rw [hu] at z; cases z))
    rw [ep] at fin
    exact fin
  · obtain ⟨hC', M'⟩ := hC.draft M F hD'
    exact ⟨_, rfl, rfl, ⟨_, _, rfl, hC'.1⟩, k23 hC' hA (fun n1 s es hs => ⟨_, rfl, rfl, Or.inl ⟨rfl, bad (Or.inr (Or.inr (Or.inr hu))) hp' x F G hD'⟩⟩) (fun hno => ⟨_, rfl, rfl, Or.inl ⟨rfl, bad (Or.inr (Or.inr (Or.inr hu))) hp' x F G hD'⟩⟩)⟩
theorem ob_when {y1 : Int32} (I : IV X t hp) (ht : t < 512) : mL_ob X (IV X) t hp 50 160 [.int y1] := by
  obtain ⟨D, x, E, tr, sr, R, JL, σ, hC, M, hS, hA, hP, hG⟩ := I
  have h6 := hA.1.2.2.1
  have ref : ∀ Q : Option Value → mS → Prop, (nSt R ≠ 1 → ∀ s : Nat, y1 = nI s → s < (eSp E).length → ∀ is, rR D = some is → ∀ σ', mKp (fun k => k = 3) (kB (24 + s)) mN1 mN1 σ σ' → sD σ' [] → sRu σ' (24 + s) D → Q (some (.int 1)) σ') → ((nSt R = 1 ∨ noS E y1 ∨ rR D = none) → ∀ σ', mKp (fun k => k = 3) mN2 (rP 0) (fun x => x = 141) σ σ' → sD σ' [] → Q (some (.int 0)) σ') → mM X 999 160 0 (mm_L0 160 [.ref 86, .int y1]) [] σ Q := by
    intro Q H1 H0
    have lift : ∀ {σ'}, mKp (fun k => k = 3) mN2 mN1 mN1 σ σ' → mKp (fun k => k = 3) mN2 (rP 0) (fun x => x = 141) σ σ' := fun K => K.mono (fun _ h => h) (fun _ _ h => h) (fun _ h => h.elim) (fun _ h => h.elim)
    have bd : (nSt R = 1 ∨ noS E y1) → mM X 999 160 20 [some (.ref 86), some (.int y1), none] [.int (0 : Int32)] σ Q := fun hb => by
      refine u160_20 ⟨fun _ => ?_, fun z => absurd rfl z⟩
      refine t156 (d := 992) (w := 0) (Or.inl rfl) hS.1 (by omega) (fun z => absurd z (by decide)) (fun _ σ' K hd => ⟨_, rfl, Or.inl rfl, H0 ?_ σ' (lift K) hd⟩)
      rcases hb with z | z
      · exact Or.inl z
      · exact Or.inr (Or.inl z)
    refine u160_0 (t126 hS.2.2.2.1.1.1 hA.2.2.2.1 (fun n1 => ⟨_, rfl, fun z => absurd z (by decide), fun _ => ?_⟩) (fun e => ⟨_, rfl, fun _ => bd (Or.inl e), fun z => absurd rfl z⟩))
    refine t131 hS.2.1 h6 (fun s es hs => ⟨_, rfl, fun z => absurd z (by decide), fun _ => ?_⟩) (fun hno => ⟨_, rfl, fun _ => bd (Or.inr hno), fun z => absurd rfl z⟩)
    subst es
    refine u160_20 ⟨fun z => absurd z (by decide), fun _ => ?_⟩
    rw [show (24 : Int32) + nI s = nI (24 + s) by rw [show (24 : Int32) = nI 24 from rfl, nI_add]]
    refine t156 (d := 992) (Or.inr rfl) hS.1 (by omega) (fun _ is hi σ' K hd g => ⟨_, rfl, Or.inr rfl, H1 n1 s rfl hs is hi σ' K hd g⟩) (fun hb σ' K hd => ⟨_, rfl, Or.inl rfl, H0 ?_ σ' (lift K) hd⟩)
    rcases hb with z | z
    · exact absurd z (by decide)
    · exact Or.inr (Or.inr z)
  have bad : (nSt R = 1 ∨ noS E y1 ∨ rR D = none) → ∀ hp' x', cE (fun z => z = 1) hp hp' → cG 4 hp hp' → cD hp' [] x' → ∃ y, some (Value.int 0) = some (.int y) ∧ ∃ D x E tr sr R JL σ, CI hp' D x E tr sr R JL ∧ mR hp' σ ∧ AI E tr sr R ∧ GI hp' JL (t + 1) ∧ mM X 999 160 0 (mm_L0 160 [.ref 86, .int y1]) [] σ (fun r2 σ' => r2 = some (.int y) ∧ SI σ' D E R ∧ PC σ' D E (t + 1)) := fun hb hp' x' F G hD' => ob_drop hC M hS hA hP hG ht F G.h (by omega) (by omega) hD' (fun Q HQ => ref Q (fun n1 s es hs u hu σ' _ _ _ => by
    exfalso
    rcases hb with z | z | z
    · exact n1 z
    · exact z s hs es
    · rw [hu] at z; cases z) (fun _ => HQ))
  obtain ⟨_, d1, _⟩ := id hC.2.1
  refine ob_of rfl (w50_0 ⟨_, _, _, rfl, hC.1, rfl, ⟨_, _, rfl, d1⟩, k42 (d := 993) (by omega) hC.2.1 hC.2.2.2.2.2 (fun is hu hp' q hq F G hD' T => ?_) (fun hu hp' F G hD' => ?_)⟩)
  · obtain ⟨hC', M'⟩ := hC.draft M F hD'
    refine ⟨_, rfl, rfl, ⟨_, _, rfl, hC'.1⟩, k23 hC' hA (fun n1 s es hs => ⟨_, rfl, rfl, Or.inr ⟨⟨_, rfl⟩, Or.inr ⟨⟨_, rfl⟩, ?_⟩⟩⟩) (fun hno => ⟨_, rfl, rfl, Or.inr ⟨⟨_, rfl⟩, Or.inl ⟨rfl, bad (by rcases hno with z | z; exact Or.inl z; exact Or.inr (Or.inl z)) hp' x F G hD'⟩⟩⟩)⟩
    obtain ⟨_, ⟨_, _, n, c1, c2, c3, c4⟩, _⟩ := id hC'.2.2
    obtain ⟨d1, d2, d3, d4⟩ := c4 s hs
    obtain ⟨cond, srcs, ps, rs, h0, h1, hl, h2, h3, h4, h5, h6', h7, h8, h9, h10, h11⟩ := id d4
    have l0 := (List.getElem?_eq_some_iff.mp h0).1
    have h113 := hC.2.2.2.2.2
    refine ⟨_, _, rfl, h0, by show 7 < 10; decide, rfl, ?_⟩
    generalize e12 : hp'.set (sr s) (7, ([.ref (tr (sTl (eSt E s))), .ref (sr s + 1), .ref (sr s + 2), .ref (sr s + 3), .ref (sr s + 4), .ref (sr s + 5), .ref (sr s + 6), cond, .int (nI (sMk (eSt E s))), .int (nI (sMe (eSt E s)))] : List Value).set 7 (.ref q)) = hp2
    have F2 : cE (fun x => x = sr s) hp' hp2 := by subst e12; exact cE.set rfl
    have hH2 : cH 0 0 hp' hp2 := by subst e12; exact ⟨by rw [List.length_set]; exact Nat.le_refl _, Nat.le_of_eq (mm_sz_set h0 (by rfl))⟩
    have g0 : hp2[sr s]? = some (7, [.ref (tr (sTl (eSt E s))), .ref (sr s + 1), .ref (sr s + 2), .ref (sr s + 3), .ref (sr s + 4), .ref (sr s + 5), .ref (sr s + 6), .ref q, .int (nI (sMk (eSt E s))), .int (nI (sMe (eSt E s)))]) := by subst e12; rw [List.getElem?_set_self l0]; rfl
    have F' : cE (wSt (sr s)) hp' hp2 := F2.mono (fun x _ h => by unfold wSt; omega)
    obtain ⟨kt, kr⟩ := d4.parts d2 F'
    have C : cSt hp2 (sr s) (tr (sTl (eSt E s))) (stR (eSt E s) 4 D) := by
      refine ⟨.ref q, srcs, ps, rs, g0, F2.at h1 (by omega), hl, h2, F2.at h3 (by omega), F2.at h4 (by omega), F2.at h5 (by omega), F2.at h6' (by omega), F2.at h7 (by omega), fun i hi => ?_, fun i hi => ?_, ?_, h11⟩
      · rcases h8 i hi with z | ⟨v, y, z1, z2, z3, z4⟩
        · exact Or.inl z
        · exact Or.inr ⟨v, y, z1, z2, z3, kt z4⟩
      · have e4 : sRl (stR (eSt E s) 4 D) i = sRl (eSt E s) i := up_ne (by omega)
        rw [e4]
        rcases h9 i hi with z | ⟨D', is', y, z1, z2, z3, z4, z5⟩
        · exact Or.inl z
        · exact Or.inr ⟨D', is', y, z1, z2, z3, kr z4, z5⟩
      · exact Or.inr ⟨D, is, q, (show up (sRl (eSt E s)) 4 (some D) 4 = some D from up_eq _ _ _), hu, rfl, kr T, by omega⟩
    exact ob_rule (km := 160) (as := [.int y1]) (wr := 24 + s) (p := 4) hC M hS hA hP hG ht n1 hs hu (Or.inr ⟨rfl, rfl⟩) F G.h (by omega) (by omega) hD' F' hH2 C (fun Q HQ => ref Q (fun _ s' es' hs' is' hi' σ' K hd g => by
      have a := (nI_eq (by omega) (by omega)).mp (es.symm.trans es')
      subst a
      exact HQ σ' K hd g) (fun hb => by
      exfalso
      rcases hb with z | z | z
      · exact n1 z
      · exact z s hs es
      · rw [hu] at z; cases z))
  · obtain ⟨hC', M'⟩ := hC.draft M F hD'
    exact ⟨_, rfl, rfl, ⟨_, _, rfl, hC'.1⟩, k23 hC' hA (fun n1 s es hs => ⟨_, rfl, rfl, Or.inl ⟨rfl, bad (Or.inr (Or.inr hu)) hp' x F G hD'⟩⟩) (fun hno => ⟨_, rfl, rfl, Or.inl ⟨rfl, bad (Or.inr (Or.inr hu)) hp' x F G hD'⟩⟩)⟩
end OFW
