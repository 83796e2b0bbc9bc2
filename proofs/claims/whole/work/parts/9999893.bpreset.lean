/-! BUILDING with the draft -/
section ODR
variable {X : List Int32} {t d : Nat} {hp : mm_H} {Q : Option Value → mm_H → Prop}
theorem sR.kp {F : Nat → Prop} {B : Nat → Nat → Prop} {P W : Nat → Prop} {σ σ' : mS} {E : mEv} {R : mRn} (ha : ∀ s n, (s, n) ∈ nAc R → s < 6 ∧ n < 16) (h : sR σ E R) (K : mKp F B P W σ σ') (hF : ∀ k, F k → k < 6) (hB : ∀ b j, B b j → b < 91) (hP : ∀ p, P p → 19032 ≤ p) (hW : ∀ x, W x → 129 ≤ x) : sR σ' E R := by
  obtain ⟨z1, z2, ⟨⟨c1, c2, c3, c4, c5, c6⟩, z3⟩, z4, z5⟩ := h
  have nF : ∀ k, 6 ≤ k → ¬ F k := fun k hk z => by have := hF k z; omega
  have nB : ∀ b j, 91 ≤ b → ¬ B b j := fun b j hb z => by have := hB b j z; omega
  have nP : ∀ p, p < 19032 → ¬ P p := fun p hp z => by have := hP p z; omega
  have nW : ∀ x, x < 129 → ¬ W x := fun x hx z => by have := hW x z; omega
  refine ⟨z1.kp K ⟨nF 6 (by omega), nF 12 (by omega)⟩ (fun b j h1 _ => nB b j h1) (fun p hp => nP p (by omega)) (fun x hx => nW x (by omega)), (K.1 44 (nF _ (by omega))).trans z2, ⟨⟨(K.1 23 (nF _ (by omega))).trans c1, (K.1 24 (nF _ (by omega))).trans c2, (K.1 25 (nF _ (by omega))).trans c3, (K.1 26 (nF _ (by omega))).trans c4, (K.1 27 (nF _ (by omega))).trans c5, (K.1 28 (nF _ (by omega))).trans c6⟩, fun s hs => ⟨(K.2.1 106 _ (by decide) (nB _ _ (by omega))).trans (z3 s hs).1, fun e => ((z3 s hs).2 e).keep K (nW _ (by omega)) (fun p hp => nP p (by unfold aW at hp; omega))⟩⟩, fun i hi => ⟨(K.2.1 111 _ (by decide) (nB _ _ (by omega))).trans (z4 i hi).1, fun ws hw => ?_⟩, fun s hs => ⟨fun g => ?_, fun n hn hg => ?_⟩⟩
  · refine ((z4 i hi).2 ws hw).keep K (fun b j hb => nB _ _ (by unfold wdB at hb; omega)) (fun p hp => nP p ?_)
    have := ha (nAc R)[i].1 (nAc R)[i].2 (List.getElem_mem hi)
    unfold wA at hp; omega
  · obtain ⟨q1, ⟨ln, q2, q3⟩, q4⟩ := (z5 s hs).1 g
    refine ⟨(K.2.1 107 _ (by decide) (nB _ _ (by omega))).trans q1, ⟨ln, q2, fun p hp hb => ⟨(q3 p hp hb).1, (K.2.1 112 _ (by decide) (nB _ _ (by omega))).trans (q3 p hp hb).2⟩⟩, fun m hm => ?_⟩
    obtain ⟨b1, b2, b3, b4⟩ := q4 m hm
    exact ⟨b1, (K.2.1 108 _ (by decide) (nB _ _ (by omega))).trans b2, fun t ht => (b3 t ht).keep K (nW _ (by omega)) (fun p hp => nP p (by unfold wA at hp; omega)), fun hr ws hw => (b4 hr ws hw).keep K (fun b j hb => nB _ _ (by unfold wdB at hb; omega)) (fun p hp => nP p (by unfold wA at hp; omega))⟩
  · rw [K.2.1 108 _ (by decide) (nB _ _ (by omega))]; exact (z5 s hs).2 n hn hg
theorem CI.draft {hp' : mm_H} {D : List Nat} {x x' : Int32} {E : mEv} {tr sr : Nat → Nat} {R : mRn} {JL : Nat → List Value} {σ : mS} (h : CI hp D x E tr sr R JL) (M : mR hp σ) (F : cE (fun z => z = 1) hp hp') (hD : cD hp' [] x') : CI hp' [] x' E tr sr R JL ∧ mR hp' σ :=
  ⟨⟨F.at h.1 (by omega), hD, h.2.2.keepB F (h.qF.mono (fun x h => by unfold wF; omega)) (by omega) (by omega) (by omega) (fun y hy => by omega)⟩, F.mR M (fun y h1 h2 => by omega)⟩
theorem SI.draft {σ σ' : mS} {D : List Nat} {E : mEv} {tr sr : Nat → Nat} {R : mRn} (h : SI σ D E R) (hA : AI E tr sr R) (K : mKp (fun k => k = 3) mN2 (rP 0) (fun x => x = 141) σ σ') (hd : sD σ' []) : SI σ' [] E R := by
  have h6 := hA.1.2.2.1
  refine ⟨hd, h.2.1.kp K (by omega) (fun _ _ _ _ h => h) (fun p hp h => by unfold rP at h; omega) (fun x hx h => by omega), (K.1 44 (by decide)).trans h.2.2.1, h.2.2.2.1.bk (K.mono (fun k h => by omega) (fun _ _ h => h.elim) (fun p h => by unfold rP at h; omega) (fun x h => by omega)), fun e => ?_⟩
  have hR := (hA.2.1 e).1
  refine sR.kp (fun s n hm => ?_) (h.2.2.2.2 e) K (fun k h => by omega) (fun _ _ h => h.elim) (fun p h => by unfold rP at h; omega) (fun x h => by omega)
  obtain ⟨z1, z2, _⟩ := hR.2.2.2.1 s n hm
  have := hR.1
  exact ⟨by omega, z2⟩
theorem PC.draft {σ σ' : mS} {D : List Nat} {E : mEv} {t : Nat} (h : PC σ D E t) (K : mKp (fun k => k = 3) mN2 (rP 0) (fun x => x = 141) σ σ') : PC σ' [] E (t + 1) := by
  obtain ⟨p0, a, b, c⟩ := h.up.kp K (by decide) (fun p hp h => by unfold rP at h; omega) (fun x hx h => by omega)
  exact ⟨p0, a, by show p0 + 0 ≤ _; omega, c⟩
/-- the draft is gone and nothing else -/
theorem ob_drop {t : Nat} {km c w : Nat} {as : List Value} {hp' : mm_H} {D : List Nat} {x x' : Int32} {E : mEv} {tr sr : Nat → Nat} {R : mRn} {JL : Nat → List Value} {σ : mS} (hC : CI hp D x E tr sr R JL) (M : mR hp σ) (hS : SI σ D E R) (hA : AI E tr sr R) (hP : PC σ D E t) (hG : GI hp JL t) (ht : t < 512) (F : cE (fun z => z = 1) hp hp') (hH : cH c w hp hp') (hc : c ≤ 1100) (hw : w ≤ 14000) (hD : cD hp' [] x') (H : ∀ Q : Option Value → mS → Prop, (∀ σ', mKp (fun k => k = 3) mN2 (rP 0) (fun x => x = 141) σ σ' → sD σ' [] → Q (some (.int 0)) σ') → mM X 999 km 0 (mm_L0 km (.ref 86 :: as)) [] σ Q) : ∃ y, some (Value.int 0) = some (.int y) ∧ ∃ D x E tr sr R JL σ, CI hp' D x E tr sr R JL ∧ mR hp' σ ∧ AI E tr sr R ∧ GI hp' JL (t + 1) ∧ mM X 999 km 0 (mm_L0 km (.ref 86 :: as)) [] σ (fun r2 σ' => r2 = some (.int y) ∧ SI σ' D E R ∧ PC σ' D E (t + 1)) := by
  obtain ⟨hC', M'⟩ := hC.draft M F hD
  exact ⟨0, rfl, [], x', E, tr, sr, R, JL, σ, hC', M', hA, hG.h ht hH hc hw, H _ (fun σ' K hd => ⟨rfl, hS.draft hA K hd, hP.draft K⟩)⟩
def stP (st : mStp) (p : Nat) (u : mT) : mStp := (sTl st, sSr st, sMg st, sPk st, up (sPr st) p (some u), sRl st, sMk st, sMe st)
def stR (st : mStp) (p : Nat) (D : List Nat) : mStp := (sTl st, sSr st, sMg st, sPk st, sPr st, up (sRl st) p (some D), sMk st, sMe st)
theorem stP_ok {st : mStp} {p : Nat} {u : mT} (h : sOk st) (hu : mt_gd u) : sOk (stP st p u) := by
  obtain ⟨h1, h2, h3, h4⟩ := h
  refine ⟨h1, h2, fun q v e => ?_, h4⟩
  have e : up (sPr st) p (some u) q = some v := e
  by_cases z : q = p
  · subst z; rw [up_eq] at e; cases e; exact hu
  · rw [up_ne z] at e; exact h3 q v e
theorem stR_ok {st : mStp} {p : Nat} {D : List Nat} {is : List mIt} (h : sOk st) (hD : mD_ok D) (hr : rR D = some is) : sOk (stR st p D) := by
  obtain ⟨h1, h2, h3, h4, h5⟩ := h
  refine ⟨h1, h2, h3, fun q v e => ?_, h5⟩
  have e : up (sRl st) p (some D) q = some v := e
  by_cases z : q = p
  · subst z; rw [up_eq] at e; cases e; exact ⟨hD, is, hr⟩
  · rw [up_ne z] at e; exact h4 q v e
/-- the flag of a call on a step and a port, in the reference -/
theorem good_sp {σ : mS} {Q : Option Value → mS → Prop} {D : List Nat} {E : mEv} {tr sr : Nat → Nat} {R : mRn} {y1 y2 : Int32} {km pc : Nat} {L : mm_L} (hS : SI σ D E R) (hA : AI E tr sr R)
    (H1 : nSt R ≠ 1 → ∀ s p : Nat, y1 = nI s → s < (eSp E).length → y2 = nI p → p < 4 → mM X (d + 2) km pc L [.int 1] σ Q)
    (H0 : (nSt R = 1 ∨ noS E y1 ∨ noP y2) → mM X (d + 2) km pc L [.int 0] σ Q) :
    mM X (d + 1) 126 0 (mm_L0 126 [(.ref 86)]) [] σ (mi_K (fun x2 σ1 => ((x2 = (0 : Int32) → mM X (d + 2) km pc L [.int (0 : Int32)] σ1 Q) ∧ (¬ x2 = (0 : Int32) → mM X (d + 1) 131 0 (mm_L0 131 [(.ref 86), .int y1]) [] σ1 (mi_K (fun x4 σ3 => ((x4 = (0 : Int32) → mM X (d + 2) km pc L [.int (0 : Int32)] σ3 Q) ∧ (¬ x4 = (0 : Int32) → mM X (d + 1) 127 0 (mm_L0 127 [.int y2, .int (0 : Int32), .int (3 : Int32)]) [] σ3 (mi_K (fun x6 σ5 => ((x6 = (0 : Int32) → mM X (d + 2) km pc L [.int (0 : Int32)] σ5 Q) ∧ (¬ x6 = (0 : Int32) → mM X (d + 2) km pc L [.int (1 : Int32)] σ5 Q)))))))))))) := by
  have h6 := hA.1.2.2.1
  refine t126 hS.2.2.2.1.1.1 hA.2.2.2.1 (fun n1 => ⟨_, rfl, fun z => absurd z (by decide), fun _ => ?_⟩) (fun e => ⟨_, rfl, fun _ => H0 (Or.inl e), fun z => absurd rfl z⟩)
  refine t131 hS.2.1 h6 (fun s es hs => ⟨_, rfl, fun z => absurd z (by decide), fun _ => ?_⟩) (fun hno => ⟨_, rfl, fun _ => H0 (Or.inr (Or.inl hno)), fun z => absurd rfl z⟩)
  exact t127 (lo := 0) (hi := 3) rfl rfl (by omega) (by omega) (fun p ep _ hp3 => ⟨_, rfl, fun z => absurd z (by decide), fun _ => H1 n1 s p es hs ep (by omega)⟩) (fun hno => ⟨_, rfl, fun _ => H0 (Or.inr (Or.inr (fun p hp => hno p (by omega) (by omega)))), fun z => absurd rfl z⟩)
theorem hso3 {E : mEv} {tr sr : Nat → Nat} {R : mRn} (hA : AI E tr sr R) : ∀ k, k < 6 → ∀ p, (sSr (eSt E k) p).length ≤ 3 := fun k hk p => by
  by_cases g : k < (eSp E).length
  · exact ((hA.1.1.2.1 k g).1 p).1
  · have : eSt E k = s0 := by show (eSp E).getD k s0 = s0; rw [List.getD_eq_getElem?_getD, List.getElem?_eq_none (by omega)]; rfl
    rw [this]; exact Nat.zero_le _
theorem ob_preset {y1 y2 : Int32} (I : IV X t hp) (ht : t < 512) : mL_ob X (IV X) t hp 27 133 [.int y1, .int y2] := by
  obtain ⟨D, x, E, tr, sr, R, JL, σ, hC, M, hS, hA, hP, hG⟩ := I
  have h6 := hA.1.2.2.1
  obtain ⟨p0, q1, q2, q3⟩ := id hP
  have h512 := Nat.min_le_right t 512
  have mt1 : min (t + 1) 512 = t + 1 := by omega
  have hD60 := hS.1.1.1
  have ref : ∀ Q : Option Value → mS → Prop, (nSt R ≠ 1 → ∀ s p : Nat, y1 = nI s → s < (eSp E).length → y2 = nI p → p < 4 → ∀ u, pD D = some u → ∀ σ', mKp (fun k => k = 1 ∨ k = 3) (fun b j => b = 103 ∧ j = 4 * s + p) (fun q => kA p0 (mt_tl (mt_tk u 0)) q ∨ rP 0 q) (fun x => x = 3 + (4 * s + p) ∨ x = 141) σ σ' → sD σ' [] → σ'.1 1 = nI (p0 + mt_tl (mt_tk u 0)) → mSlot σ' (kA p0 (mt_tl (mt_tk u 0))) (3 + (4 * s + p)) (mt_tk u 0) → σ'.2.1 103 (4 * s + p) = 1 → Q (some (.int 1)) σ') → ((nSt R = 1 ∨ noS E y1 ∨ noP y2 ∨ pD D = none) → ∀ σ', mKp (fun k => k = 3) mN2 (rP 0) (fun x => x = 141) σ σ' → sD σ' [] → Q (some (.int 0)) σ') → mM X 999 133 0 (mm_L0 133 [.ref 86, .int y1, .int y2]) [] σ Q := by
    intro Q H1 H0
    refine u133_0 (good_sp (X := X) (d := 997) hS hA (fun n1 s p es hs ep hp4 => ?_) (fun hb => ?_))
    · subst es; subst ep
      refine u133_29 ⟨fun z => absurd z (by decide), fun _ => u133_47 ?_⟩
      rw [show (3 : Int32) + (4 : Int32) * nI s + nI p = nI (3 + (4 * s + p)) by rw [show (4 : Int32) = nI 4 from rfl, show (3 : Int32) = nI 3 from rfl, pk_mul, nI_add, nI_add, Nat.add_assoc], show (4 : Int32) * nI s + nI p = nI (4 * s + p) by rw [show (4 : Int32) = nI 4 from rfl, pk_mul, nI_add]]
      refine t134 (d := 991) (Or.inr rfl) hS.1 (by omega) q1 (by omega) (fun _ u hu σ' K hd g1 g2 => ⟨_, rfl, fun z => absurd z (by decide), fun _ => ⟨m_ix (by omega) (by decide), Or.inr rfl, ?_⟩⟩) (fun hb σ' K hd => ⟨_, rfl, fun _ => ⟨Or.inl rfl, H0 ?_ σ' K hd⟩, fun z => absurd rfl z⟩)
      · rintro σ4 rfl
        rw [uI_e (by omega)]
        have K4 : mKp mN1 (fun b j => b = 103 ∧ j = 4 * s + p) mN1 mN1 σ' (uI σ' 103 (4 * s + p) 1) := uI_kp (by decide) ⟨rfl, rfl⟩
        refine ⟨Or.inr rfl, H1 n1 s p rfl hs rfl hp4 u hu _ ((K.mono (fun _ h => h) (fun _ _ h => h.elim) (fun _ h => h) (fun _ h => h)).tr (K4.mono (fun _ h => h.elim) (fun _ _ h => h) (fun _ h => h.elim) (fun _ h => h.elim))) (hd.keep K4 id (fun j h => by omega)) ((K4.1 1 id).trans g1) (g2.keep K4 id (fun _ _ h => h)) (by rw [uI_at, if_pos ⟨rfl, rfl⟩])⟩
      · rcases hb with z | z
        · exact absurd z (by decide)
        · exact Or.inr (Or.inr (Or.inr z))
    · refine u133_29 ⟨fun _ => u133_47 ?_, fun z => absurd rfl z⟩
      refine t134 (d := 991) (s := 0) (Or.inl rfl) hS.1 (by omega) q1 (by omega) (fun z => absurd z (by decide)) (fun _ σ' K hd => ⟨_, rfl, fun _ => ⟨Or.inl rfl, H0 ?_ σ' K hd⟩, fun z => absurd rfl z⟩)
      rcases hb with z | z | z
      · exact Or.inl z
      · exact Or.inr (Or.inl z)
      · exact Or.inr (Or.inr (Or.inl z))
  have bad : (nSt R = 1 ∨ noS E y1 ∨ noP y2 ∨ pD D = none) → ∀ hp' x', cE (fun z => z = 1) hp hp' → cG 122 hp hp' → cD hp' [] x' → ∃ y, some (Value.int 0) = some (.int y) ∧ ∃ D x E tr sr R JL σ, CI hp' D x E tr sr R JL ∧ mR hp' σ ∧ AI E tr sr R ∧ GI hp' JL (t + 1) ∧ mM X 999 133 0 (mm_L0 133 [.ref 86, .int y1, .int y2]) [] σ (fun r2 σ' => r2 = some (.int y) ∧ SI σ' D E R ∧ PC σ' D E (t + 1)) := fun hb hp' x' F G hD' => ob_drop hC M hS hA hP hG ht F G.h (by omega) (by omega) hD' (fun Q HQ => ref Q (fun n1 s p es hs ep hp4 u hu σ' _ _ _ _ _ => by
    exfalso
    rcases hb with z | z | z | z
    · exact n1 z
    · exact z s hs es
    · exact z p hp4 ep
    · rw [hu] at z; cases z) (fun _ => HQ))
  obtain ⟨_, d1, _⟩ := id hC.2.1
  refine ob_of rfl (w27_0 ⟨_, _, _, rfl, hC.1, rfl, ⟨_, _, rfl, d1⟩, k28 (d := 972) hC.2.1 hC.2.2.2.2.2 (fun u hu hgu hp' q x' hq F G hD' T => ?_) (fun hu hp' x' F G hD' => ?_)⟩)
  · obtain ⟨hC', M'⟩ := hC.draft M F hD'
    refine ⟨_, rfl, rfl, ⟨_, _, rfl, hC'.1⟩, k23 hC' hA (fun n1 s es hs => ⟨_, rfl, rfl, Or.inr ⟨⟨_, rfl⟩, Or.inr ⟨⟨_, rfl⟩, k24 (fun p ep hp4 => ⟨_, rfl, fun _ => ?_, fun z => absurd z (by decide)⟩) (fun hno => ⟨_, rfl, fun z => absurd rfl z, fun _ => bad (Or.inr (Or.inr (Or.inl hno))) hp' x' F G hD'⟩)⟩⟩⟩) (fun hno => ⟨_, rfl, rfl, Or.inr ⟨⟨_, rfl⟩, Or.inl ⟨rfl, bad (by rcases hno with z | z; exact Or.inl z; exact Or.inr (Or.inl z)) hp' x' F G hD'⟩⟩⟩)⟩
    obtain ⟨_, ⟨_, _, n, c1, c2, c3, c4⟩, _⟩ := id hC'.2.2
    obtain ⟨d1, d2, d3, d4⟩ := c4 s hs
    have hso := hA.1.1.2.1 s hs
    obtain ⟨cond, srcs, ps, rs, h0, h1, hl, h2, h3, h4, h5, h6', h7, h8, h9, h10, h11⟩ := id d4
    have l5 := (List.getElem?_eq_some_iff.mp h6').1
    obtain ⟨vs, htag⟩ := T.tag
    have h113 := hC.2.2.2.2.2
    rw [ep]
    refine ⟨_, _, _, rfl, h0, rfl, _, _, _, rfl, h6', by decide, rfl, nI_pos' (by omega), by rw [nI_clamp (by omega)]; exact hp4, Or.inr ⟨_, _, _, rfl, htag, by decide, by decide⟩, ?_⟩
    rw [nI_clamp (by omega), row4_set hp4]
    generalize e12 : hp'.set (sr s + 5) (2002, row4 (fun j => if j = p then .ref q else ps j)) = hp2
    have F2 : cE (fun x => x = sr s + 5) hp' hp2 := by subst e12; exact cE.set rfl
    have hH2 : cH 0 0 hp' hp2 := by subst e12; exact ⟨by rw [List.length_set]; exact Nat.le_refl _, Nat.le_of_eq (mm_sz_set h6' (by rfl))⟩
    have g5 : hp2[sr s + 5]? = some (2002, row4 (fun j => if j = p then .ref q else ps j)) := by subst e12; rw [List.getElem?_set_self l5]
    have F' : cE (wSt (sr s)) hp' hp2 := F2.mono (fun x _ h => by unfold wSt; omega)
    obtain ⟨kt, kr⟩ := d4.parts d2 F'
    have T' : cT cS hp' u q := T.mono (fun z _ hz => by unfold cS; omega)
    have C : cSt hp2 (sr s) (tr (sTl (eSt E s))) (stP (eSt E s) p u) := by
      refine ⟨cond, srcs, (fun j => if j = p then .ref q else ps j), rs, F2.at h0 (by omega), F2.at h1 (by omega), hl, h2, F2.at h3 (by omega), F2.at h4 (by omega), F2.at h5 (by omega), g5, F2.at h7 (by omega), fun i hi => ?_, fun i hi => ?_, ?_, h11⟩
      · by_cases e : i = p
        · subst e
          exact Or.inr ⟨u, q, up_eq _ _ _, if_pos rfl, by unfold cS; omega, kt T'⟩
        · rcases h8 i hi with ⟨z1, z2⟩ | ⟨v, y, z1, z2, z3, z4⟩
          · exact Or.inl ⟨(up_ne e).trans z1, (if_neg e).trans z2⟩
          · exact Or.inr ⟨v, y, (up_ne e).trans z1, (if_neg e).trans z2, z3, kt z4⟩
      · rcases h9 i hi with z | ⟨D, is, y, z1, z2, z3, z4, z5⟩
        · exact Or.inl z
        · exact Or.inr ⟨D, is, y, z1, z2, z3, kr z4, z5⟩
      · rcases h10 with z | ⟨D, is, y, z1, z2, z3, z4, z5⟩
        · exact Or.inl z
        · exact Or.inr ⟨D, is, y, z1, z2, z3, kr z4, z5⟩
    obtain ⟨hC2, M2⟩ := hC'.setS (st := stP (eSt E s) p u) M' hA hs F' rfl C
    have hsz := pD_sz hS.1.1 hu
    have goal : ∃ y, some (Value.int 1) = some (.int y) ∧ ∃ D x E tr sr R JL σ, CI hp2 D x E tr sr R JL ∧ mR hp2 σ ∧ AI E tr sr R ∧ GI hp2 JL (t + 1) ∧ mM X 999 133 0 (mm_L0 133 [.ref 86, .int y1, .int y2]) [] σ (fun r2 σ' => r2 = some (.int y) ∧ SI σ' D E R ∧ PC σ' D E (t + 1)) := by
      refine ⟨1, rfl, [], x', eSet E s (stP (eSt E s) p u), tr, sr, R, JL, σ, hC2, M2, hA.set n1 hs rfl (stP_ok hso hgu), hG.h ht (G.h.tr hH2) (by omega) (by omega), ref _ (fun _ s' p' es' hs' ep' hp4' u' hu' σ' K hd g1 g2 g3 => ?_) (fun hb => ?_)⟩
      · have a := (nI_eq (by omega) (by omega)).mp (es.symm.trans es')
        have b := (nI_eq (by omega) (by omega)).mp (ep.symm.trans ep')
        have c := Option.some.inj (hu.symm.trans hu')
        subst a; subst b; subst c
        have hs6 : s < 6 := by omega
        obtain ⟨a1, a2, a3, a4, a5⟩ := hS.2.1.2.2.2.1 s hs6
        have S1 : sEs1 σ' s (stP (eSt E s) p u) := by
          refine ⟨(K.2.1 96 _ (by decide) (by omega)).trans a1, (K.2.1 97 _ (by decide) (by omega)).trans a2, (K.2.1 98 _ (by decide) (by omega)).trans a3, a4.k K (by omega) (fun j _ _ => by omega), fun i hi => ?_⟩
          obtain ⟨b1, b2, b3, b4, b5, b6⟩ := a5 i hi
          refine ⟨(K.2.1 99 _ (by decide) (by omega)).trans b1, fun k hk => (K.2.1 100 _ (by decide) (by omega)).trans (b2 k hk), (K.2.1 101 _ (by decide) (by omega)).trans b3, (K.2.1 102 _ (by decide) (by omega)).trans b4, b5.k K (by omega) (fun j _ _ => by omega), ?_⟩
          by_cases e : i = p
          · subst e
            exact Or.inr ⟨u, up_eq _ _ _, g3, g2.weak (fun z hz => by unfold kA at hz; unfold aP; omega)⟩
          · rcases b6 with ⟨z1, z2⟩ | ⟨v, z1, z2, z3⟩
            · exact Or.inl ⟨(up_ne e).trans z1, (K.2.1 103 _ (by decide) (by omega)).trans z2⟩
            · refine Or.inr ⟨v, (up_ne e).trans z1, (K.2.1 103 _ (by decide) (by omega)).trans z2, ?_⟩
              exact ((q3.2 s i v hs6 hi z1).keep K (by omega) (fun z hz hP' => by unfold kA rP at hP'; omega)).weak (fun z hz => by show z < 600; omega)
        obtain ⟨e1, e2, e3⟩ := hS.2.1.setS (st := stP (eSt E s) p u) q3 (by omega) hs h6 (hso3 hA) K (by omega) (fun b j _ _ h => by unfold sB; omega) (fun z hz hP' => by unfold kA rP at hP'; omega) (fun x hx h => by omega) S1
        refine ⟨rfl, ⟨hd, e1, (K.1 44 (by omega)).trans hS.2.2.1, hS.2.2.2.1.bk (K.mono (fun k h => by omega) (fun b j h => by omega) (fun z h => by unfold kA rP at h; omega) (fun x h => by omega)), fun z => absurd z n1⟩, p0 + mt_tl (mt_tk u 0), g1, by show _ + 0 ≤ _; omega, fun c hc => (e2 c hc).weak (fun z hz => by omega), fun k i v hk hi ev => ?_⟩
        rw [eSt_set hs] at ev
        by_cases ek : k = s
        · subst ek
          rw [if_pos rfl] at ev
          have ev : up (sPr (eSt E k)) p (some u) i = some v := ev
          by_cases e : i = p
          · subst e
            rw [up_eq] at ev
            cases ev
            exact g2.weak (fun z hz => by unfold kA at hz; omega)
          · rw [up_ne e] at ev
            exact ((q3.2 k i v hk hi ev).keep K (by omega) (fun z hz hP' => by unfold kA rP at hP'; omega)).weak (fun z hz => by omega)
        · rw [if_neg ek] at ev
          exact (e3 k i v hk hi ek ev).weak (fun z hz => by omega)
      · exfalso
        rcases hb with z | z | z | z
        · exact n1 z
        · exact z s hs es
        · exact z p hp4 ep
        · rw [hu] at z; cases z
    rw [ep] at goal
    exact goal
  · obtain ⟨hC', M'⟩ := hC.draft M F hD'
    exact ⟨_, rfl, rfl, ⟨_, _, rfl, hC'.1⟩, k23 hC' hA (fun n1 s es hs => ⟨_, rfl, rfl, Or.inl ⟨rfl, bad (Or.inr (Or.inr (Or.inr hu))) hp' x' F G hD'⟩⟩) (fun hno => ⟨_, rfl, rfl, Or.inl ⟨rfl, bad (Or.inr (Or.inr (Or.inr hu))) hp' x' F G hD'⟩⟩)⟩
end ODR
