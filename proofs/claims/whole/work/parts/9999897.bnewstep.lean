/-! STEP IS OWED -/
section OSP
variable {X : List Int32} {t d : Nat} {hp : mm_H} {Q : Option Value → mm_H → Prop}
def sNew (i : Nat) : mStp := (i, fun _ => [], fun _ => 0, fun _ => 0, fun _ => none, fun _ => none, 0, 0)
def eSpS (E : mEv) (i : Nat) : mEv := (eIn E, eTl E, eSp E ++ [sNew i])
theorem eSt_snoc {E : mEv} {i : Nat} (k : Nat) : eSt (eSpS E i) k = if k = (eSp E).length then sNew i else eSt E k := getD_snoc ..
theorem eSp_snoc {E : mEv} {i : Nat} : (eSp (eSpS E i)).length = (eSp E).length + 1 := by show (eSp E ++ [sNew i]).length = _; rw [List.length_append]; rfl
theorem sNew_ok (i : Nat) : sOk (sNew i) := ⟨fun p => ⟨Nat.zero_le _, fun c hc => nomatch hc⟩, fun p => ⟨Nat.zero_le _, Nat.zero_le _⟩, fun p t e => absurd (show (none : Option mT) = some t from e) (fun z => nomatch z), fun p D e => absurd (show (none : Option (List Nat)) = some D from e) (fun z => nomatch z), Nat.zero_le _, Nat.zero_le _⟩
theorem ob_newstep {y1 : Int32} (I : IV X t hp) (ht : t < 512) : mL_ob X (IV X) t hp 20 129 [.int y1] := by
  obtain ⟨D, x, E, tr, sr, R, JL, σ, hC, M, hS, hA, hP, hG⟩ := I
  have h6 := hA.1.2.2.1
  have h4 := hA.1.2.1
  have ref : ∀ Q : Option Value → mS → Prop, (nSt R ≠ 1 → ∀ k : Nat, y1 = nI k → k < (eTl E).length → (eSp E).length < 6 → ∀ σ', σ' = mSet (uI σ 96 (eSp E).length (nI k)) 12 (nI ((eSp E).length + 1)) → Q (some (.int (nI (eSp E).length))) σ') → ((nSt R = 1 ∨ (eSp E).length = 6 ∨ (∀ k : Nat, k < (eTl E).length → y1 ≠ nI k)) → Q (some (.int (-1))) σ) → mM X 999 129 0 (mm_L0 129 [.ref 86, .int y1]) [] σ Q := by
    intro Q H1 H0
    refine u129_0 (t126 hS.2.2.2.1.1.1 hA.2.2.2.1 (fun n1 => ⟨_, rfl, fun z => absurd z (by decide), fun _ => ?_⟩) (fun e => ⟨_, rfl, fun _ => H0 (Or.inl e), fun z => absurd rfl z⟩))
    rw [hS.2.1.2.1, hS.2.1.1]
    refine pk_eq (eSp E).length 6 (fun e => H0 (Or.inr (Or.inl e))) (fun ne => ?_)
    rcases nI_arg y1 (L := (eTl E).length) (by omega) with ⟨k, ek, hk⟩ | ⟨h, hno⟩
    · subst ek
      refine ⟨fun g => absurd g (nI_pos (by omega)), fun _ => pk_lt k (eTl E).length (fun _ => ⟨m_ix (by omega) (by decide), ?_⟩) (fun g => absurd g (by omega))⟩
      rintro σ6 rfl
      rw [uI_e (by omega)]
      rintro σ7 rfl
      have e6 : (uI σ 96 (eSp E).length (nI k)).1 12 + 1 = nI ((eSp E).length + 1) := by
        show σ.1 12 + 1 = _
        rw [hS.2.1.2.1, nI_1]
      rw [e6]
      have := H1 n1 k rfl hk (by omega) _ rfl
      rw [mSet_g, if_pos rfl, show (1 : Int32) = nI 1 from rfl, pk_sub (by omega), Nat.add_sub_cancel]
      exact this
    · have b := H0 (Or.inr (Or.inr hno))
      exact ⟨fun _ => b, fun g => ⟨fun g2 => absurd (h.resolve_left g) (Int32.not_le.mpr g2), fun _ => b⟩⟩
  have bad : (nSt R = 1 ∨ (eSp E).length = 6 ∨ (∀ k : Nat, k < (eTl E).length → y1 ≠ nI k)) → ∃ y, some (Value.int (-1)) = some (.int y) ∧ ∃ D x E tr sr R JL σ, CI hp D x E tr sr R JL ∧ mR hp σ ∧ AI E tr sr R ∧ GI hp JL (t + 1) ∧ mM X 999 129 0 (mm_L0 129 [.ref 86, .int y1]) [] σ (fun r2 σ' => r2 = some (.int y) ∧ SI σ' D E R ∧ PC σ' D E (t + 1)) := fun hb => ob_same hC M hS hA hP hG (fun Q HQ => ref Q (fun n1 k ek hk hl σ' _ => by
    exfalso
    rcases hb with z | z | z
    · exact n1 z
    · omega
    · exact z k hk ek) (fun _ => HQ))
  have rn := hC.2.2.2.2.1
  obtain ⟨⟨s1, i1, r12, _⟩, _⟩ := id rn
  refine ob_of rfl (w20_0 ⟨_, _, _, rfl, hC.1, rfl, ⟨_, _, rfl, r12⟩, k16 rn hA.2.2.2.1 ⟨_, rfl, ?_⟩⟩)
  by_cases e1 : nSt R = 1
  · rw [if_pos e1]; exact ⟨fun _ => bad (Or.inl e1), fun z => absurd z (by decide)⟩
  rw [if_neg e1]
  refine ⟨fun z => absurd rfl z, fun _ => ⟨_, _, _, rfl, hC.1, rfl, pk_le 6 (eSp E).length (fun g => bad (Or.inr (Or.inl (by omega)))) (fun hl => ?_)⟩⟩
  rcases nI_arg y1 (L := (eTl E).length) (by omega) with ⟨k, ek, hk⟩ | ⟨h, hno⟩
  · rw [ek]
    obtain ⟨xx, ⟨⟨l, a1, a2, a3⟩, ⟨m, b1, b2, b3, b4⟩, ⟨n, c1, c2, c3, c4⟩⟩, rn', hl'⟩ := id hC.2.2
    obtain ⟨bk1, bk2, bk3⟩ := b4 k hk
    refine ⟨fun g => absurd g (nI_pos (by omega)), fun _ => ⟨_, _, _, rfl, hC.1, rfl, pk_lt k (eTl E).length (fun _ => ?_) (fun g => absurd g (by omega))⟩⟩
    refine ⟨_, _, _, rfl, hC.1, rfl, mw_avr b1 (by decide) rfl bk1 rfl (by omega) ⟨rfl, Or.inr ⟨⟨_, rfl⟩, _, _, _, rfl, hC.1, rfl, _, _, _, rfl, hC.1, rfl, ?_⟩⟩⟩
    rintro q8 hp9 rfl rfl
    refine ⟨rfl, k21 ⟨rfl, ?_⟩⟩
    generalize eA : hp ++ [((7 : Nat), [Value.ref (tr k), .ref (hp.length + 1), .ref (hp.length + 2), .ref (hp.length + 3), .ref (hp.length + 4), .ref (hp.length + 5), .ref (hp.length + 6), .null, .int 0, .int 0]), (1000, List.replicate 12 (.int 0)), (1000, z4), (1000, z4), (1000, z4), (2002, n4), (2008, n4)] = hpA
    have FA : cE (fun _ => False) hp hpA := by subst eA; exact cE.app
    have t0 : hpA[hp.length + 0]? = some (7, [Value.ref (tr k), .ref (hp.length + 1), .ref (hp.length + 2), .ref (hp.length + 3), .ref (hp.length + 4), .ref (hp.length + 5), .ref (hp.length + 6), .null, .int 0, .int 0]) := by subst eA; exact app_at rfl
    have t1 : hpA[hp.length + 1]? = some (1000, List.replicate 12 (.int 0)) := by subst eA; exact app_at rfl
    have t2 : hpA[hp.length + 2]? = some (1000, z4) := by subst eA; exact app_at rfl
    have t3 : hpA[hp.length + 3]? = some (1000, z4) := by subst eA; exact app_at rfl
    have t4 : hpA[hp.length + 4]? = some (1000, z4) := by subst eA; exact app_at rfl
    have t5 : hpA[hp.length + 5]? = some (2002, n4) := by subst eA; exact app_at rfl
    have t6 : hpA[hp.length + 6]? = some (2008, n4) := by subst eA; exact app_at rfl
    have lA : hpA.length = hp.length + 7 := by subst eA; rw [List.length_append]; rfl
    have sA : mm_sz hpA ≤ mm_sz hp + 42 := by
      subst eA
      unfold mm_sz
      rw [List.map_append, List.sum_append]
      exact Nat.le_refl _
    have m1 : hpA[11]? = some (2007, n) := FA.at c1 id
    have h0A : hpA[0]? = some (0, [.ref 1, .ref 3, .ref 10, .int (nI (eTl E).length), .ref 11, .int (nI (eSp E).length), .ref 12]) := FA.at hC.1 id
    have l10 := (List.getElem?_eq_some_iff.mp m1).1
    have l0 := (List.getElem?_eq_some_iff.mp h0A).1
    refine ⟨_, _, _, rfl, m1, by decide, rfl, nI_pos' (by omega), by rw [nI_clamp (by omega), c2]; exact hl, Or.inr ⟨_, _, _, rfl, t0, by decide, by decide⟩, ?_⟩
    rw [nI_clamp (by omega)]
    have h0B : (hpA.set 11 (2007, n.set (eSp E).length (.ref hp.length)))[0]? = some (0, [.ref 1, .ref 3, .ref 10, .int (nI (eTl E).length), .ref 11, .int (nI (eSp E).length), .ref 12]) := by rw [List.getElem?_set_ne (by decide)]; exact h0A
    refine ⟨_, _, _, rfl, h0B, rfl, _, _, rfl, h0B, by show 5 < 7; decide, rfl, ?_⟩
    rw [nI_1]
    generalize e12 : (hpA.set 11 (2007, n.set (eSp E).length (.ref hp.length))).set 0 (0, ([.ref 1, .ref 3, .ref 10, .int (nI (eTl E).length), .ref 11, .int (nI (eSp E).length), .ref 12] : List Value).set 5 (.int (nI ((eSp E).length + 1)))) = hp2
    have F2 : cE (fun x => x = 0 ∨ x = 11) hp hp2 := by
      subst e12
      exact ((FA.mono (fun _ _ h => h.elim)).tr (cE.set (Or.inr rfl))).tr (cE.set (Or.inl rfl))
    have lB : (hpA.set 11 (2007, n.set (eSp E).length (.ref hp.length))).length = hpA.length := List.length_set ..
    have g0 : hp2[0]? = some (0, [.ref 1, .ref 3, .ref 10, .int (nI (eTl E).length), .ref 11, .int (nI ((eSp E).length + 1)), .ref 12]) := by subst e12; rw [List.getElem?_set_self (by rw [lB]; exact l0)]; rfl
    have g11 : hp2[11]? = some (2007, n.set (eSp E).length (.ref hp.length)) := by subst e12; rw [List.getElem?_set_ne (by decide), List.getElem?_set_self l10]
    have hi2 : ∀ i, 12 ≤ i → hp2[i]? = hpA[i]? := fun i hi => by subst e12; rw [List.getElem?_set_ne (by omega), List.getElem?_set_ne (by omega)]
    have hH : cH 7 42 hp hp2 := by
      subst e12
      refine ⟨by rw [List.length_set, List.length_set, lA]; exact Nat.le_refl _, ?_⟩
      have := Nat.le_of_eq ((mm_sz_set h0B (c' := (0, ([.ref 1, .ref 3, .ref 10, .int (nI (eTl E).length), .ref 11, .int (nI (eSp E).length), .ref 12] : List Value).set 5 (.int (nI ((eSp E).length + 1))))) (by rfl)).trans (mm_sz_set m1 (c' := (2007, n.set (eSp E).length (.ref hp.length))) (by rw [List.length_set])))
      exact Nat.le_trans this sA
    refine ⟨_, _, _, rfl, g0, rfl, ?_⟩
    have qb : qB hp (fun x => x = 0 ∨ x = 11) := hC.qF.mono (fun x h => by unfold wF; omega)
    have hCst : cSt hp2 hp.length (tr k) (sNew k) := by
      refine ⟨.null, List.replicate 12 (.int 0), fun _ => .null, fun _ => .null, ?_, ?_, rfl, fun p hp4 n hn => absurd hn (Nat.not_lt_zero _), ?_, ?_, ?_, ?_, ?_, fun p _ => Or.inl ⟨rfl, rfl⟩, fun p _ => Or.inl ⟨rfl, rfl⟩, Or.inl ⟨rfl, rfl⟩, fun v hv => ⟨0, List.eq_of_mem_replicate hv⟩⟩
      · rw [hi2 _ (by omega)]; exact t0
      · rw [hi2 _ (by omega)]; exact t1
      · rw [hi2 _ (by omega)]; exact t2
      · rw [hi2 _ (by omega)]; exact t3
      · rw [hi2 _ (by omega)]; exact t4
      · rw [hi2 _ (by omega)]; exact t5
      · rw [hi2 _ (by omega)]; exact t6
    have hC2 : CI hp2 D x (eSpS E k) tr (up sr (eSp E).length hp.length) R JL := by
      refine ⟨by unfold cSr; rw [eSp_snoc]; exact g0, hC.2.1.keep F2 (by omega) (by omega), xx.keepB F2 qb, ⟨⟨l, F2.at a1 (by omega), a2, fun c hc => ?_⟩, ⟨m, F2.at b1 (by omega), b2, b3, fun i hi => ?_⟩, ⟨_, g11, by rw [List.length_set]; exact c2, by rw [eSp_snoc]; omega, fun i hi => ?_⟩⟩, rn'.keepB F2 qb, Nat.le_trans hl' F2.1⟩
      · obtain ⟨y, e1, e2, e3⟩ := a3 c hc
        exact ⟨y, e1, e2, cT.keepT F2 qb.nv e3⟩
      · obtain ⟨e1, e2, e3⟩ := b4 i hi
        exact ⟨e1, e2, e3.keep F2 (fun y _ _ => by omega)⟩
      · rw [eSp_snoc] at hi
        rw [eSt_snoc]
        by_cases e : i = (eSp E).length
        · subst e
          rw [up_eq, if_pos rfl]
          exact ⟨List.getElem?_set_self (by omega), hl', hk, hCst⟩
        · rw [up_ne e, if_neg e]
          obtain ⟨e1, e2, e3, e4⟩ := c4 i (by omega)
          exact ⟨by rw [List.getElem?_set_ne (fun z => e z.symm)]; exact e1, e2, e3, e4.keepB F2 qb (fun j hj => by omega)⟩
    have M2 : mR hp2 σ := F2.mR M (fun y h1 h2 => by omega)
    have hA2 : AI (eSpS E k) tr (up sr (eSp E).length hp.length) R := by
      obtain ⟨⟨⟨o1, o2, o3⟩, f2, f3, f4, f5⟩, a2', a3', a4', a5', a6', a7', a8', a9', a10', a11'⟩ := id hA
      refine ⟨⟨⟨o1, fun i hi => ?_, o3⟩, f2, by rw [eSp_snoc]; omega, fun s hs => ?_, f5⟩, fun z => absurd z e1, a3', a4', a5', a6', by rw [eSp_snoc]; omega, a8', a9', fun i j hi hj e => ?_, a11'⟩
      · rw [eSp_snoc] at hi
        rw [eSt_snoc]
        split
        · exact sNew_ok k
        · exact o2 i (by omega)
      · rw [eSp_snoc] at hs
        rw [eSt_snoc]
        split
        · exact hk
        · exact f4 s (by omega)
      · rw [eSp_snoc] at hi hj
        have lt : ∀ i, i < (eSp E).length → sr i < hp.length := fun i hi => by
          obtain ⟨_, _, _, _, _, _, _, h0, _⟩ := c4 i hi
          exact (List.getElem?_eq_some_iff.mp h0).1
        by_cases ei : i = (eSp E).length
        · by_cases ej : j = (eSp E).length
          · omega
          · rw [ei, up_eq, up_ne ej] at e
            have := lt j (by omega); omega
        · by_cases ej : j = (eSp E).length
          · rw [ej, up_eq, up_ne ei] at e
            have := lt i (by omega); omega
          · rw [up_ne ei, up_ne ej] at e
            exact a10' i j (by omega) (by omega) e
    have goal : ∃ y, some (Value.int (nI (eSp E).length)) = some (.int y) ∧ ∃ D x E tr sr R JL σ, CI hp2 D x E tr sr R JL ∧ mR hp2 σ ∧ AI E tr sr R ∧ GI hp2 JL (t + 1) ∧ mM X 999 129 0 (mm_L0 129 [.ref 86, .int y1]) [] σ (fun r2 σ' => r2 = some (.int y) ∧ SI σ' D E R ∧ PC σ' D E (t + 1)) := by
      refine ⟨_, rfl, D, x, eSpS E k, tr, _, R, JL, σ, hC2, M2, hA2, hG.h ht hH (by omega) (by omega), ref _ (fun _ k' ek' hk' hl'' σ' eσ => ?_) (fun hb => ?_)⟩
      · have a := (nI_eq (by omega) (by omega)).mp (ek.symm.trans ek')
        subst a
        have K : mKp (fun z => z = 12) (fun b j => b = 96 ∧ j = (eSp E).length) mN1 mN1 σ σ' := by subst eσ; exact (uI_kp (by decide) ⟨rfl, rfl⟩).tr (mSet_kp rfl)
        have v12 : σ'.1 12 = nI ((eSp E).length + 1) := by subst eσ; rw [mSet_g, if_pos rfl]
        have v96 : σ'.2.1 96 (eSp E).length = nI k := by
          subst eσ
          show (uI σ 96 (eSp E).length (nI k)).2.1 96 _ = _
          rw [uI_at, if_pos ⟨rfl, rfl⟩]
        have Kb : bK σ σ' := K.mono (fun z h => by omega) (fun b j h => by omega) (fun _ h => h.elim) (fun _ h => h.elim)
        obtain ⟨w1, w2, w3, w4, w5⟩ := hS.2.1
        have hE' : sE σ' (eSpS E k) := by
          refine ⟨(K.1 6 (by omega)).trans w1, by rw [eSp_snoc]; exact v12, fun i hi => ?_, fun s hs => ?_, fun c hc => (w5 c hc).keep K id (fun _ _ h => h)⟩
          · obtain ⟨b1, b2, b3⟩ := w3 i hi
            refine ⟨(K.2.1 91 _ (by decide) (by omega)).trans b1, (K.2.1 92 _ (by decide) (by omega)).trans b2, fun p hp => ?_⟩
            obtain ⟨r1, r2, r3, r4⟩ := b3 p hp
            exact ⟨r1, (K.2.1 93 _ (by decide) (by omega)).trans r2, (K.2.1 94 _ (by decide) (by omega)).trans r3, (K.2.1 95 _ (by decide) (by omega)).trans r4⟩
          · rw [eSt_snoc]
            by_cases e : s = (eSp E).length
            · rw [if_pos e]
              have es0 : eSt E s = s0 := by show (eSp E).getD s s0 = s0; rw [List.getD_eq_getElem?_getD, List.getElem?_eq_none (by omega)]; rfl
              have g := w4 s hs
              rw [es0] at g
              obtain ⟨z1, z2, z3, z4, z5⟩ := g
              refine ⟨by rw [e]; exact v96, (K.2.1 97 _ (by decide) (by omega)).trans z2, (K.2.1 98 _ (by decide) (by omega)).trans z3, z4.k K (by omega) (fun j _ _ => by omega), fun p hp4 => ?_⟩
              obtain ⟨y1, y2, y3, y4, y5, y6⟩ := z5 p hp4
              refine ⟨(K.2.1 99 _ (by decide) (by omega)).trans y1, fun i hi => absurd hi (Nat.not_lt_zero _), (K.2.1 101 _ (by decide) (by omega)).trans y3, (K.2.1 102 _ (by decide) (by omega)).trans y4, y5.k K (by omega) (fun j _ _ => by omega), ?_⟩
              rcases y6 with ⟨v1, v2⟩ | ⟨v, v1, _⟩
              · exact Or.inl ⟨rfl, (K.2.1 103 _ (by decide) (by omega)).trans v2⟩
              · exact nomatch v1
            · rw [if_neg e]
              exact sEs1.k (w4 s hs) (hso3 hA s hs) K (fun b j h => by unfold sB at h; omega) (fun _ _ h => h) (fun _ _ h => h)
        obtain ⟨p0, q1, q2, q3⟩ := hP.up
        refine ⟨rfl, ⟨hS.1.keep K (by omega) (fun j h => by omega), hE', (K.1 44 (by omega)).trans hS.2.2.1, hS.2.2.2.1.bk Kb, fun z => absurd z e1⟩, p0, (K.1 1 (by omega)).trans q1, q2, fun c hc => (q3.1 c hc).keep K id (fun _ _ h => h), fun s p v hs hp4 ev => ?_⟩
        rw [eSt_snoc] at ev
        by_cases e : s = (eSp E).length
        · rw [if_pos e] at ev; exact nomatch ev
        · rw [if_neg e] at ev
          exact (q3.2 s p v hs hp4 ev).keep K id (fun _ _ h => h)
      · exfalso
        rcases hb with z | z | z
        · exact e1 z
        · omega
        · exact z k hk ek
    rw [ek] at goal
    dsimp only
    rw [show (1 : Int32) = nI 1 from rfl, pk_sub (by omega), Nat.add_sub_cancel]
    exact goal
  · have b := bad (Or.inr (Or.inr hno))
    exact ⟨fun _ => b, fun g => ⟨_, _, _, rfl, hC.1, rfl, fun g2 => absurd (h.resolve_left g) (Int32.not_le.mpr g2), fun _ => b⟩⟩
end OSP
