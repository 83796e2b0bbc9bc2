/-! THE CLASS STARTS JOBS: the loops -/
theorem nV_53 {hp : mm_H} {R : mRn} (h : cAct hp R) : nV hp 53 := by
  obtain ⟨al, r53, _⟩ := h
  exact nV.of r53 (by decide) (by decide) (by decide)
/-- another job in the row of those that run -/
theorem cA.more {hp : mm_H} {E : mEv} {tr sr : Nat → Nat} {R R' : mRn} {JL : Nat → List Value} {s n j : Nat} {ws : List (List Nat)} (h : cA hp E tr sr R JL) (hst : nSt R ≠ 0) (hl : (nAc R).length < 3) (J : cJw hp j s n ws) (hj : 113 ≤ j) (hc : gCm (nPg R s) n = some ws) (eR : R' = (nSt R, nWk R, nKn R, nBg R + 1, nAc R ++ [(s, n)], nFl R, nPg R)) : ∃ al, hp[53]? = some (2009, al) ∧ (nAc R).length < al.length ∧ cA ((hp.set 53 (2009, al.set (nAc R).length (.ref j))).set 12 (3, rnL R' (.ref 11) (.ref 3))) E tr sr R' JL ∧ cE wRun hp ((hp.set 53 (2009, al.set (nAc R).length (.ref j))).set 12 (3, rnL R' (.ref 11) (.ref 3))) ∧ cH 0 0 hp ((hp.set 53 (2009, al.set (nAc R).length (.ref j))).set 12 (3, rnL R' (.ref 11) (.ref 3))) := by
  obtain ⟨h1, h2, ⟨h3, h4, h5, h6⟩, h7⟩ := id h
  obtain ⟨s1, i1, r12, g1, g2, g3⟩ := h3
  obtain ⟨al, r53, a2, a3, a4, a5⟩ := h5
  have l12 := (List.getElem?_eq_some_iff.mp r12).1
  have l53 := (List.getElem?_eq_some_iff.mp r53).1
  refine ⟨al, r53, by omega, ?_⟩
  have F : cE (fun x => x = 12 ∨ x = 53) hp ((hp.set 53 (2009, al.set (nAc R).length (.ref j))).set 12 (3, rnL R' (.ref 11) (.ref 3))) := (cE.set (Or.inr rfl)).tr (cE.set (Or.inl rfl))
  have c12 : ((hp.set 53 (2009, al.set (nAc R).length (.ref j))).set 12 (3, rnL R' (.ref 11) (.ref 3)))[12]? = some (3, rnL R' (.ref 11) (.ref 3)) := List.getElem?_set_self (by rw [List.length_set]; exact l12)
  have c53 : ((hp.set 53 (2009, al.set (nAc R).length (.ref j))).set 12 (3, rnL R' (.ref 11) (.ref 3)))[53]? = some (2009, al.set (nAc R).length (.ref j)) := by
    rw [List.getElem?_set_ne (by omega), List.getElem?_set_self l53]
  have kj : ∀ {j' s' n' : Nat} {ws' : List (List Nat)}, cJw hp j' s' n' ws' → 113 ≤ j' → cJw ((hp.set 53 (2009, al.set (nAc R).length (.ref j))).set 12 (3, rnL R' (.ref 11) (.ref 3))) j' s' n' ws' := fun J' hj' => J'.keep F (by omega) (by omega) (by omega)
  have eP : nPg R' = nPg R := by rw [eR]; rfl
  have eA : nAc R' = nAc R ++ [(s, n)] := by rw [eR]; rfl
  refine ⟨h.keepS F ⟨_, _, c12, Or.inr ⟨_, rfl⟩, Or.inr ⟨_, rfl⟩, fun _ => ⟨rfl, rfl⟩⟩ ⟨_, c53, by rw [List.length_set]; exact a2, ?_, ?_, ?_⟩ eP, F.mono (fun x _ w => by unfold wRun; omega), ?_, ?_⟩
  · intro v hv
    rcases List.mem_or_eq_of_mem_set hv with g | g
    · exact a3 v g
    · exact Or.inr ⟨_, g⟩
  · rw [eA, List.length_append]; show _ + 1 ≤ 3; omega
  · intro k s' n' hk
    rw [eA] at hk
    rw [eP]
    rcases Nat.lt_trichotomy k (nAc R).length with g | g | g
    · rw [List.getElem?_append_left g] at hk
      obtain ⟨j', ws', b1, b2, b3, b4⟩ := a5 k s' n' hk
      exact ⟨j', ws', by rw [List.getElem?_set_ne (by omega)]; exact b1, b2, kj b3 b4, b4⟩
    · subst g
      rw [List.getElem?_append_right (Nat.le_refl _), Nat.sub_self] at hk
      cases hk
      exact ⟨j, ws, List.getElem?_set_self (by omega), hc, kj J hj, hj⟩
    · rw [List.getElem?_append_right (by omega)] at hk
      obtain ⟨m, em⟩ : ∃ m, k - (nAc R).length = m + 1 := ⟨k - (nAc R).length - 1, by omega⟩
      rw [em] at hk
      cases hk
  · rw [List.length_set, List.length_set]; omega
  · have r12' : (hp.set 53 (2009, al.set (nAc R).length (.ref j)))[12]? = some (3, rnL R s1 i1) := by rw [List.getElem?_set_ne (by omega)]; exact r12
    rw [mm_sz_set (c' := (3, rnL R' (.ref 11) (.ref 3))) r12' rfl, mm_sz_set (c' := (2009, al.set (nAc R).length (.ref j))) r53 (by simp)]; omega
section CSJ
variable {X : List Int32} {d : Nat} {hp : mm_H} {Q : Option Value → mm_H → Prop}
theorem k96_12 {E : mEv} {tr sr : Nat → Nat} {s : Nat} (hs6 : s < 6) : ∀ (c i2 : Nat) (R : mRn) (hp : mm_H) (JL : Nat → List Value) (o3 : Option Value), i2 + c = 3 → i2 ≤ (nAc R).length → cA hp E tr sr R JL → rOk E R → nSt R ≠ 0 →
    (∀ hp' R' i2' o3', aStj (96 - 16 * (s + 1)) (16 * (s + 1)) R' = aStj (96 - 16 * s) (16 * s) R → cE wRun hp hp' → cH 0 0 hp hp' → cA hp' E tr sr R' JL → rOk E R' → nSt R' = nSt R → nKn R' = nKn R → nFl R' = nFl R → mm_R X (d + 2) 96 2 [some (.ref 12), some (.int (nI (s + 1))), some (.int i2'), o3'] [] hp' Q) →
    mm_R X (d + 2) 96 12 [some (.ref 12), some (.int (nI s)), some (.int (nI i2)), o3] [] hp Q := by
  intro c
  induction c with
  | zero =>
    intro i2 R hp JL o3 hc hi A hR hst H
    have hfull : nWk R ≤ (nAc R).length := by have := hR.2.2.2.2.2.2.1; omega
    refine w96_12 (pk_le 3 i2 (fun _ => ?_) (fun g => absurd g (by omega)))
    rw [nI_1]
    exact H hp R _ _ (by rw [aStj_full hfull, aStj_full hfull]) cE.rf cH.rf A hR rfl rfl rfl
  | succ c ih =>
    intro i2 R hp JL o3 hc hi A hR hst H
    obtain ⟨_, r52, hAct, hP⟩ := id A.2.2.1
    obtain ⟨s1, i1', r12, e1, e2, e3⟩ := id A.2.2.1.1
    obtain ⟨rfl, rfl⟩ := e3 hst
    have hlen := hR.2.2.2.2.2.1
    have hwk := hR.2.2.2.2.2.2.1
    obtain ⟨lv, jc, oc, nj, tk, out, rl, PV, JS, RS, hr, ho, e0, z0, z1, z2⟩ := hP s hs6
    obtain ⟨ls, p0, _⟩ := id PV
    have hph := (hR.2.1 s).1
    refine w96_12 (pk_le 3 i2 (fun g => absurd g (by omega)) (fun _ => ⟨_, _, _, rfl, r12, rfl, _, _, _, rfl, r12, rfl, pk_le (nWk R) (nAc R).length (fun g => ?_) (fun g => ⟨_, _, _, rfl, r12, rfl, mw_avr r52 (by omega) rfl (cPg_at hs6) rfl (by omega) ⟨_, _, _, rfl, p0, rfl, pk_ne (gPh (nPg R s)) 1 (fun h1 => ?_) (fun h1 => ?_)⟩⟩)⟩))
    · rw [nI_1]
      exact H hp R _ _ (by rw [aStj_full g, aStj_full g]) cE.rf cH.rf A hR rfl rfl rfl
    · obtain ⟨a1, a2, a3, ⟨k, ek, hk, a4⟩, a5, a6⟩ := z1 h1
      obtain ⟨g1, g2, g3, g4, g5, g6⟩ := (hR.2.1 s).2.1 h1
      subst a2; subst ek; subst a1
      have hrl : ∀ v ∈ rl, mw_nr v := fun v hv => by
        obtain ⟨n, hn', en⟩ := List.getElem_of_mem hv
        have hg : rl[n]? = some v := by rw [List.getElem?_eq_getElem hn', en]
        have hn16 : n < 16 := by rw [RS.2] at hn'; exact hn'
        cases er : gRs (nPg R s) n with
        | none => rw [(a5 n hn16).1 er] at hg; cases hg; exact Or.inl rfl
        | some t => obtain ⟨q, q1, _⟩ := (a5 n hn16).2 t er; rw [q1] at hg; cases hg; exact Or.inr ⟨_, rfl⟩
      have hjl : ∀ v ∈ JL s, mw_nr v := fun v hv => by
        obtain ⟨n, hn', en⟩ := List.getElem_of_mem hv
        rcases JS.2.2 n hn' with e | ⟨j, ws, e, _⟩
        · exact Or.inl (en.symm.trans e)
        · exact Or.inr ⟨j, en.symm.trans e⟩
      refine ⟨_, _, _, rfl, r12, rfl, mw_avr r52 (by omega) rfl (cPg_at hs6) rfl (by omega) ⟨⟨_, _, rfl, p0⟩, ?_⟩⟩
      refine k97 (d := d) g1 JS.2.1 hjl hrl (gN (nPg R s) - k) k hp none (by omega) PV RS JS.1 ?_ ?_
      · intro n hn1 hn2 hn3 hn4 hp1 v hv F1 G1 PV1
        have hrs : gRs (nPg R s) n = none := by
          cases er : gRs (nPg R s) n with
          | none => rfl
          | some t => obtain ⟨q, q1, _⟩ := (a5 n (by omega)).2 t er; rw [q1] at hn3; cases hn3
        have htk : gTk (nPg R s) n = false := by
          cases et : gTk (nPg R s) n with
          | false => rfl
          | true => have := (a4 n hn2 hrs).mp et; omega
        obtain ⟨ws, j, w1, w2, w3⟩ := a6 n hn2 hrs htk
        rw [w2] at hv
        cases hv
        have hj : 113 ≤ j := by
          obtain ⟨hn', en⟩ := List.getElem?_eq_some_iff.mp w2
          rcases JS.2.2 n hn' with e | ⟨j', ws', e, _, hj'⟩
          · rw [en] at e; cases e
          · rw [en] at e; cases e; exact hj'
        have hready : aRd R s n = true := by
          unfold aRd
          rw [h1, hrs, htk, (Nat.blt_eq).mpr hn2]; rfl
        have P1 : cPr hp1 s (gTak (nPg R s) n) (JL s) := by
          refine ⟨_, _, _, _, _, out, rl, PV1, ⟨F1.at JS.1 (by omega), JS.2.1, fun m hm => ?_⟩, ⟨F1.at RS.1 (by omega), RS.2⟩, hr, ho, F1.at e0 (by omega), fun g0 => ?_, fun _ => ⟨rfl, rfl, a3, ⟨n + 1, rfl, hn2, fun m hm hm2 => ?_⟩, fun m hm => ⟨(a5 m hm).1, fun t ht => ?_⟩, fun m hm hm2 hm3 => ?_⟩, fun g2 => ?_⟩
          · rcases JS.2.2 m hm with e | ⟨j', ws', e, Jw, hj'⟩
            · exact Or.inl e
            · exact Or.inr ⟨j', ws', e, Jw.keep F1 (by omega) (by omega) (by omega), hj'⟩
          · have g0' : gPh (nPg R s) = 0 := g0
            omega
          · have hm' : m < gN (nPg R s) := hm
            have old := a4 m hm' hm2
            show up (gTk (nPg R s)) n true m = true ↔ m < n + 1
            by_cases e : m = n
            · subst e; rw [up_eq]; exact ⟨fun _ => by omega, fun _ => rfl⟩
            · rw [up_ne e, old]
              constructor
              · intro h; omega
              · intro h
                rcases Nat.lt_or_ge m k with g' | g'
                · exact g'
                · exact absurd ((a5 m (by omega)).1 hm2) (hn4 m g' (by omega))
          · obtain ⟨q, q1, q2, q3⟩ := (a5 m hm).2 t ht
            exact ⟨q, q1, q2, q3.keepT F1 (nV_pv1 PV)⟩
          · have hm3' : up (gTk (nPg R s)) n true m = false := hm3
            have e : m ≠ n := fun e => by subst e; rw [up_eq] at hm3'; cases hm3'
            rw [up_ne e] at hm3'
            obtain ⟨ws', j', y1, y2, y3⟩ := a6 m hm hm2 hm3'
            refine ⟨ws', j', y1, y2, ?_⟩
            have hj' : 113 ≤ j' := by
              obtain ⟨hn', en⟩ := List.getElem?_eq_some_iff.mp y2
              rcases JS.2.2 m hn' with e | ⟨j'', ws'', e, _, hj'⟩
              · rw [en] at e; cases e
              · rw [en] at e; cases e; exact hj'
            exact y3.keep F1 (by omega) (by omega) (by omega)
          · have g2' : gPh (nPg R s) = 2 := g2
            omega
        have A1 : cA hp1 E tr sr (rUp R s (gTak (nPg R s) n)) JL := A.pv hs6 (F1.mono (fun x _ e => Or.inl e)) (by show cPr hp1 s (up (nPg R) s (gTak (nPg R s) n) s) (JL s); rw [up_eq]; exact P1) ⟨rfl, rfl, rfl, rfl, rfl, rfl⟩ (fun k hk => up_ne hk) (fun m _ => by show gCm (up (nPg R) s (gTak (nPg R s) n) s) m = _; rw [up_eq]; rfl)
        have J1 : cJw hp1 j s n ws := w3.keep F1 (by omega) (by omega) (by omega)
        have eT : aTake R s n = (nSt R, nWk R, nKn R, nBg R + 1, nAc R ++ [(s, n)], nFl R, up (nPg R) s (gTak (nPg R s) n)) := if_pos ⟨hready, g⟩
        obtain ⟨al, r53, hal, A2, F2, G2⟩ := A1.more (R' := aTake R s n) hst (by show (nAc R).length < 3; omega) J1 hj (by show gCm (up (nPg R) s (gTak (nPg R s) n) s) n = some ws; rw [up_eq]; exact w1) eT
        obtain ⟨s1', i1'', r12', _, _, e3'⟩ := id A1.2.2.1.1
        obtain ⟨rfl, rfl⟩ := e3' hst
        obtain ⟨lb, jk, ej, jc1, _⟩ := id J1
        replace r12' : hp1[12]? = some (3, [.ref 13, .ref 52, .ref 53, .int (nI (nAc R).length), .int (nI (nBg R)), .ref 11, .ref 3, .int (nI (nKn R)), .int (nI (nWk R)), .int (if nFl R = true then 1 else 0), .int (nI (nSt R))]) := r12'
        have l12 := (List.getElem?_eq_some_iff.mp r12').1
        have r12s : (hp1.set 53 (2009, al.set (nAc R).length (.ref j)))[12]? = some (3, [.ref 13, .ref 52, .ref 53, .int (nI (nAc R).length), .int (nI (nBg R)), .ref 11, .ref 3, .int (nI (nKn R)), .int (nI (nWk R)), .int (if nFl R = true then 1 else 0), .int (nI (nSt R))]) := by rw [List.getElem?_set_ne (by omega)]; exact r12'
        have lw : (nAc R).length < 2 ^ 31 := by omega
        refine ⟨_, rfl, w96_54 ⟨rfl, Or.inr ⟨⟨_, rfl⟩, _, _, _, rfl, r12', rfl, _, _, _, rfl, r12', rfl, _, _, _, rfl, r53, by omega, rfl, nI_pos' lw, by rw [nI_clamp lw]; exact hal, Or.inr ⟨j, 9, _, rfl, jc1, by omega, rfl⟩, ?_⟩⟩⟩
        rw [nI_clamp lw]
        refine ⟨_, _, _, rfl, r12s, rfl, _, _, rfl, r12s, Nat.le_of_ble_eq_true rfl, rfl, ?_⟩
        refine ⟨_, _, _, rfl, List.getElem?_set_self (by rw [List.length_set]; exact l12), rfl, _, _, rfl, List.getElem?_set_self (by rw [List.length_set]; exact l12), Nat.le_of_ble_eq_true rfl, rfl, ?_⟩
        rw [List.set_set]
        have eL : rnL (aTake R s n) (.ref 11) (.ref 3) = [.ref 13, .ref 52, .ref 53, .int (nI (nAc R).length + 1), .int (nI (nBg R) + 1), .ref 11, .ref 3, .int (nI (nKn R)), .int (nI (nWk R)), .int (if nFl R = true then 1 else 0), .int (nI (nSt R))] := by
          rw [eT, nI_1, nI_1]
          show [Value.ref 13, .ref 52, .ref 53, .int (nI (nAc R ++ [(s, n)]).length), _, _, _, _, _, _, _] = _
          rw [List.length_append]; rfl
        rw [eL] at A2 F2 G2
        rw [nI_1]
        have hR' := rOk_take hR hready g
        have eS' : aStj (96 - 16 * s) (16 * s) (aTake R s n) = aStj (96 - 16 * s) (16 * s) R := by
          have sk1 : ∀ m, m < n → aRd R s m = false := fun m hm => by
            cases er : aRd R s m with
            | false => rfl
            | true =>
              unfold aRd at er
              rw [Bool.and_eq_true, Bool.and_eq_true, Bool.and_eq_true, Nat.blt_eq, Option.isNone_iff_eq_none] at er
              obtain ⟨_, b2, b3, b4⟩ := er
              rcases Nat.lt_or_ge m k with g' | g'
              · have := (a4 m b2 b3).mpr g'
                rw [this] at b4; cases b4
              · exact absurd ((a5 m (by omega)).1 b3) (hn4 m g' hm)
          have sk2 : ∀ m, m < n + 1 → aRd (aTake R s n) s m = false := fun m hm => by
            rw [eT]
            unfold aRd
            show (gPh (up (nPg R) s (gTak (nPg R s) n) s) == 1 && (Nat.blt m (gN (up (nPg R) s (gTak (nPg R s) n) s)) && ((gRs (up (nPg R) s (gTak (nPg R s) n) s) m).isNone && !gTk (up (nPg R) s (gTak (nPg R s) n) s) m))) = false
            rw [up_eq]
            by_cases e : m = n
            · subst e
              have : gTk (gTak (nPg R s) m) m = true := up_eq _ _ _
              rw [this, Bool.not_true, Bool.and_false, Bool.and_false, Bool.and_false]
            · have h' := sk1 m (by omega)
              unfold aRd at h'
              have : gTk (gTak (nPg R s) n) m = gTk (nPg R s) m := up_ne e
              rw [this]; exact h'
          rw [aStj_sk hs6 (by omega) sk2, aStj_sk hs6 (by omega) sk1, show 96 - (16 * s + n) = (96 - (16 * s + (n + 1))) + 1 by omega]
          show _ = aStj (96 - (16 * s + (n + 1))) (16 * s + n + 1) (aTake R ((16 * s + n) / 16) ((16 * s + n) % 16))
          obtain ⟨d1, d2⟩ := dm16 (s := s) (n := n) (by omega)
          rw [d1, d2]; rfl
        refine ih (i2 + 1) (aTake R s n) _ JL _ (by omega) ?_ A2 hR' (by rw [eT]; exact hst) ?_
        · rw [eT]; show i2 + 1 ≤ (nAc R ++ [(s, n)]).length; rw [List.length_append]; show i2 + 1 ≤ _ + 1; omega
        · intro hp' R' i2' o3' x1 x2 x3 x4 x5 x6 x7 x8
          refine H hp' R' i2' o3' (x1.trans eS') (((F1.mono (fun x _ e => by unfold wRun; omega)).tr F2).tr x2) (((G1.h.tr G2).tr x3).mono (by omega) (by omega)) x4 x5 (x6.trans (by rw [eT]; rfl)) (x7.trans (by rw [eT]; rfl)) (x8.trans (by rw [eT]; rfl))
      · intro hn4 hp1 F1 G1 PV1
        have P1 : cPr hp1 s (nPg R s) (JL s) := by
          refine ⟨_, _, _, _, _, out, rl, PV1, ⟨F1.at JS.1 (by omega), JS.2.1, fun m hm => ?_⟩, ⟨F1.at RS.1 (by omega), RS.2⟩, hr, ho, F1.at e0 (by omega), fun g0 => absurd g0 (by omega), fun _ => ⟨rfl, rfl, a3, ⟨gN (nPg R s), rfl, Nat.le_refl _, fun m hm hm2 => ?_⟩, fun m hm => ⟨(a5 m hm).1, fun t ht => ?_⟩, fun m hm hm2 hm3 => ?_⟩, fun g2 => absurd g2 (by omega)⟩
          · rcases JS.2.2 m hm with e | ⟨j', ws', e, Jw, hj'⟩
            · exact Or.inl e
            · exact Or.inr ⟨j', ws', e, Jw.keep F1 (by omega) (by omega) (by omega), hj'⟩
          · rcases Nat.lt_or_ge m k with g' | g'
            · exact ⟨fun _ => hm, fun _ => (a4 m hm hm2).mpr g'⟩
            · exact absurd ((a5 m (by omega)).1 hm2) (hn4 m g' hm)
          · obtain ⟨q, q1, q2, q3⟩ := (a5 m hm).2 t ht
            exact ⟨q, q1, q2, q3.keepT F1 (nV_pv1 PV)⟩
          · obtain ⟨ws', j', y1, y2, y3⟩ := a6 m hm hm2 hm3
            refine ⟨ws', j', y1, y2, ?_⟩
            have hj' : 113 ≤ j' := by
              obtain ⟨hn', en⟩ := List.getElem?_eq_some_iff.mp y2
              rcases JS.2.2 m hn' with e | ⟨j'', ws'', e, _, hj'⟩
              · rw [en] at e; cases e
              · rw [en] at e; cases e; exact hj'
            exact y3.keep F1 (by omega) (by omega) (by omega)
        have A1 : cA hp1 E tr sr R JL := A.pv hs6 (F1.mono (fun x _ e => Or.inl e)) P1 ⟨rfl, rfl, rfl, rfl, rfl, rfl⟩ (fun k hk => rfl) (fun m _ => rfl)
        refine ⟨_, rfl, w96_54 ⟨rfl, Or.inl ⟨rfl, ?_⟩⟩⟩
        rw [nI_1]
        have sk : ∀ m, m < 16 → aRd R s m = false := fun m hm => by
          cases er : aRd R s m with
          | false => rfl
          | true =>
            unfold aRd at er
            rw [Bool.and_eq_true, Bool.and_eq_true, Bool.and_eq_true, Nat.blt_eq, Option.isNone_iff_eq_none] at er
            obtain ⟨_, b2, b3, b4⟩ := er
            rcases Nat.lt_or_ge m k with g' | g'
            · have := (a4 m b2 b3).mpr g'
              rw [this] at b4; cases b4
            · exact absurd ((a5 m (by omega)).1 b3) (hn4 m g' b2)
        refine H hp1 R _ _ ?_ (F1.mono (fun x _ e => by unfold wRun; omega)) G1.h A1 hR rfl rfl rfl
        rw [aStj_sk hs6 (Nat.le_refl 16) sk, show 16 * (s + 1) = 16 * s + 16 by omega]
    · refine w96_54 ⟨rfl, Or.inl ⟨rfl, ?_⟩⟩
      rw [nI_1]
      have sk : ∀ m, m < 16 → aRd R s m = false := fun m hm => by
        unfold aRd
        have : (gPh (nPg R s) == 1) = false := by simpa using h1
        rw [this]; rfl
      refine H hp R _ _ ?_ cE.rf cH.rf A hR rfl rfl rfl
      rw [aStj_sk hs6 (Nat.le_refl 16) sk, show 16 * (s + 1) = 16 * s + 16 by omega]
theorem k96_2 {E : mEv} {tr sr : Nat → Nat} : ∀ (m s : Nat) (R : mRn) (hp : mm_H) (JL : Nat → List Value) (o2 o3 : Option Value), s + m = nKn R → nKn R ≤ 6 → cA hp E tr sr R JL → rOk E R → nSt R ≠ 0 →
    (∀ hp', cE wRun hp hp' → cH 0 0 hp hp' → cA hp' E tr sr (aStj (96 - 16 * s) (16 * s) R) JL → rOk E (aStj (96 - 16 * s) (16 * s) R) → nSt (aStj (96 - 16 * s) (16 * s) R) = nSt R → nFl (aStj (96 - 16 * s) (16 * s) R) = nFl R → Q none hp') →
    mm_R X (d + 2) 96 2 [some (.ref 12), some (.int (nI s)), o2, o3] [] hp Q := by
  intro m
  induction m with
  | zero =>
    intro s R hp JL o2 o3 hm h6 A hR hst H
    obtain ⟨s1, i1', r12, e1, e2, e3⟩ := id A.2.2.1.1
    have ee : aStj (96 - 16 * s) (16 * s) R = R := aStj_end (by omega) (fun k hk => hR.2.2.2.2.2.2.2 k (by omega))
    rw [ee] at H
    refine w96_2 ⟨_, _, _, rfl, r12, rfl, pk_le (nKn R) s (fun _ => H hp cE.rf cH.rf A hR rfl rfl) (fun g => absurd g (by omega))⟩
  | succ m ih =>
    intro s R hp JL o2 o3 hm h6 A hR hst H
    obtain ⟨s1, i1', r12, e1, e2, e3⟩ := id A.2.2.1.1
    refine w96_2 ⟨_, _, _, rfl, r12, rfl, pk_le (nKn R) s (fun g => absurd g (by omega)) (fun _ => ?_)⟩
    refine k96_12 (by omega) 3 0 R hp JL _ (by omega) (Nat.zero_le _) A hR hst (fun hp' R' i2' o3' x1 x2 x3 x4 x5 x6 x7 x8 => ?_)
    refine ih (s + 1) R' hp' JL _ _ (by omega) (by omega) x4 x5 (by rw [x6]; exact hst) (fun hp2 y1 y2 y3 y4 y5 y6 => ?_)
    rw [x1] at y3 y4 y5 y6
    exact H hp2 (x2.tr y1) ((x3.tr y2).mono (by omega) (by omega)) y3 y4 (y5.trans x6) (y6.trans x8)
theorem k96 {E : mEv} {tr sr : Nat → Nat} {R : mRn} {JL : Nat → List Value} (h6 : nKn R ≤ 6) (A : cA hp E tr sr R JL) (hR : rOk E R) (hst : nSt R ≠ 0)
    (H : ∀ hp', cE wRun hp hp' → cH 0 0 hp hp' → cA hp' E tr sr (aStj 96 0 R) JL → rOk E (aStj 96 0 R) → nSt (aStj 96 0 R) = nSt R → nFl (aStj 96 0 R) = nFl R → Q none hp') : mm_R X (d + 2) 96 0 (mm_L0 96 [.ref 12]) [] hp Q :=
  w96_0 (k96_2 (nKn R) 0 R hp JL none none (by omega) h6 A hR hst H)
end CSJ
