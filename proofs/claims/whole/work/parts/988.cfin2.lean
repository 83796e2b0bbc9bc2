/-! THE CLASS: finish -/
section CFJ
variable {X : List Int32} {d : Nat} {hp : mm_H} {Q : Option Value → mm_H → Prop}
theorem k99_142 {E : mEv} {tr sr : Nat → Nat} {R : mRn} {JL : Nat → List Value} {s : Nat} {g : mPg} {i1 : Int32} {r2 r3 r5 : Value} (hs : s < 6) (hst : nSt R ≠ 0) (hg : gPh g ≤ 3) (A : cA hp E tr sr (rUp R s g) JL)
    (H : ∀ hp', cE wRun hp hp' → cH 0 0 hp hp' → cA hp' E tr sr (rPg R s g) JL → Q (some (.int 1)) hp') : mm_R X (d + 1) 99 142 [some (.ref 12), some (.int i1), some r2, some r3, some (.ref (56 + 5 * s)), some r5] [] hp Q := by
  obtain ⟨s1, i1', r12, e1, e2, e3⟩ := id A.2.2.1.1
  obtain ⟨A4, F4, G4⟩ := A.set12 (R' := rPg R s g) (s2 := s1) (i2 := i1') r12 rfl rfl ⟨e1, e2, e3⟩
  have P := A.2.2.1.2.2.2 s hs
  have eg : nPg (rUp R s g) s = g := up_eq _ _ _
  rw [eg] at P
  obtain ⟨lv, jc, oc, nj, tk, out, rl, ⟨ls, p0, _⟩, _⟩ := P
  refine w99_142 ⟨_, _, _, rfl, r12, rfl, ?_⟩
  cases hf : nFl (rUp R s g) with
  | true =>
    refine ⟨fun _ => ⟨_, _, rfl, r12, Nat.le_of_ble_eq_true rfl, rfl, ?_⟩, fun g0 => absurd g0 (by show ¬ (1 : Int32) = 0; decide)⟩
    have : rnL (rPg R s g) s1 i1' = [.ref 13, .ref 52, .ref 53, .int (nI (nAc (rUp R s g)).length), .int (nI (nBg (rUp R s g))), s1, i1', .int (nI (nKn (rUp R s g))), .int (nI (nWk (rUp R s g))), .int 1, .int (nI (nSt (rUp R s g)))] := by
      show [Value.ref 13, .ref 52, .ref 53, _, _, _, _, _, _, Value.int (if (nFl R || gPh g == 3) = true then 1 else 0), _] = _
      have hf' : nFl R = true := hf
      rw [hf']; rfl
    rw [this] at A4 F4 G4
    exact H _ F4 G4.h A4
  | false =>
    have hf' : nFl R = false := hf
    refine ⟨fun g0 => absurd rfl g0, fun _ => ⟨rfl, _, _, _, rfl, p0, rfl, pk_ne (gPh g) 3 (fun h3 => ⟨_, _, rfl, r12, Nat.le_of_ble_eq_true rfl, rfl, ?_⟩) (fun h3 => ⟨_, _, rfl, r12, Nat.le_of_ble_eq_true rfl, rfl, ?_⟩)⟩⟩
    · have : rnL (rPg R s g) s1 i1' = [.ref 13, .ref 52, .ref 53, .int (nI (nAc (rUp R s g)).length), .int (nI (nBg (rUp R s g))), s1, i1', .int (nI (nKn (rUp R s g))), .int (nI (nWk (rUp R s g))), .int 1, .int (nI (nSt (rUp R s g)))] := by
        show [Value.ref 13, .ref 52, .ref 53, _, _, _, _, _, _, Value.int (if (nFl R || gPh g == 3) = true then 1 else 0), _] = _
        rw [hf', h3]; rfl
      rw [this] at A4 F4 G4
      exact H _ F4 G4.h A4
    · have : rnL (rPg R s g) s1 i1' = [.ref 13, .ref 52, .ref 53, .int (nI (nAc (rUp R s g)).length), .int (nI (nBg (rUp R s g))), s1, i1', .int (nI (nKn (rUp R s g))), .int (nI (nWk (rUp R s g))), .int 0, .int (nI (nSt (rUp R s g)))] := by
        show [Value.ref 13, .ref 52, .ref 53, _, _, _, _, _, _, Value.int (if (nFl R || gPh g == 3) = true then 1 else 0), _] = _
        have : (gPh g == 3) = false := by simpa using h3
        rw [hf', this]; rfl
      rw [this] at A4 F4 G4
      exact H _ F4 G4.h A4
theorem k99 {E : mEv} {tr sr : Nat → Nat} {R : mRn} {JL : Nat → List Value} {k : Int32} (hE : eOk E) (hR : rOk E R) (A : cA hp E tr sr R JL) (hst : nAc R ≠ [] → nSt R ≠ 0)
    (H1 : ∀ n : Nat, k = nI n → ∀ s m, (nAc R)[n]? = some (s, m) → ∀ hp', cE wRun hp hp' → cH 166 1615 hp hp' → cA hp' E tr sr (rPg (aDe R n) s (aFg E R s m)) JL → Q (some (.int 1)) hp')
    (H0 : (∀ n : Nat, n < (nAc R).length → k ≠ nI n) → Q (some (.int 0)) hp) : mm_R X (d + 10) 99 0 (mm_L0 99 [.ref 12, .int k]) [] hp Q := by
  obtain ⟨⟨s1, i1', r12, e1, e2, e3⟩, r52, ⟨al, r53, a2, a3, a4, a5⟩, hP⟩ := id A.2.2.1
  obtain ⟨_, ⟨lt, t1, t2, t3, t4⟩, ⟨lss, c1, c2, c3, c4⟩⟩ := id A.2.1
  have l12 := (List.getElem?_eq_some_iff.mp r12).1
  refine w99_0 ⟨⟨_, _, rfl, r12⟩, k100 A.2.2.1 ?_ (fun h => ⟨_, rfl, rfl, Or.inl ⟨rfl, H0 h⟩⟩)⟩
  intro n ek hn s m j ws hk hcm J hj
  subst ek
  have hne : nAc R ≠ [] := fun e => by rw [e] at hn; exact absurd hn (Nat.not_lt_zero _)
  obtain ⟨rfl, rfl⟩ := e3 (hst hne)
  obtain ⟨b1, b2, b3, ⟨ws', b4, b4'⟩, b5, b6⟩ := hR.2.2.2.1 s m (List.mem_of_getElem? hk)
  rw [hcm] at b4
  cases b4
  have hs6 : s < 6 := by have := hR.1; omega
  have hkn : nKn R ≤ 6 := by have := hR.1; omega
  have hlen3 : (nAc R).length ≤ 3 := a4
  obtain ⟨lb, jk, ej, j0, _⟩ := id J
  refine ⟨_, rfl, rfl, Or.inr ⟨⟨_, rfl⟩, _, _, _, rfl, j0, rfl, pk_lt s 0 (fun g => absurd g (by omega)) (fun _ => ⟨_, _, _, rfl, j0, rfl, _, _, _, rfl, r12, rfl, pk_lt s (nKn R) (fun _ => ⟨_, _, _, rfl, r12, rfl, _, _, rfl, r12, Nat.le_of_ble_eq_true rfl, rfl, ?_⟩) (fun g => absurd g (by omega))⟩)⟩⟩
  have eL : (nAc (aDe R n)).length = (nAc R).length - 1 := by
    show ((nAc R).eraseIdx n).length = _
    rw [List.length_eraseIdx, if_pos hn]
  have er : rnL (aDe R n) (.ref 11) (.ref 3) = [.ref 13, .ref 52, .ref 53, .int (nI (nAc R).length - 1), .int (nI (nBg R)), .ref 11, .ref 3, .int (nI (nKn R)), .int (nI (nWk R)), .int (if nFl R = true then 1 else 0), .int (nI (nSt R))] := by
    unfold rnL
    rw [eL, show (1 : Int32) = nI 1 from rfl, pk_sub (by omega)]; rfl
  show mm_R X (d + 10) 99 42 [some (.ref 12), some (.int (nI n)), some (.ref j), some (.int (nI n)), none, none] [] (hp.set 12 (3, [.ref 13, .ref 52, .ref 53, .int (nI (nAc R).length - 1), .int (nI (nBg R)), .ref 11, .ref 3, .int (nI (nKn R)), .int (nI (nWk R)), .int (if nFl R = true then 1 else 0), .int (nI (nSt R))])) Q
  rw [← er]
  have F0 : cE (fun x => x = 12 ∨ x = 53) hp (hp.set 12 (3, rnL (aDe R n) (.ref 11) (.ref 3))) := cE.set (Or.inl rfl)
  have G0 : cH 0 0 hp (hp.set 12 (3, rnL (aDe R n) (.ref 11) (.ref 3))) := ⟨by rw [List.length_set]; omega, by rw [mm_sz_set (c' := (3, rnL (aDe R n) (.ref 11) (.ref 3))) r12 rfl]; omega⟩
  refine k99_42 (hp := hp.set 12 (3, rnL (aDe R n) (.ref 11) (.ref 3))) (al := al) a2 hlen3 hn a3 (fun x hx => ?_) ?_ ((nAc R).length - 1 - n) n _ al none none (by omega) (Nat.le_refl _) cE.rf cH.rf (List.getElem?_set_self l12) (by rw [List.getElem?_set_ne (by omega)]; exact r53) a2 a3 (fun x => by rw [if_neg (by omega)])
  · obtain ⟨⟨s', m'⟩, e⟩ : ∃ p, (nAc R)[x]? = some p := ⟨_, List.getElem?_eq_getElem hx⟩
    obtain ⟨y, ws', y1, y2, y3, y4⟩ := a5 x s' m' e
    obtain ⟨lb', jk', ej', j0', _⟩ := y3
    exact ⟨y, _, y1, y4, F0.at j0' (by omega)⟩
  · intro hp1 al1 F1 G1 r12' r53' a2' a3' hx o4 o5
    have F01 : cE (fun x => x = 12 ∨ x = 53) hp hp1 := F0.tr (F1.mono (fun x _ e => Or.inr e))
    have A1 : cA hp1 E tr sr (aDe R n) JL := by
      refine A.keepS F01 ⟨_, _, r12', Or.inr ⟨_, rfl⟩, Or.inr ⟨_, rfl⟩, fun _ => ⟨rfl, rfl⟩⟩ ⟨al1, r53', a2', a3', by omega, fun x s' m' hx' => ?_⟩ rfl
      have hx'' : ((nAc R).eraseIdx n)[x]? = some (s', m') := hx'
      have hxl : x < (nAc R).length - 1 := by
        have := (List.getElem?_eq_some_iff.mp hx').1
        omega
      rw [List.getElem?_eraseIdx] at hx''
      rw [hx x hxl]
      by_cases e : x < n
      · rw [if_pos e] at hx'' ⊢
        obtain ⟨y, ws', y1, y2, y3, y4⟩ := a5 x s' m' hx''
        exact ⟨y, ws', y1, y2, y3.keep F01 (by omega) (by omega) (by omega), y4⟩
      · rw [if_neg e] at hx'' ⊢
        obtain ⟨y, ws', y1, y2, y3, y4⟩ := a5 (x + 1) s' m' hx''
        exact ⟨y, ws', y1, y2, y3.keep F01 (by omega) (by omega) (by omega), y4⟩
    have J1 := J.keep F01 (by omega) (by omega) (by omega)
    obtain ⟨lb1, jk1, ej1, j01, _⟩ := id J1
    obtain ⟨_, ⟨lt1, t11, t12, t13, t14⟩, ⟨ls1, c11, c12, c13, c14⟩⟩ := id A1.2.1
    obtain ⟨_, r521, _, hP1⟩ := id A1.2.2.1
    have hsl : s < (eSp E).length := by have := hR.1; omega
    obtain ⟨d1, d2, d3, d4⟩ := c14 s hsl
    obtain ⟨f1, f2, f3⟩ := t14 _ d3
    obtain ⟨cond, srcs, ps, rs, st0, _⟩ := id d4
    obtain ⟨j1, j2, j3, j4, to0, _⟩ := id f3
    obtain ⟨lv, jc, oc, nj, tk, out, rl, PV, JS, RS, hr, ho, e0, z0, z1, z2⟩ := id (hP1 s hs6)
    obtain ⟨ls, p0, _⟩ := id PV
    have r12'' := r12'
    unfold rnL at r12''
    rw [eL] at r12''
    have hkd := (hE.1 _ d3).1.1
    refine w99_42 ⟨_, _, _, rfl, r12'', rfl, ⟨fun _ => ⟨_, _, _, rfl, r12'', rfl, rfl, _, _, _, rfl, j01, rfl, mw_avr c11 (by omega) rfl d1 rfl (by omega) ⟨rfl, _, _, _, rfl, r12'', rfl, _, _, _, rfl, j01, rfl, mw_avr r521 (by omega) rfl (cPg_at hs6) rfl (by omega) ⟨rfl, Or.inr ⟨⟨_, rfl⟩, _, _, _, rfl, st0, rfl, _, _, _, rfl, to0, rfl, ⟨_, _, rfl, j01⟩, k101 (d := d + 4) (by omega) b4' J1 A1.2.2.2 ?_ ?_⟩⟩⟩⟩, fun g => absurd (Int32.le_refl _) g⟩⟩
    · intro t ht hp2 q F2 G2 eq T2
      have ht' : aRes (eTo E s).1 ((gCm (nPg R s) m).getD []) = some t := by rw [hcm]; exact ht
      have tg := aRes_gd b4' ht
      have A2 := A1.app F2
      have J2 := J1.keep F2 id id id
      obtain ⟨lb2, jk2, ej2, j02, _⟩ := id J2
      obtain ⟨lv2, jc2, oc2, nj2, tk2, out2, rl2, PV2, JS2, RS2, hr2, ho2, e02, z02, z12, z22⟩ := id (A2.2.2.1.2.2.2 s hs6)
      obtain ⟨ls2, p02, _⟩ := id PV2
      obtain ⟨vs, tq⟩ := T2.tag
      have hq113 : 113 ≤ q := by have := A1.2.2.2; omega
      have hqS : cS q := Or.inr (by omega)
      have hrl2 := hr2 (by show 0 < gN (nPg R s); omega)
      have nVs : ∀ x, x < hp2.length → wR s x → nV hp2 x := fun x hx w => by
        rcases w with rfl | rfl
        · exact nV.of p02 (by decide) (by decide) (by decide)
        · have r0 := RS2.1
          rw [show 58 + 5 * s = 57 + 5 * s + 1 by omega] at r0 ⊢
          exact nV.of2 r0 (by decide) JS2.1 (by decide)
      have kJ : ∀ {hp3 : mm_H}, cE (wR s) hp2 hp3 → cJs hp3 s (JL s) := fun {hp3} F3 => ⟨F3.at JS2.1 (by unfold wR; omega), JS2.2.1, fun i hi => by
        rcases JS2.2.2 i hi with e | ⟨j', ws', e, Jw, hj'⟩
        · exact Or.inl e
        · exact Or.inr ⟨j', ws', e, Jw.keep F3 (by unfold wR; omega) (by unfold wR; omega) (by unfold wR; omega), hj'⟩⟩
      refine ⟨_, rfl, w99_110 ⟨rfl, Or.inr ⟨⟨_, rfl⟩, rfl, rfl, _, _, _, rfl, j02, rfl, ⟨_, _, rfl, p02⟩, k108 (oc' := 0) b2 hrl2 PV2 RS2 tq ?_ ?_⟩⟩⟩
      · intro hnul hp3 F3 G3 PV3 RS3
        have hrl3 : ∀ v ∈ rl2.set m (.ref q), mw_nr v := fun v hv => by
          rcases List.mem_or_eq_of_mem_set hv with g | g
          · exact hrl2 v g
          · exact Or.inr ⟨_, g⟩
        refine ⟨rfl, ?_⟩
        rcases b3 with b3 | b3
        · have P3 : cPr hp3 s (gKp (nPg R s) m t) (JL s) := by
            obtain ⟨y1, y2, y3, ⟨kk, y4, y4', y4''⟩, y5, y6⟩ := z12 b3
            have hcn := cN_kp (t := t) b5 (b6 b3).1
            refine ⟨lv2, jc2, oc2 - 1, nj2, tk2, out2, rl2.set m (.ref q), PV3, kJ F3, RS3, fun _ => hrl3, ho2, F3.at e02 (by unfold wR; omega), fun h => absurd b3 (by have h' : gPh (nPg R s) = 0 := h; omega), fun _ => ⟨y1, y2, ?_, ⟨kk, y4, y4', fun i hi hi2 => ?_⟩, fun i hi => ⟨fun h => ?_, fun t' h => ?_⟩, fun i hi hi2 hi3 => ?_⟩, fun h => absurd b3 (by have h' : gPh (nPg R s) = 2 := h; omega)⟩
            · have hle := cN_le (nPg R s)
              have h16 := ((hR.2.1 s).2.1 b3).1
              have y3' : oc2 = nI (cN (nPg R s)) := y3
              rw [y3', ← hcn, show (1 : Int32) = nI 1 from rfl, pk_sub (by omega), Nat.add_sub_cancel]
            · have hi2' : up (gRs (nPg R s)) m (some t) i = none := hi2
              have e : i ≠ m := fun e => by subst e; rw [up_eq] at hi2'; cases hi2'
              rw [up_ne e] at hi2'
              exact y4'' i hi hi2'
            · have h' : up (gRs (nPg R s)) m (some t) i = none := h
              have e : i ≠ m := fun e => by subst e; rw [up_eq] at h'; cases h'
              rw [up_ne e] at h'
              rw [List.getElem?_set_ne (fun h => e h.symm)]
              exact (y5 i hi).1 h'
            · have h' : up (gRs (nPg R s)) m (some t) i = some t' := h
              by_cases e : i = m
              · subst e
                rw [up_eq] at h'
                cases h'
                exact ⟨q, List.getElem?_set_self (by rw [RS2.2]; exact b2), hqS, T2.keepT F3 nVs⟩
              · rw [up_ne e] at h'
                obtain ⟨q', q1, q2, q3⟩ := (y5 i hi).2 t' h'
                refine ⟨q', by rw [List.getElem?_set_ne (fun h => e h.symm)]; exact q1, q2, q3.keepT F3 nVs⟩
            · have hi2' : up (gRs (nPg R s)) m (some t) i = none := hi2
              have e : i ≠ m := fun e => by subst e; rw [up_eq] at hi2'; cases hi2'
              rw [up_ne e] at hi2'
              obtain ⟨ws', j', w1, w2, w3⟩ := y6 i hi hi2' hi3
              have hj' : 113 ≤ j' := by
                obtain ⟨hn', en⟩ := List.getElem?_eq_some_iff.mp w2
                rcases JS2.2.2 i hn' with e | ⟨j'', ws'', e, _, hj'⟩
                · rw [en] at e; cases e
                · rw [en] at e; cases e; exact hj'
              exact ⟨ws', j', w1, w2, w3.keep F3 (by unfold wR; omega) (by unfold wR; omega) (by unfold wR; omega)⟩
          refine k92 (d := d) hs6 (gOk_kp (hR.2.1 s) b5 tg) P3 (by have := A1.2.2.2; have := F2.1; have := F3.1; omega) (fun hp4 F4 G4 P4 => ⟨rfl, ?_⟩)
          have eF : aFg E R s m = gSe (gKp (nPg R s) m t) := by unfold aFg; rw [ht']; exact if_pos b3
          rw [← eF] at P4
          have A4 : cA hp4 E tr sr (rUp (aDe R n) s (aFg E R s m)) JL := A2.pv hs6 (F3.tr (F4.mono (fun x _ e => Or.inl e))) (by show cPr hp4 s (up (nPg R) s (aFg E R s m) s) (JL s); rw [up_eq]; exact P4) ⟨rfl, rfl, rfl, rfl, rfl, rfl⟩ (fun i hi => up_ne hi) (fun i _ => by
            show gCm (up (nPg R) s (aFg E R s m) s) i = gCm (nPg R s) i
            rw [up_eq, (aFg_ok hR hk).2.2.1])
          refine k99_142 (R := aDe R n) hs6 (hst hne) (aFg_ok hR hk).1.1 A4 (fun hp5 F5 G5 A5 => ?_)
          exact H1 n rfl s m hk hp5 (((((F01.mono (fun x _ e => by unfold wRun; omega)).tr (F2.mono (fun x _ e => e.elim))).tr (F3.mono (fun x _ e => by unfold wR at e; unfold wRun; omega))).tr (F4.mono (fun x _ e => by unfold wRun; omega))).tr F5) ((((((G0.tr G1).tr G2.h).tr G3.h).tr G4).tr G5).mono (by omega) (by omega)) A5
        · have P3 : cPr hp3 s (nPg R s) (JL s) := ⟨lv2, jc2, oc2 - 1, nj2, tk2, out2, rl2.set m (.ref q), PV3, kJ F3, RS3, fun _ => hrl3, ho2, F3.at e02 (by unfold wR; omega), fun h => absurd b3 (by omega), fun h => absurd b3 (by omega), fun h => absurd b3 (by omega)⟩
          refine k92 (d := d) hs6 (hR.2.1 s) P3 (by have := A1.2.2.2; have := F2.1; have := F3.1; omega) (fun hp4 F4 G4 P4 => ⟨rfl, ?_⟩)
          have eG : gSe (nPg R s) = nPg R s := if_neg (fun h => by have := h.1; omega)
          have eF : aFg E R s m = nPg R s := by unfold aFg; rw [ht']; exact if_neg (by omega)
          rw [eG, ← eF] at P4
          have A4 : cA hp4 E tr sr (rUp (aDe R n) s (aFg E R s m)) JL := A2.pv hs6 (F3.tr (F4.mono (fun x _ e => Or.inl e))) (by show cPr hp4 s (up (nPg R) s (aFg E R s m) s) (JL s); rw [up_eq]; exact P4) ⟨rfl, rfl, rfl, rfl, rfl, rfl⟩ (fun i hi => up_ne hi) (fun i _ => by
            show gCm (up (nPg R) s (aFg E R s m) s) i = gCm (nPg R s) i
            rw [up_eq, eF])
          refine k99_142 (R := aDe R n) hs6 (hst hne) (aFg_ok hR hk).1.1 A4 (fun hp5 F5 G5 A5 => ?_)
          exact H1 n rfl s m hk hp5 (((((F01.mono (fun x _ e => by unfold wRun; omega)).tr (F2.mono (fun x _ e => e.elim))).tr (F3.mono (fun x _ e => by unfold wR at e; unfold wRun; omega))).tr (F4.mono (fun x _ e => by unfold wRun; omega))).tr F5) ((((((G0.tr G1).tr G2.h).tr G3.h).tr G4).tr G5).mono (by omega) (by omega)) A5
      · intro hnn
        refine ⟨rfl, ?_⟩
        have b3' : gPh (nPg R s) = 3 := by
          rcases b3 with b3 | b3
          · exact absurd (((z12 b3).2.2.2.2.1 m b2).1 (b6 b3).1) hnn
          · exact b3
        refine k92 (d := d) hs6 (hR.2.1 s) (A2.2.2.1.2.2.2 s hs6) (by have := A1.2.2.2; have := F2.1; omega) (fun hp4 F4 G4 P4 => ⟨rfl, ?_⟩)
        have eG : gSe (nPg R s) = nPg R s := if_neg (fun h => by have : gPh (nPg R s) = 1 := h.1; omega)
        have eF : aFg E R s m = nPg R s := by unfold aFg; rw [ht']; exact if_neg (by omega)
        rw [eG, ← eF] at P4
        have A4 : cA hp4 E tr sr (rUp (aDe R n) s (aFg E R s m)) JL := A2.pv hs6 (F4.mono (fun x _ e => Or.inl e)) (by show cPr hp4 s (up (nPg R) s (aFg E R s m) s) (JL s); rw [up_eq]; exact P4) ⟨rfl, rfl, rfl, rfl, rfl, rfl⟩ (fun i hi => up_ne hi) (fun i _ => by
          show gCm (up (nPg R) s (aFg E R s m) s) i = gCm (nPg R s) i
          rw [up_eq, eF])
        refine k99_142 (R := aDe R n) hs6 (hst hne) (aFg_ok hR hk).1.1 A4 (fun hp5 F5 G5 A5 => ?_)
        exact H1 n rfl s m hk hp5 ((((F01.mono (fun x _ e => by unfold wRun; omega)).tr (F2.mono (fun x _ e => e.elim))).tr (F4.mono (fun x _ e => by unfold wRun; omega))).tr F5) (((((G0.tr G1).tr G2.h).tr G4).tr G5).mono (by omega) (by omega)) A5
    · intro ht hp2 F2 G2
      have ht' : aRes (eTo E s).1 ((gCm (nPg R s) m).getD []) = none := by rw [hcm]; exact ht
      have A2 := A1.app F2
      obtain ⟨lv2, jc2, oc2, nj2, tk2, out2, rl2, PV2, JS2, RS2, hr2, ho2, e02, z02, z12, z22⟩ := id (A2.2.2.1.2.2.2 s hs6)
      obtain ⟨ls2, p02, _⟩ := id PV2
      obtain ⟨PV3, F3, G3⟩ := PV2.put jc2 oc2 nj2 tk2 3 out2
      have eF : aFg E R s m = (3, (nPg R s).2) := by unfold aFg; rw [ht']
      have P3 : cPr (hp2.set (56 + 5 * s) (5, pvL s lv2.length jc2 oc2 nj2 tk2 3 out2)) s (aFg E R s m) (JL s) := by
        rw [eF]
        refine ⟨lv2, jc2, oc2, nj2, tk2, out2, rl2, PV3, ⟨F3.at JS2.1 (by omega), JS2.2.1, fun i hi => ?_⟩, ⟨F3.at RS2.1 (by omega), RS2.2⟩, hr2, ho2, F3.at e02 (by omega), fun h => absurd h (by show ¬ 3 = 0; omega), fun h => absurd h (by show ¬ 3 = 1; omega), fun h => absurd h (by show ¬ 3 = 2; omega)⟩
        rcases JS2.2.2 i hi with e | ⟨j', ws', e, Jw, hj'⟩
        · exact Or.inl e
        · exact Or.inr ⟨j', ws', e, Jw.keep F3 (by omega) (by omega) (by omega), hj'⟩
      have A3 : cA (hp2.set (56 + 5 * s) (5, pvL s lv2.length jc2 oc2 nj2 tk2 3 out2)) E tr sr (rUp (aDe R n) s (aFg E R s m)) JL := A2.pv hs6 (F3.mono (fun x _ e => Or.inl e)) (by show cPr _ s (up (nPg R) s (aFg E R s m) s) (JL s); rw [up_eq]; exact P3) ⟨rfl, rfl, rfl, rfl, rfl, rfl⟩ (fun i hi => up_ne hi) (fun i _ => by
        show gCm (up (nPg R) s (aFg E R s m) s) i = gCm (nPg R s) i
        rw [up_eq, (aFg_ok hR hk).2.2.1])
      refine ⟨_, rfl, w99_110 ⟨rfl, Or.inl ⟨rfl, rfl, _, _, rfl, p02, Nat.le_of_ble_eq_true rfl, rfl, ?_⟩⟩⟩
      refine k99_142 (R := aDe R n) hs6 (hst hne) (aFg_ok hR hk).1.1 A3 (fun hp5 F5 G5 A5 => ?_)
      exact H1 n rfl s m hk hp5 ((((F01.mono (fun x _ e => by unfold wRun; omega)).tr (F2.mono (fun x _ e => e.elim))).tr (F3.mono (fun x _ e => by unfold wRun; omega))).tr F5) (((((G0.tr G1).tr G2.h).tr G3.h).tr G5).mono (by omega) (by omega)) A5
theorem k98 {E : mEv} {tr sr : Nat → Nat} {R : mRn} {JL : Nat → List Value} {k : Int32} (hE : eOk E) (hR : rOk E R) (S : cSr hp E) (A : cA hp E tr sr R JL) (hst : nAc R ≠ [] → nSt R ≠ 0)
    (H1 : ∀ n : Nat, k = nI n → n < (nAc R).length → ∀ hp' JL', cE wRun hp hp' → cB 1042 8185 hp hp' JL JL' → cA hp' E tr sr (aFin E R n) JL' → rOk E (aFin E R n) → Q (some (.int 1)) hp')
    (H0 : (∀ n : Nat, n < (nAc R).length → k ≠ nI n) → Q (some (.int 0)) hp) : mm_R X (d + 11) 98 0 (mm_L0 98 [.ref 0, .int k]) [] hp Q := by
  obtain ⟨⟨s1, i1', r12, e1, e2, e3⟩, _⟩ := id A.2.2.1
  refine w98_0 ⟨_, _, _, rfl, S, rfl, ⟨_, _, rfl, r12⟩, k99 (d := d) hE hR A hst ?_ (fun h => ⟨_, rfl, fun g => absurd rfl g, fun _ => H0 h⟩)⟩
  intro n ek s m hk hp1 F1 G1 A1
  have hn := (List.getElem?_eq_some_iff.mp hk).1
  have hne : nAc R ≠ [] := fun e => by rw [e] at hn; exact absurd hn (Nat.not_lt_zero _)
  have S1 : cSr hp1 E := F1.at S (by unfold wRun; omega)
  obtain ⟨s1', i1'', r12', _⟩ := id A1.2.2.1.1
  have eF : aFin E R n = aAd E (rPg (aDe R n) s (aFg E R s m)) := by unfold aFin; rw [hk]
  refine ⟨_, rfl, fun _ => ⟨_, _, _, rfl, S1, rfl, ⟨_, _, rfl, r12'⟩, k59 (d := d) hE A1 (rOk_fin hR hk) (hst hne) (fun hp2 JL2 F2 B2 A2 R2 => ⟨rfl, ?_⟩)⟩, fun g => absurd g (by decide)⟩
  rw [← eF] at A2 R2
  exact H1 n ek hn hp2 JL2 (F1.tr F2) ((G1.b.tr B2).mono (by omega) (by omega)) A2 R2
end CFJ
