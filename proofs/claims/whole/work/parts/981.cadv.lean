/-! THE CLASS ADVANCES: expansions -/
theorem cA.set12 {hp : mm_H} {E : mEv} {tr sr : Nat → Nat} {R R' : mRn} {JL : Nat → List Value} {s1 i1 s2 i2 : Value} (h : cA hp E tr sr R JL) (h12 : hp[12]? = some (3, rnL R s1 i1)) (eP : nPg R' = nPg R) (eA : nAc R' = nAc R) (hs : mw_nr s2 ∧ mw_nr i2 ∧ (nSt R' ≠ 0 → s2 = .ref 11 ∧ i2 = .ref 3)) : cA (hp.set 12 (3, rnL R' s2 i2)) E tr sr R' JL ∧ cE wRun hp (hp.set 12 (3, rnL R' s2 i2)) ∧ cG 0 hp (hp.set 12 (3, rnL R' s2 i2)) := by
  obtain ⟨h1, h2, ⟨h3, h4, h5, h6⟩, h7⟩ := h
  have l0 := (List.getElem?_eq_some_iff.mp h12).1
  have F : cE (fun x => x = 12) hp (hp.set 12 (3, rnL R' s2 i2)) := cE.set rfl
  have h20 : ∃ cs, hp[20]? = some (2002, cs) := ⟨_, h1.2.2.2.1⟩
  have q : qY hp (fun x => x = 12) := fun x hx e => by subst e; exact Or.inr ⟨nV.of h12 (by decide) (by decide) (by decide), Or.inl (by omega)⟩
  have h113 : (hp.set 12 (3, rnL R' s2 i2)).length = hp.length := List.length_set
  refine ⟨⟨?_, h2.keepY h20 F q (by omega) (by omega) (by omega), ⟨⟨s2, i2, List.getElem?_set_self l0, hs⟩, F.at h4 (by omega), ?_, fun k hk => ?_⟩, by omega⟩, F.mono (fun x _ e => Or.inl e), ?_, ?_⟩
  · obtain ⟨a0, a1, a2, a3, a4, a5, a6, a7, a8, a9, a10, a11⟩ := h1
    have kc : ∀ {x : Nat} {c : mm_C}, hp[x]? = some c → x ≠ 12 → (hp.set 12 (3, rnL R' s2 i2))[x]? = some c := fun hx h => F.at hx h
    refine ⟨kc a0 (by omega), kc a1 (by omega), kc a2 (by omega), kc a3 (by omega), ?_, ?_, ?_, ?_, fun p hp4 => ⟨?_, ?_, ?_⟩, ?_, ?_, ?_⟩
    · obtain ⟨n, jk, b1, b2, b3⟩ := a4; exact ⟨n, jk, kc b1 (by omega), kc b2 (by omega), b3⟩
    · obtain ⟨n, jk, b1, b2, b3⟩ := a5; exact ⟨n, jk, kc b1 (by omega), kc b2 (by omega), b3⟩
    · obtain ⟨x2, x3, x4, x5, x6, cs, b1, b2, b3⟩ := a6; exact ⟨x2, x3, x4, x5, x6, cs, kc b1 (by omega), kc b2 (by omega), b3⟩
    · obtain ⟨x2, x3, x4, x5, x6, cs, b1, b2, b3⟩ := a7; exact ⟨x2, x3, x4, x5, x6, cs, kc b1 (by omega), kc b2 (by omega), b3⟩
    · obtain ⟨x2, x3, x4, x5, x6, cs, b1, b2, b3⟩ := (a8 p hp4).1; exact ⟨x2, x3, x4, x5, x6, cs, kc b1 (by omega), kc b2 (by omega), b3⟩
    · obtain ⟨x2, x3, x4, x5, x6, cs, b1, b2, b3⟩ := (a8 p hp4).2.1; exact ⟨x2, x3, x4, x5, x6, cs, kc b1 (by omega), kc b2 (by omega), b3⟩
    · obtain ⟨x2, x3, x4, x5, x6, cs, b1, b2, b3⟩ := (a8 p hp4).2.2; exact ⟨x2, x3, x4, x5, x6, cs, kc b1 (by omega), kc b2 (by omega), b3⟩
    · obtain ⟨y, b⟩ := a9; exact ⟨y, kc b (by omega)⟩
    · obtain ⟨y, b⟩ := a10; exact ⟨y, kc b (by omega)⟩
    · obtain ⟨y, b⟩ := a11; exact ⟨y, kc b (by omega)⟩
  · exact h5.keep F (by omega) (fun k n hk j ws Jw hj x hx w w' => by unfold wJ at w'; omega) eA (fun k n hk => by rw [eP])
  · rw [eP]
    exact (h6 k hk).keepY h20 F q (fun x hx w => ⟨by omega, fun j n ws _ h w' => by unfold wJ at w'; omega⟩)
  · rw [List.length_set]; omega
  · rw [mm_sz_set (c' := (3, rnL R' s2 i2)) h12 rfl]; omega
theorem aCt_cN {job : Nat → Option (Option (List (List Nat)))} : ∀ N, (∀ i, i < N → job i ≠ none) → aCt job N = ((List.range N).filter (fun n => (if n < N ∧ job n = some none then some (Lean.RArray.leaf none : mT) else none).isNone)).length := by
  have key : ∀ (M N : Nat), M ≤ N → (∀ i, i < N → job i ≠ none) → aCt job M = ((List.range M).filter (fun n => (if n < N ∧ job n = some none then some (Lean.RArray.leaf none : mT) else none).isNone)).length := by
    intro M
    induction M with
    | zero => intro N _ _; rfl
    | succ M ih =>
      intro N hMN h
      rw [List.range_succ, List.filter_append, List.length_append, ← ih N (by omega) h]
      show aCt job M + _ = _
      congr 1
      have := h M (by omega)
      cases e : job M with
      | none => exact absurd e this
      | some o =>
        cases o with
        | none =>
          have : (List.filter (fun n => (if n < N ∧ job n = some none then some (Lean.RArray.leaf none : mT) else none).isNone) [M]) = [] := by
            rw [List.filter_cons_of_neg]
            · rfl
            · rw [if_pos ⟨by omega, e⟩]; simp
          rw [this]; rfl
        | some ws =>
          have : (List.filter (fun n => (if n < N ∧ job n = some none then some (Lean.RArray.leaf none : mT) else none).isNone) [M]) = [M] := by
            rw [List.filter_cons_of_pos]
            · rfl
            · rw [if_neg (fun g => by rw [e] at g; cases g.2)]; rfl
          rw [this]; rfl
  exact fun N h => key N N (Nat.le_refl _) h
section CAD
variable {X : List Int32} {d : Nat} {hp : mm_H} {Q : Option Value → mm_H → Prop}
theorem cA.x61 {E : mEv} {tr sr : Nat → Nat} {R : mRn} {JL : Nat → List Value} {s : Nat} (hE : eOk E) (hR : rOk E R) (h : cA hp E tr sr R JL) (hn : aNx E R = some s)
    (H1 : ∀ N, aExp (eSt E s) (eTo E s) (sV E R) = some N → ∀ hp' jl' lv jc oc nj tk out, cE (wX s (JL s)) hp hp' → (∀ JL' : Nat → List Value, cB 0 0 hp hp' JL (up JL s jl')) → cEx hp' → cPv hp' s lv jc oc nj tk 0 out → (∀ hp'', cE (fun x => x = 56 + 5 * s) hp' hp'' → cPv hp'' s lv jc oc nj tk 1 out → cPr hp'' s (aX1 E R s N) jl') → Q (some (.int 1)) hp')
    (H0 : aExp (eSt E s) (eTo E s) (sV E R) = none → ∀ hp' jl' lv jc oc nj tk out, cE (wX s (JL s)) hp hp' → (∀ JL' : Nat → List Value, cB 0 0 hp hp' JL (up JL s jl')) → cEx hp' → cPv hp' s lv jc oc nj tk 0 out → (∀ hp'', cE (fun x => x = 56 + 5 * s) hp' hp'' → cPv hp'' s lv jc oc nj tk 3 out → cPr hp'' s (3, [], 0, fun _ => none, fun _ => none, fun _ => false, .leaf none) jl') → Q (some (.int 0)) hp') : mm_R X (d + 7) 61 0 (mm_L0 61 [.ref 13, .ref (sr s), .ref (56 + 5 * s), .ref 52, .ref 3]) [] hp Q := by
  obtain ⟨EX, EN, ⟨_, h52, _, hP⟩, hl⟩ := id h
  obtain ⟨⟨li, i1, i2, i3⟩, ⟨lt, t1, t2, t3, t4⟩, ⟨ls, s1, s2, s3, s4⟩⟩ := id EN
  obtain ⟨n1, n2, n3⟩ := aNx_ok hn
  have hk := hR.1
  have hs6 : s < 6 := by omega
  obtain ⟨b1, b2, b3, b4⟩ := s4 s (by omega)
  obtain ⟨c1, c2, c3⟩ := t4 _ b3
  obtain ⟨o1, o2⟩ := hE.1 _ b3
  have hso := hE.2.1 s (by omega)
  obtain ⟨lv, jc, oc, nj, tk, out, rl, PV, JS, RS, hr, ho, e0, z0, z1, z2⟩ := hP s hs6
  obtain ⟨rfl, rfl, rfl, rfl, znul⟩ := z0 n2
  have eN2 : nI (gPh (nPg R s)) = 0 := by rw [n2]; rfl
  rw [eN2] at PV
  have SV := sV_gd hE hR hn
  have F : cFp hp (sr s) (tr (sTl (eSt E s))) (eSt E s) (eTo E s) (sV E R) := by
    refine ⟨EX, b4, c3, fun p hp4 c hc => ?_, h52, li, i1, i2⟩
    rcases (hso.1 p).2 c hc with g | g
    · obtain ⟨q, q1, q2, q3⟩ := i3 c g
      refine ⟨q, Or.inl ⟨g, li, i1, i2, q1⟩, q2, ?_⟩
      unfold sV; rw [if_pos g]; exact q3
    · obtain ⟨y1, y2⟩ := (SV p hp4 c hc).2 g.1
      obtain ⟨lv', jc', oc', nj', tk', out', rl', ⟨ls', p0', _⟩, _, _, _, _, _, _, _, z2'⟩ := hP (c - 10) (by omega)
      obtain ⟨q, q1, q2, q3⟩ := z2' y1
      refine ⟨q, Or.inr ⟨g.1, g.2, _, p0', by rw [q1]; rfl⟩, q2, ?_⟩
      unfold sV; rw [if_neg (by omega)]; exact q3
  have XP : cXp hp s (sr s) (tr (sTl (eSt E s))) (eSt E s) (eTo E s) [] 0 0 0 tk 0 out (JL s) rl := ⟨EX, b4, c3, PV, JS, RS⟩
  have e60 : ∀ {hp' : mm_H}, cE (wX s (JL s)) hp hp' → hp'[60 + 5 * s]? = some (2, [.null, .null, .int 3, .int 0, .int 0, .int 1, .int 2]) := fun F' => F'.at e0 (fun w => by
    rcases w with w | w | ⟨j, hj, w⟩
    · unfold wE at w; omega
    · omega
    · obtain ⟨n, hn', en⟩ := List.getElem_of_mem hj
      rcases JS.2.2 n hn' with e | ⟨j', ws, e, Jw, hj'⟩
      · rw [en] at e; cases e
      · rw [en] at e; cases e; unfold wJ at w; omega)
  have kJ : ∀ {hp1 hp2 : mm_H} {jl : List Value}, cJs hp1 s jl → cE (fun x => x = 56 + 5 * s) hp1 hp2 → cJs hp2 s jl := fun {hp1 hp2 jl} J F' => ⟨F'.at J.1 (by omega), J.2.1, fun n hn' => by
    rcases J.2.2 n hn' with e | ⟨j, ws, e, Jw, hj⟩
    · exact Or.inl e
    · exact Or.inr ⟨j, ws, e, Jw.keep F' (by omega) (by omega) (by omega), hj⟩⟩
  refine k61 hso o1 o2 hs6 b2 c2 hl (fun p hp4 c hc => (SV p hp4 c hc).1) F XP znul ?_ ?_
  · intro N hN hp1 jl1 rl1 k F1 G1 hk1 XP1 DN1 RN1
    obtain ⟨EX1, ST1, TO1, PV1, JS1, RS1⟩ := XP1
    obtain ⟨x1, x2, x3⟩ := aExp_iff.mp hN
    have hN16 := (aJobs_pos x2).1
    have hnu := NU_up (JL := JL) (jl := jl1) hs6
    refine H1 N hN hp1 jl1 _ _ _ _ _ _ F1 (fun _ => ⟨by have := G1.1; omega, by have := G1.2; omega⟩) EX1 PV1 (fun hp2 F2 PV2 => ?_)
    have RS2 : cRs hp2 s rl1 := ⟨F2.at RS1.1 (by omega), RS1.2⟩
    have c14 : cT cS hp2 (.leaf none) 14 := cT_leaf.mpr (by
      obtain ⟨n, jk, y1, y2, y3⟩ := EX1.2.2.2.2.1
      exact ⟨n, jk, F2.at y1 (by omega), F2.at y2 (by omega), y3⟩)
    have hcase : ∀ n, n < 16 → ((n < N ∧ aJb E R s n = some none) ∧ rl1[n]? = some (.ref 14)) ∨ (¬ (n < N ∧ aJb E R s n = some none) ∧ rl1[n]? = some .null) := fun n hn' => by
      by_cases hnN : n < N
      · have hne := x3 n hnN
        cases ej : aJob (eSt E s) (eTo E s) (aWh (eSt E s) (eTo E s) (sV E R)) n with
        | none => exact absurd ej hne
        | some o =>
          cases o with
          | none => exact Or.inl ⟨⟨hnN, ej⟩, (DN1 n hnN).1 ej⟩
          | some ws => exact Or.inr ⟨(fun g => by have := g.2; unfold aJb at this; rw [ej] at this; cases this), ((DN1 n hnN).2 ws ej).1⟩
      · exact Or.inr ⟨fun g => hnN g.1, RN1 n (by omega) hn'⟩
    refine ⟨_, _, _, _, _, _, rl1, PV2, kJ JS1 F2, RS2, fun _ v hv => ?_, ho, F2.at (e60 F1) (by omega), fun g => absurd g (by show ¬ 1 = 0; omega), fun _ => ⟨rfl, rfl, ?_, ⟨0, rfl, Nat.zero_le _, fun n hn' _ => ⟨fun g => absurd g (by show ¬ false = true; decide), fun g => absurd g (Nat.not_lt_zero _)⟩⟩, fun n hn' => ⟨fun g => ?_, fun t g => ?_⟩, fun n hn' g _ => ?_⟩, fun g => absurd g (by show ¬ 1 = 2; omega)⟩
    · obtain ⟨n, hn', en⟩ := List.getElem_of_mem hv
      have hg : rl1[n]? = some v := by rw [List.getElem?_eq_getElem hn', en]
      rcases hcase n (by rw [RS1.2] at hn'; exact hn') with g | g
      · rw [g.2] at hg; cases hg; exact Or.inr ⟨_, rfl⟩
      · rw [g.2] at hg; cases hg; exact Or.inl rfl
    · rw [aCt_cN N x3]; rfl
    · have g' : (if n < N ∧ aJb E R s n = some none then some (Lean.RArray.leaf none : mT) else none) = none := g
      rcases hcase n hn' with c | c
      · rw [if_pos c.1] at g'; cases g'
      · exact c.2
    · have g' : (if n < N ∧ aJb E R s n = some none then some (Lean.RArray.leaf none : mT) else none) = some t := g
      rcases hcase n hn' with c | c
      · rw [if_pos c.1] at g'; cases g'
        exact ⟨14, c.2, Or.inl (by omega), c14⟩
      · rw [if_neg c.1] at g'; cases g'
    · have hn' : n < N := hn'
      have g' : (if n < N ∧ aJb E R s n = some none then some (Lean.RArray.leaf none : mT) else none) = none := g
      have hne := x3 n hn'
      cases ej : aJob (eSt E s) (eTo E s) (aWh (eSt E s) (eTo E s) (sV E R)) n with
      | none => exact absurd ej hne
      | some o =>
        cases o with
        | none => rw [if_pos ⟨hn', ej⟩] at g'; cases g'
        | some ws =>
          obtain ⟨_, j, y1, y2⟩ := (DN1 n hn').2 ws ej
          have hj : 113 ≤ j := by
            obtain ⟨hn2, en⟩ := List.getElem?_eq_some_iff.mp y1
            rcases JS1.2.2 n hn2 with e | ⟨j', ws', e, _, hj'⟩
            · rw [en] at e; cases e
            · rw [en] at e; cases e; exact hj'
          refine ⟨ws, j, ?_, y1, y2.keep F2 (by omega) (by omega) (by omega)⟩
          show (aJb E R s n).getD none = some ws
          unfold aJb; rw [ej]; rfl
  · intro hN hp1 jl1 rl1 lv1 oc1 k F1 G1 hk1 XP1
    obtain ⟨EX1, ST1, TO1, PV1, JS1, RS1⟩ := XP1
    have hnu := NU_up (JL := JL) (jl := jl1) hs6
    refine H0 hN hp1 jl1 _ _ _ _ _ _ F1 (fun _ => ⟨by have := G1.1; omega, by have := G1.2; omega⟩) EX1 PV1 (fun hp2 F2 PV2 => ?_)
    refine ⟨_, _, _, _, _, _, rl1, PV2, kJ JS1 F2, ⟨F2.at RS1.1 (by omega), RS1.2⟩, fun g => absurd g (by show ¬ 0 < 0; omega), ho, F2.at (e60 F1) (by omega), fun g => absurd g (by show ¬ 3 = 0; omega), fun g => absurd g (by show ¬ 3 = 1; omega), fun g => absurd g (by show ¬ 3 = 2; omega)⟩
end CAD
