/-! THE CLASS EXPANDS A STEP: the jobs -/
theorem cPt.keepR {Z W : Nat → Prop} {hp hp' : mm_H} {a : Nat} {pt : Nat → mT} (P : cPt cS Z hp a pt) (E : cE W hp hp') (Y : cX cS hp hp') (ha : ¬ W a) (hq : ∀ q vs, Z q → hp[q]? = some (2, vs) → ¬ W q ∧ ∀ u cs, hp[q + 1]? = some (u, cs) → u ≠ 2 → ¬ W (q + 1)) : cPt cS Z hp' a pt := by
  obtain ⟨q, h, hqs⟩ := P
  refine ⟨q, E.at h ha, fun i hi => ⟨(hqs i hi).1, ?_⟩⟩
  obtain ⟨vs, hx⟩ := (hqs i hi).2.tag
  obtain ⟨a1, a2⟩ := hq _ vs (hqs i hi).1 hx
  exact (hqs i hi).2.keepZ E Y a1 a2
theorem cEx.heads {hp : mm_H} (h : cEx hp) : ∀ x, x = 21 ∨ x = 23 ∨ x = 32 ∨ x = 38 ∨ x = 44 ∨ x = 50 → ∃ vs, hp[x]? = some (2, vs) := by
  obtain ⟨a1, a2, a3, a4, a5, a6, a7, a8, a9, _⟩ := h
  have g : ∀ r, cRm hp r → ∃ vs, hp[r]? = some (2, vs) := fun r m => by obtain ⟨_, _, _, _, _, _, m, _⟩ := m; exact ⟨_, m⟩
  rintro x (rfl | rfl | rfl | rfl | rfl | rfl)
  · exact g _ a7
  · exact g _ a8
  · exact g _ (a9 0 (by omega)).1
  · exact g _ (a9 1 (by omega)).1
  · exact g _ (a9 2 (by omega)).1
  · exact g _ (a9 3 (by omega)).1
/-- whole and before stay while rules are worked -/
theorem cPt.keep75 {W : Nat → Prop} {hp hp' : mm_H} {a : Nat} {pt : Nat → mT} (P : cPt cS zW hp a pt) (E : cE W hp hp') (hW : ∀ x, W x → w75 x ∨ x = 26) (EX : cEx hp) (ha : ¬ W a) : cPt cS zW hp' a pt := by
  have hWE : ∀ x, W x → wE x := fun x h => by
    rcases hW x h with g | g
    · exact w75_wE g
    · rw [g]; unfold wE; omega
  refine P.keepR E (E.xs hWE ⟨_, EX.2.2.2.1⟩) ha (fun q vs zq hx => ?_)
  obtain ⟨qa, b1⟩ := EX.2.2.2.2.2.2.2.2.2.1
  obtain ⟨qb, b2⟩ := EX.2.2.2.2.2.2.2.2.2.2.1
  obtain ⟨qc, b3⟩ := EX.2.2.2.2.2.2.2.2.2.2.2
  have n25 : q ≠ 25 := fun e => by rw [e, b1] at hx; cases hx
  have n26 : q ≠ 26 := fun e => by rw [e, b2] at hx; cases hx
  have n27 : q ≠ 27 := fun e => by rw [e, b3] at hx; cases hx
  have n2x : ∀ x, x = 22 ∨ x = 24 ∨ x = 33 ∨ x = 39 ∨ x = 45 ∨ x = 51 → q ≠ x := by
    have g : ∀ r, cRm hp r → q ≠ r + 1 := fun r m e => by obtain ⟨_, _, _, _, _, _, _, m, _⟩ := m; rw [e, m] at hx; cases hx
    obtain ⟨a1, a2, a3, a4, a5, a6, a7, a8, a9, _⟩ := EX
    rintro x (rfl | rfl | rfl | rfl | rfl | rfl)
    · exact g 21 a7
    · exact g 23 a8
    · exact g 32 (a9 0 (by omega)).1
    · exact g 38 (a9 1 (by omega)).1
    · exact g 44 (a9 2 (by omega)).1
    · exact g 50 (a9 3 (by omega)).1
  have p2 := n2x 22 (by omega)
  have p3 := n2x 24 (by omega)
  have p4 := n2x 33 (by omega)
  have p5 := n2x 39 (by omega)
  have p6 := n2x 45 (by omega)
  have p7 := n2x 51 (by omega)
  unfold zW at zq
  refine ⟨fun w => ?_, fun u cs hc hu w => ?_⟩
  · rcases hW q w with g | g
    · unfold w75 wM at g; omega
    · omega
  · have hd := EX.heads
    rcases hW _ w with g | g
    · unfold w75 wM at g
      have : q + 1 = 21 ∨ q + 1 = 23 ∨ q + 1 = 32 ∨ q + 1 = 38 ∨ q + 1 = 44 ∨ q + 1 = 50 := by omega
      obtain ⟨vs', hv⟩ := hd _ this
      rw [hv] at hc; cases hc; exact hu rfl
    · omega
theorem cPt.keepC {hp hp' : mm_H} {a : Nat} {pt : Nat → mT} (P : cPt cS zA hp a pt) (E : cE (cW2 21 23) hp hp') (EX : cEx hp) (ha : ¬ cW2 21 23 a) : cPt cS zA hp' a pt := by
  refine P.keepR E (E.xs (fun x h => by unfold cW2 at h; omega) ⟨_, EX.2.2.2.1⟩) ha (fun q vs zq hx => ?_)
  obtain ⟨a1, a2, a3, a4, a5, a6, a7, a8, a9, _⟩ := id EX
  obtain ⟨_, _, _, _, _, _, m1, m2, _⟩ := a7
  obtain ⟨_, _, _, _, _, _, m3, m4, _⟩ := a8
  have n1 : q ≠ 22 := fun e => by rw [e, m2] at hx; cases hx
  have n2 : q ≠ 24 := fun e => by rw [e, m4] at hx; cases hx
  unfold zA at zq
  refine ⟨fun w => by unfold cW2 at w; omega, fun u cs hc hu w => ?_⟩
  unfold cW2 at w
  have : q + 1 = 21 ∨ q + 1 = 23 := by omega
  rcases this with e | e
  · rw [e, m1] at hc; cases hc; exact hu rfl
  · rw [e, m3] at hc; cases hc; exact hu rfl
/-- all that an expansion needs -/
def cXp (hp : mm_H) (s r tr : Nat) (st : mStp) (to : mTo) (lv : List Nat) (jc : Int32) (oc : Nat) (nj tk ph : Int32) (out : Value) (jl rl : List Value) : Prop := cEx hp ∧ cSt hp r tr st ∧ cTo hp tr to ∧ cPv hp s lv jc (nI oc) nj tk ph out ∧ cJs hp s jl ∧ cRs hp s rl
theorem cXp.keepE {hp hp' : mm_H} {W : Nat → Prop} {s r tr : Nat} {st : mStp} {to : mTo} {lv : List Nat} {jc : Int32} {oc : Nat} {nj tk ph : Int32} {out : Value} {jl rl : List Value} (h : cXp hp s r tr st to lv jc oc nj tk ph out jl rl) (E : cE W hp hp') (hW : ∀ x, W x → wE x) (EX : cEx hp') (hr : 113 ≤ r) (htr : 113 ≤ tr) : cXp hp' s r tr st to lv jc oc nj tk ph out jl rl := by
  obtain ⟨a, b, c, d, e, f⟩ := h
  have hWn : ∀ x, 52 ≤ x → ¬ W x := fun x h1 h2 => by have := hW x h2; unfold wE at this; omega
  have Y := E.xs (fun x h => hW x h) ⟨_, a.2.2.2.1⟩
  refine ⟨EX, b.keep E hWn Y (by omega), c.keep E (fun x h1 _ => hWn x (by omega)), d.keep E (hWn _ (by omega)) (hWn _ (by omega)), e.keep E (hWn _ (by omega)) (fun j hj x hx => ?_), E.at f.1 (hWn _ (by omega)), f.2⟩
  obtain ⟨n, hn, en⟩ := List.getElem_of_mem hj
  rcases e.2.2 n hn with g | ⟨j', ws, g, _, hj'⟩
  · rw [en] at g; cases g
  · rw [en] at g
    cases g
    exact hWn x (by unfold wJ at hx; omega)
def wX (s : Nat) (jl : List Value) (x : Nat) : Prop := wE x ∨ wS s jl x
section CX2
variable {X : List Int32} {d : Nat} {Q : Option Value → mm_H → Prop}
theorem k61_38 {s r tr N : Nat} {st : mStp} {to : mTo} {wh : Nat → mT} {lv : List Nat} {jc nj tk ph : Int32} {out : Value} (hs : sOk st) (hto : tOk to) (hord : (aOrd to.2).length = to.2.length) (hs6 : s < 6) (hr : 113 ≤ r) (htr : 113 ≤ tr) (hg : ∀ i, mt_gd (wh i)) (hN : aJobs (sMe st) (sMk st % 2 ^ to.2.length) wh = some N) : ∀ (m n : Nat) (hp : mm_H) (jl rl : List Value) (o7 o8 o9 : Option Value), n + m = N → 113 ≤ hp.length → cXp hp s r tr st to lv jc (aCt (aJob st to wh) n) nj tk ph out jl rl → cPt cS zW hp 25 wh → aDn hp s n (aJob st to wh) jl rl → (∀ i, n ≤ i → i < 16 → rl[i]? = some .null) →
    ((∀ i, n ≤ i → i < N → aJob st to wh i ≠ none) → ∀ hp' jl' rl' k, cE (wX s jl) hp hp' → cG (8 * k) hp hp' → k + nul jl' = nul jl → cXp hp' s r tr st to lv (nI N) (aCt (aJob st to wh) N) nj tk ph out jl' rl' → aDn hp' s N (aJob st to wh) jl' rl' → (∀ i, N ≤ i → i < 16 → rl'[i]? = some .null) → Q (some (.int 1)) hp') →
    (¬ (∀ i, n ≤ i → i < N → aJob st to wh i ≠ none) → ∀ hp' jl' rl' oc' k, cE (wX s jl) hp hp' → cG (8 * k) hp hp' → k + nul jl' = nul jl → cXp hp' s r tr st to lv jc oc' nj tk ph out jl' rl' → Q (some (.int 0)) hp') →
    mm_R X (d + 6) 61 38 [some (.ref 13), some (.ref r), some (.ref (56 + 5 * s)), some (.ref 52), some (.ref 3), some (.int (nI N)), some (.int (nI n)), o7, o8, o9] [] hp Q := by
  obtain ⟨hN16, _⟩ := aJobs_pos hN
  intro m
  induction m with
  | zero =>
    intro n hp jl rl o7 o8 o9 hnm hl XP PT DN RN H1 H0
    have e : n = N := by omega
    subst e
    obtain ⟨EX, ST, TO, PV, JS, RS⟩ := XP
    obtain ⟨ls, p0, p1, p2, p3⟩ := id PV
    have l0 := (List.getElem?_eq_some_iff.mp p0).1
    refine w61_38 ⟨fun _ => ⟨rfl, _, _, rfl, p0, Nat.le_of_ble_eq_true rfl, rfl, ?_⟩, fun g => absurd (Int32.le_refl _) g⟩
    have E : ∀ c : mm_C, cE (wP s) hp (hp.set (56 + 5 * s) c) := fun c => cE.set (Or.inl rfl)
    have q : qW hp (wP s) := fun x hx w => ⟨PV.nV x hx w, Or.inl (by unfold wP at w; omega)⟩
    have hJw : ∀ j ws m', cJw hp j s m' ws → 113 ≤ j → ∀ c, cJw (hp.set (56 + 5 * s) c) j s m' ws := fun j ws m' J hj c => J.keep (E c) (by unfold wP; omega) (by unfold wP; omega) (by unfold wP; omega)
    refine H1 (fun i a b => absurd b (by omega)) _ jl rl 0 ((E _).mono (fun x _ h => Or.inr (Or.inl (by unfold wP at h; omega)))) ⟨by simp, by rw [mm_sz_set p0 (by rfl)]; omega⟩ (by omega) ⟨EX.keepJ (E _) (fun x hx => by unfold wP; omega), ST.keepJ (E _) q hr, TO.keepJ (E _) q htr, ⟨ls, List.getElem?_set_self l0, by rw [List.getElem?_set_ne (by omega)]; exact p1, p2, p3⟩, JS.keep (E _) (by unfold wP; omega) (fun j hj x hx => ?_), (E _).at RS.1 (by unfold wP; omega), RS.2⟩ (fun i hi => ?_) RN
    · obtain ⟨n', hn', en⟩ := List.getElem_of_mem hj
      rcases JS.2.2 n' hn' with g | ⟨j', ws, g, _, hj'⟩
      · rw [en] at g; cases g
      · rw [en] at g
        cases g
        unfold wJ at hx; unfold wP; omega
    · obtain ⟨d1, d2⟩ := DN i hi
      refine ⟨d1, fun ws hws => ?_⟩
      obtain ⟨e1, j, e2, J⟩ := d2 ws hws
      refine ⟨e1, j, e2, hJw j ws i J ?_ _⟩
      obtain ⟨hil, ei⟩ := List.getElem?_eq_some_iff.mp e2
      rcases JS.2.2 i hil with g | ⟨j', ws', g, _, hj'⟩
      · rw [ei] at g; cases g
      · rw [ei] at g; cases g; exact hj'
  | succ m ih =>
    intro n hp jl rl o7 o8 o9 hnm hl XP PT DN RN H1 H0
    have hn16 : n < 16 := by omega
    have hnN : n < N := by omega
    obtain ⟨EX, ST, TO, PV, JS, RS⟩ := id XP
    obtain ⟨cond, srcs, ps, rs, s0, s1, sl, s2, s3, s4, s5, s6, s7, s8, s9, s10, s11⟩ := id ST
    have n4 := TO.le
    have jge : ∀ j : Nat, Value.ref j ∈ jl → 113 ≤ j := fun j hj => by
      obtain ⟨n', hn', en⟩ := List.getElem_of_mem hj
      rcases JS.2.2 n' hn' with g | ⟨j', ws, g, _, hj'⟩
      · rw [en] at g; cases g
      · rw [en] at g; cases g; exact hj'
    refine w61_38 (pk_le N n (fun g => absurd g (by omega)) (fun _ => ⟨rfl, ⟨13, _, rfl, EX.1⟩, k74 hs hg ST TO EX PT hN hnN (fun hp1 E1 G1 EX1 PB => ⟨rfl, ⟨13, _, rfl, EX1.1⟩, ?_⟩)⟩))
    have E1e : cE wE hp hp1 := E1.mono (fun x _ h => by unfold wE; omega)
    have XP1 := XP.keepE E1 (fun x h => by unfold wE; omega) EX1 hr htr
    have PT1 : cPt cS zW hp1 25 wh := PT.keep75 E1 (fun x h => Or.inr h) EX (by omega)
    have hbf : ∀ i, mt_gd (aBf (sMe st) (sMk st % 2 ^ to.2.length) wh n i) := fun i => aBf_gd hg
    -- failing
    have fail : aJob st to wh n = none → ∀ hp' jl' rl' oc' k, cE (wX s jl) hp hp' → cG (8 * k) hp hp' → k + nul jl' = nul jl → cXp hp' s r tr st to lv jc oc' nj tk ph out jl' rl' → Q (some (.int 0)) hp' := fun hj => H0 (fun g => g n (Nat.le_refl _) hnN hj)
    refine k75 (bf := aBf (sMe st) (sMk st % 2 ^ to.2.length) wh n) (af := aAo st to.2.length (aBf (sMe st) (sMk st % 2 ^ to.2.length) wh n)) hs (by omega) (by omega) hbf (fun i _ => rfl) EX1 XP1.2.1 XP1.2.2.1 PB ?_ ?_
    · intro hall hp2 E2 G2 EX2 PA
      have E2e : cE wE hp1 hp2 := E2.mono (fun x _ h => w75_wE h)
      have XP2 := XP1.keepE E2 (fun x h => w75_wE h) EX2 hr htr
      have PT2 : cPt cS zW hp2 25 wh := PT1.keep75 E2 (fun x h => Or.inl h) EX1 (by unfold w75 wM; omega)
      have haf : ∀ i, mt_gd (aAo st to.2.length (aBf (sMe st) (sMk st % 2 ^ to.2.length) wh n) i) := fun i => aAo_gd hbf
      have eJ : aJob st to wh n = (aCo st (aAo st to.2.length (aBf (sMe st) (sMk st % 2 ^ to.2.length) wh n))).bind (fun c => if aOff c = true then some none else (aCmd to.2 (aAo st to.2.length (aBf (sMe st) (sMk st % 2 ^ to.2.length) wh n))).map some) := by
        unfold aJob; rw [if_pos (aAll_iff.mpr hall)]
      -- behind the condition
      have s101 : ∀ (hp3 : mm_H) (q3 : Nat) (c : mT) (r7 : Value) (o8 o9 : Option Value), cE wE hp hp3 → cG 0 hp hp3 → cXp hp3 s r tr st to lv jc (aCt (aJob st to wh) n) nj tk ph out jl rl → cPt cS zW hp3 25 wh → cPt cS zA hp3 27 (aAo st to.2.length (aBf (sMe st) (sMk st % 2 ^ to.2.length) wh n)) → aCo st (aAo st to.2.length (aBf (sMe st) (sMk st % 2 ^ to.2.length) wh n)) = some c → cT cS hp3 c q3 → mm_R X (d + 5 + 1) 61 101 [some (.ref 13), some (.ref r), some (.ref (56 + 5 * s)), some (.ref 52), some (.ref 3), some (.int (nI N)), some (.int (nI n)), some r7, o8, o9] [.ref q3] hp3 Q := by
        intro hp3 q3 c r7 o8 o9 E3 G3 XP3 PT3 PA3 ec T3
        obtain ⟨EX3, ST3, TO3, PV3, JS3, RS3⟩ := id XP3
        obtain ⟨v3, hv3⟩ := T3.tag
        obtain ⟨ls3, pv0, _⟩ := id PV3
        rw [ec, Option.bind_some] at eJ
        have DN3 : aDn hp3 s n (aJob st to wh) jl rl := fun i hi => by
          obtain ⟨d1, d2⟩ := DN i hi
          refine ⟨d1, fun ws hws => ?_⟩
          obtain ⟨e1, j, e2, J⟩ := d2 ws hws
          have hj := jge j (List.mem_of_getElem? e2)
          exact ⟨e1, j, e2, J.keep E3 (by unfold wE; omega) (by unfold wE; omega) (by unfold wE; omega)⟩
        have hl3 : 113 ≤ hp3.length := Nat.le_trans hl E3.1
        refine w61_101 ⟨rfl, Or.inr ⟨⟨_, rfl⟩, ⟨_, _, rfl, hv3⟩, k83 T3 ⟨_, rfl, ?_⟩⟩⟩
        have hoff : (mt_k c = 0 ∨ mt_k c = 1 ∧ mt_num c = 0) ↔ aOff c = true := by
          unfold aOff
          simp only [Bool.or_eq_true, Bool.and_eq_true, beq_iff_eq]
        by_cases ho : mt_k c = 0 ∨ mt_k c = 1 ∧ mt_num c = 0
        · -- skipped
          rw [if_pos ho]
          rw [if_pos (hoff.mp ho)] at eJ
          refine ⟨fun g => absurd g (by decide), fun _ => ⟨rfl, 13, _, _, rfl, EX3.1, rfl, ⟨_, _, rfl, pv0⟩, rfl, ?_⟩⟩
          obtain ⟨n14, k14, v14, _⟩ := id EX3.2.2.2.2.1
          refine k84 PV3 RS3 hn16 v14 (fun hp4 E4 G4 RS4 => ⟨rfl, ?_⟩)
          have q4 : qW hp3 (fun x => x = 58 + 5 * s) := fun x hx w => by subst w; exact ⟨RS3.nV JS3, Or.inl (by omega)⟩
          have hct : aCt (aJob st to wh) (n + 1) = aCt (aJob st to wh) n := by rw [aCt, eJ]; rfl
          have nW : ∀ j : Nat, Value.ref j ∈ jl → ∀ x, wJ j x → ¬ x = 58 + 5 * s := fun j hj x hx => by have := jge j hj; unfold wJ at hx; omega
          have XP4 : cXp hp4 s r tr st to lv jc (aCt (aJob st to wh) (n + 1)) nj tk ph out jl (rl.set n (.ref 14)) := by
            rw [hct]
            exact ⟨EX3.keepJ E4 (fun x hx => by omega), ST3.keepJ E4 q4 hr, TO3.keepJ E4 q4 htr, PV3.keep E4 (by omega) (by omega), JS3.keep E4 (by omega) nW, RS4⟩
          have E34 : cE (wX s jl) hp hp4 := (E3.mono (fun x _ h => Or.inl h)).tr (E4.mono (fun x _ h => Or.inr (Or.inl (by omega))))
          have hrl : rl.length = 16 := RS3.2
          rw [nI_1]
          refine ih (n + 1) hp4 jl (rl.set n (.ref 14)) _ _ _ (by omega) (Nat.le_trans hl3 E4.1) XP4 (PT3.keepT E4 (fun x hx w => (q4 x hx w).1) (by omega)) (fun i hi => ?_) (fun i h1 h2 => ?_) ?_ ?_
          · by_cases ei : i = n
            · subst ei
              refine ⟨fun _ => by rw [List.getElem?_set_self (by omega)], fun ws hws => ?_⟩
              rw [eJ] at hws; cases hws
            · obtain ⟨d1, d2⟩ := DN3 i (by omega)
              refine ⟨fun h => by rw [List.getElem?_set_ne (fun g => ei g.symm)]; exact d1 h, fun ws hws => ?_⟩
              obtain ⟨e1, j, e2, J⟩ := d2 ws hws
              have hj := jge j (List.mem_of_getElem? e2)
              exact ⟨by rw [List.getElem?_set_ne (fun g => ei g.symm)]; exact e1, j, e2, J.keep E4 (by omega) (by omega) (by omega)⟩
          · rw [List.getElem?_set_ne (by omega)]; exact RN i (by omega) h2
          · intro ha hp5 jl5 rl5 k E5 G5 K5 X5 D5 R5
            refine H1 (fun i h1 h2 => ?_) hp5 jl5 rl5 k (E34.tr2 E5 (fun x _ h => h)) (((G3.tr G4).tr G5).mono (by omega)) K5 X5 D5 R5
            by_cases ei : i = n
            · subst ei; rw [eJ]; simp
            · exact ha i (by omega) h2
          · intro ha hp5 jl5 rl5 oc5 k E5 G5 K5 X5
            exact H0 (fun g => ha (fun i h1 h2 => g i (by omega) h2)) hp5 jl5 rl5 oc5 k (E34.tr2 E5 (fun x _ h => h)) (((G3.tr G4).tr G5).mono (by omega)) K5 X5
        · -- a job
          rw [if_neg ho]
          rw [if_neg (fun g => ho (hoff.mpr g))] at eJ
          refine ⟨fun _ => ⟨rfl, ⟨_, _, rfl, pv0⟩, k85 PV3 JS3 hn16 hs6 hl3 (fun hp4 j ws0 jl4 k4 E4 G4 K4 PV4 JS4 ejl hjl J4 hj4 => ⟨_, rfl, rfl, Or.inr ⟨⟨_, rfl⟩, rfl, ?_⟩⟩)⟩, fun g => absurd rfl g⟩
          have q4 : qW hp3 (fun x => 56 + 5 * s ≤ x ∧ x ≤ 57 + 5 * s) := fun x hx w => by
            have : x = 56 + 5 * s ∨ x = 57 + 5 * s := by omega
            rcases this with rfl | rfl
            · exact ⟨PV3.nV _ hx (Or.inl rfl), Or.inl (by omega)⟩
            · exact ⟨JS3.nj, Or.inl (by omega)⟩
          have ST4 := ST3.keepJ E4 q4 hr
          have TO4 := TO3.keepJ E4 q4 htr
          have EX4 : cEx hp4 := EX3.keepJ E4 (fun x hx => by omega)
          have PT4 : cPt cS zW hp4 25 wh := PT3.keepT E4 (fun x hx w => (q4 x hx w).1) (by omega)
          have PA4 := PA3.keepT E4 (fun x hx w => (q4 x hx w).1) (by omega)
          have RS4 : cRs hp4 s rl := ⟨E4.at RS3.1 (by omega), RS3.2⟩
          obtain ⟨cond4, srcs4, ps4, rs4, u0, _⟩ := id ST4
          have hjm : Value.ref j ∈ jl4 := by
            rw [ejl]
            have : n < (jl.set n (.ref j)).length := by rw [List.length_set]; have := JS3.2.1; omega
            have e : (jl.set n (.ref j))[n] = .ref j := List.getElem_set_self this
            have hm := List.getElem_mem this
            rw [e] at hm; exact hm
          refine ⟨_, _, _, rfl, u0, rfl, 13, _, _, rfl, EX4.1, rfl, J4.rc rfl, rfl, rfl, ?_⟩
          have htrJ : ∀ x, tr ≤ x → x ≤ tr + 4 → ¬ wJ j x := fun x h1 h2 w => by
            have := TO4.nJ (x - tr) (by omega)
            rw [show tr + (x - tr) = x by omega] at this
            exact this (J4.isJ w)
          -- the frame up to here
          have hw4 : ∀ x, x < hp.length → wS s jl4 x → wS s jl x := fun x hx h => by
            rcases h with h | ⟨j', hj', hw⟩
            · exact Or.inl h
            · rw [ejl] at hj'
              rcases List.mem_or_eq_of_mem_set hj' with g | g
              · exact Or.inr ⟨j', g, hw⟩
              · cases g
                rcases hjl with g | g
                · exact Or.inr ⟨j, List.mem_of_getElem? g, hw⟩
                · have := E3.1
                  unfold wJ at hw; omega
          have E34 : cE (wX s jl) hp hp4 := (E3.mono (fun x _ h => Or.inl h)).tr (E4.mono (fun x _ h => Or.inr (Or.inl (by omega))))
          have hjx : ∀ hp5, cE (wJ j) hp4 hp5 → cE (wX s jl) hp hp5 := fun hp5 E5 => E34.tr2 E5 (fun x hx w => Or.inr (hw4 x hx (Or.inr ⟨j, hjm, w⟩)))
          have q5 : qW hp4 (wJ j) := fun x hx w => ⟨J4.nV x hx w, Or.inr (J4.isJ w)⟩
          -- all kept while the command is made
          have kept : ∀ hp5 ws5, cE (wJ j) hp4 hp5 → cJw hp5 j s n ws5 → cXp hp5 s r tr st to lv jc (aCt (aJob st to wh) n + 1) nj tk ph out jl4 rl ∧ (∀ i ws' j', jl4[i]? = some (.ref j') → i ≠ n → cJw hp4 j' s i ws' → cJw hp5 j' s i ws') := by
            intro hp5 ws5 E5 J5
            have hoth : ∀ i ws' j', jl4[i]? = some (.ref j') → i ≠ n → cJw hp4 j' s i ws' → cJw hp5 j' s i ws' := by
              intro i ws' j' hi hin J'
              have hil := (List.getElem?_eq_some_iff.mp hi).1
              have h16 := JS4.2.1
              have hne : j ≠ j' := fun e => by
                subst e
                exact hin (J'.same J4 (by omega) (by omega) (by omega) (by omega)).2
              have dj := J4.dis J' hne
              exact J'.keep E5 (fun w => dj _ w (Or.inl rfl)) (fun w => dj _ w (Or.inr (Or.inl rfl))) (fun w => dj _ w (Or.inr (Or.inr rfl)))
            refine ⟨⟨EX4.keepJ E5 (fun x hx => by unfold wJ; omega), ST4.keepJ E5 q5 hr, TO4.keepJ E5 q5 htr, PV4.keep E5 (by unfold wJ; omega) (by unfold wJ; omega), ⟨E5.at JS4.1 (by unfold wJ; omega), JS4.2.1, fun i hi => ?_⟩, E5.at RS4.1 (by unfold wJ; omega), RS4.2⟩, hoth⟩
            rcases JS4.2.2 i hi with g | ⟨j', ws', g, J', hj'⟩
            · exact Or.inl g
            · by_cases ei : i = n
              · subst ei
                have ej : j' = j := by
                  have hil : i < (jl.set i (.ref j)).length := by rw [← ejl]; exact hi
                  have e1 : (jl.set i (.ref j))[i] = .ref j := List.getElem_set_self hil
                  have e2 : jl4[i] = (jl.set i (.ref j))[i] := by simp [ejl]
                  rw [e2, e1] at g
                  cases g; rfl
                subst ej
                exact Or.inr ⟨j', ws5, g, J5, hj'⟩
              · exact Or.inr ⟨j', ws', g, hoth i ws' j' (by rw [List.getElem?_eq_getElem hi, g]) ei J', hj'⟩
          refine k87 (n := n) hto hord haf htrJ (by unfold wJ; omega) TO4 PA4 J4 (fun ws5 ews hp5 E5 G5 J5 => ⟨_, rfl, fun _ => ?_, fun g => absurd g (by decide)⟩) (fun ews hp5 ws5 E5 G5 J5 => ⟨_, rfl, fun g => absurd rfl g, fun _ => ?_⟩)
          · obtain ⟨XP5, hoth⟩ := kept hp5 ws5 E5 J5
            rw [ews] at eJ
            have hct : aCt (aJob st to wh) (n + 1) = aCt (aJob st to wh) n + 1 := by rw [aCt, eJ]; rfl
            rw [← hct] at XP5
            have hjn : jl4[n]? = some (.ref j) := by
              rw [ejl]
              exact List.getElem?_set_self (by have := JS3.2.1; omega)
            rw [nI_1]
            refine ih (n + 1) hp5 jl4 rl _ _ _ (by omega) (Nat.le_trans (Nat.le_trans hl3 E4.1) E5.1) XP5 (PT4.keepT E5 J4.nV (by unfold wJ; omega)) (fun i hi => ?_) (fun i h1 h2 => RN i (by omega) h2) ?_ ?_
            · by_cases ei : i = n
              · subst ei
                refine ⟨fun h => (by rw [eJ] at h; cases h), fun ws hws => ?_⟩
                rw [eJ] at hws
                cases hws
                exact ⟨RN i (Nat.le_refl _) hn16, j, hjn, J5⟩
              · obtain ⟨d1, d2⟩ := DN3 i (by omega)
                refine ⟨d1, fun ws hws => ?_⟩
                obtain ⟨e1, j', e2, J'⟩ := d2 ws hws
                have hj' := jge j' (List.mem_of_getElem? e2)
                have e4 : jl4[i]? = some (.ref j') := by rw [ejl, List.getElem?_set_ne (fun g => ei g.symm)]; exact e2
                exact ⟨e1, j', e4, hoth i ws j' e4 ei (J'.keep E4 (by omega) (by omega) (by omega))⟩
            · intro ha hp6 jl6 rl6 k E6 G6 K6 X6 D6 R6
              refine H1 (fun i h1 h2 => ?_) hp6 jl6 rl6 (k4 + k) ((hjx hp5 E5).tr2 E6 (fun x hx w => ?_)) ((((G3.tr G4).tr G5).tr G6).mono (by omega)) (by omega) X6 D6 R6
              · by_cases ei : i = n
                · subst ei; rw [eJ]; simp
                · exact ha i (by omega) h2
              · rcases w with w | w
                · exact Or.inl w
                · exact Or.inr (hw4 x hx w)
            · intro ha hp6 jl6 rl6 oc6 k E6 G6 K6 X6
              refine H0 (fun g => ha (fun i h1 h2 => g i (by omega) h2)) hp6 jl6 rl6 oc6 (k4 + k) ((hjx hp5 E5).tr2 E6 (fun x hx w => ?_)) ((((G3.tr G4).tr G5).tr G6).mono (by omega)) (by omega) X6
              rcases w with w | w
              · exact Or.inl w
              · exact Or.inr (hw4 x hx w)
          · obtain ⟨XP5, _⟩ := kept hp5 ws5 E5 J5
            rw [ews] at eJ
            exact fail eJ hp5 jl4 rl _ k4 (hjx hp5 E5) (((G3.tr G4).tr G5).mono (by omega)) K4 XP5
      -- the condition
      obtain ⟨cond2, srcs2, ps2, rs2, u0, u1, ul, u2, u3, u4, u5, u6, u7, u8, u9, u10, u11⟩ := id XP2.2.1
      refine ⟨_, rfl, fun _ => ⟨_, _, _, rfl, u0, rfl, ?_⟩, fun g => absurd g (by decide)⟩
      rcases u10 with ⟨en, e⟩ | ⟨D, is, qr, en, hI, e, R, hqr⟩
      · rw [e]
        refine ⟨rfl, Or.inl ⟨rfl, 13, _, _, rfl, EX2.1, rfl, ?_⟩⟩
        exact s101 hp2 16 (.leaf (some (.inr []))) .null _ _ (E1e.tr E2e) (G1.tr G2) XP2 PT2 PA (by unfold aCo; rw [en]) EX2.2.2.2.2.2.1
      · rw [e]
        have hD := (hs.2.2.2.1 4 D en).1
        have eis : rIs D = is := by unfold rIs; rw [hI]; rfl
        have eC : aCo st (aAo st to.2.length (aBf (sMe st) (sMk st % 2 ^ to.2.length) wh n)) = rW (aAo st to.2.length (aBf (sMe st) (sMk st % 2 ^ to.2.length) wh n)) (.leaf none) is := by unfold aCo; rw [en]; show rW _ _ (rIs D) = _; rw [eis]
        obtain ⟨a1, a2, a3, a4, a5, a6, a7, a8, a9, _⟩ := id EX2
        have hWM : ∀ x, cW2 21 23 x → wM x := fun x h => by unfold cW2 at h; unfold wM; omega
        have hWE : ∀ x, cW2 21 23 x → wE x := fun x h => by unfold cW2 at h; unfold wE; omega
        refine ⟨rfl, Or.inr ⟨⟨_, rfl⟩, 13, _, _, rfl, a1, rfl, 13, _, _, rfl, a1, rfl, 13, _, _, rfl, a1, rfl, 13, _, _, rfl, a1, rfl, cRu.rc R rfl, rfl, rfl, rfl, rfl, ?_⟩⟩
        have kept : ∀ hp3, cE (cW2 21 23) hp2 hp3 → cRm hp3 21 → cRm hp3 23 → cEx hp3 := fun hp3 E3 m1 m2 => EX2.keepM E3 hWM m1 m2 (fun i hi => (a9 i hi).1.keep E3 (by unfold cW2; omega) (by unfold cW2; omega))
        refine k76 (S := cS) (Z := zA) (self := .leaf none) (fun q h => cS_zA h) (by unfold zA; omega) (by unfold zA; omega) (by omega) (fun i => mt_gd_g (haf i)) (by unfold zA; omega) ⟨3, by omega, mt_gl_leaf trivial⟩ R (rI_ok hD 100 0 is (by omega) hI) a7 a8 PA a5 ?_ ?_
        · intro t ht hp3 q3 E3 G3 m1 m2 T3 z3 g3
          have EX3 := kept hp3 E3 m1 m2
          have XP3 := XP2.keepE E3 hWE EX3 hr htr
          exact ⟨_, rfl, s101 hp3 q3 t (.ref qr) _ _ ((E1e.tr E2e).tr (E3.mono (fun x _ h => hWE x h))) ((G1.tr G2).tr G3) XP3 (PT2.keep75 E3 (fun x h => Or.inl (Or.inr (hWM x h))) EX2 (by unfold cW2; omega)) (PA.keepC E3 EX2 (by unfold cW2; omega)) (by rw [eC]; exact ht) T3⟩
        · intro hn hp3 E3 G3 m1 m2
          have EX3 := kept hp3 E3 m1 m2
          have XP3 := XP2.keepE E3 hWE EX3 hr htr
          refine ⟨_, rfl, w61_101 ⟨rfl, Or.inl ⟨rfl, fail ?_ hp3 jl rl _ 0 (((E1e.tr E2e).tr (E3.mono (fun x _ h => hWE x h))).mono (fun x _ h => Or.inl h)) (((G1.tr G2).tr G3).mono (by omega)) (by omega) XP3⟩⟩⟩
          rw [eJ, eC, hn]; rfl
    · intro hno hp2 E2 G2 EX2
      have XP2 := XP1.keepE E2 (fun x h => w75_wE h) EX2 hr htr
      refine ⟨_, rfl, fun g => absurd rfl g, fun _ => fail ?_ hp2 jl rl _ 0 ((E1e.tr (E2.mono (fun x _ h => w75_wE h))).mono (fun x _ h => Or.inl h)) ((G1.tr G2).mono (by omega)) (by omega) XP2⟩
      unfold aJob
      rw [if_neg (fun g => hno (aAll_iff.mp g))]
end CX2
