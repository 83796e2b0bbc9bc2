/-! THE CLASS COUNTS JOBS -/
/-- a cell that is no value's -/
def nV (hp : mm_H) (x : Nat) : Prop := (∀ cs, hp[x]? ≠ some (2, cs)) ∧ ∀ y u cs vs, x = y + 1 → hp[x]? = some (u, cs) → u = 1001 ∨ u = 2002 → hp[y]? ≠ some (2, vs)
theorem nV.of {hp : mm_H} {x u : Nat} {cs : List Value} (h : hp[x]? = some (u, cs)) (h2 : u ≠ 2) (h1 : u ≠ 1001) (h3 : u ≠ 2002) : nV hp x := by
  refine ⟨fun cs' e => ?_, fun y u' cs' vs _ e g => ?_⟩
  · rw [h] at e; cases e; exact h2 rfl
  · rw [h] at e; cases e
    rcases g with g | g
    · exact absurd g h1
    · exact absurd g h3
theorem nV.of2 {hp : mm_H} {x u v : Nat} {cs ds : List Value} (h : hp[x + 1]? = some (u, cs)) (h2 : u ≠ 2) (h' : hp[x]? = some (v, ds)) (hv : v ≠ 2) : nV hp (x + 1) := by
  refine ⟨fun cs' e => ?_, fun y u' cs' vs e1 e g => ?_⟩
  · rw [h] at e; cases e; exact h2 rfl
  · have : y = x := by omega
    subst this
    rw [h']
    intro e; cases e; exact hv rfl
theorem cT.keepT {S : Nat → Prop} {hp hp' : mm_H} {W : Nat → Prop} (E : cE W hp hp') (hW : ∀ x, x < hp.length → W x → nV hp x) : ∀ {t : mT} {r : Nat}, cT S hp t r → cT S hp' t r := by
  have k0 : ∀ r vs, hp[r]? = some (2, vs) → hp'[r]? = some (2, vs) := fun r vs h => E.at h (fun w => (hW r (List.getElem?_eq_some_iff.mp h).1 w).1 vs h)
  have k1 : ∀ r vs u cs, hp[r]? = some (2, vs) → hp[r + 1]? = some (u, cs) → u = 1001 ∨ u = 2002 → hp'[r + 1]? = some (u, cs) := fun r vs u cs h h' g => E.at h' (fun w => (hW (r + 1) (List.getElem?_eq_some_iff.mp h').1 w).2 r u cs vs rfl h' g h)
  intro t
  induction t using mt_ind with
  | hs sc =>
    intro r h
    obtain ⟨n, junk, h1, h2, h3⟩ := h
    exact ⟨n, junk, k0 _ _ h1, k1 _ _ _ _ h1 h2 (Or.inl rfl), h3⟩
  | hl t ht ih =>
    intro r h
    obtain ⟨n, I, h1, h2⟩ := (cT_list ht).mp h
    refine (cT_list ht).mpr ⟨n, I, k0 _ _ h1, ?_⟩
    rcases h2 with h2 | ⟨rfl, items, h3, h5, h4⟩
    · exact Or.inl h2
    · refine Or.inr ⟨rfl, items, k1 _ _ _ _ h1 h3 (Or.inr rfl), h5, fun j hj => ?_⟩
      obtain ⟨q, g1, g2, g3⟩ := h4 j hj
      exact ⟨q, g1, g2, ih _ (List.getElem_mem hj) g3⟩
theorem cPt.keepT {S Z : Nat → Prop} {hp hp' : mm_H} {W : Nat → Prop} {a : Nat} {pt : Nat → mT} (P : cPt S Z hp a pt) (E : cE W hp hp') (hW : ∀ x, x < hp.length → W x → nV hp x) (ha : ¬ W a) : cPt S Z hp' a pt := by
  obtain ⟨q, h, hq⟩ := P
  exact ⟨q, E.at h ha, fun i hi => ⟨(hq i hi).1, (hq i hi).2.keepT E hW⟩⟩
/-- progress s: levels, and what else it holds -/
def cPv (hp : mm_H) (s : Nat) (lv : List Nat) (jc oc nj tk ph : Int32) (out : Value) : Prop := ∃ ls, hp[56 + 5 * s]? = some (5, [.int (nI s), .ref (57 + 5 * s), .ref (58 + 5 * s), .ref (59 + 5 * s), .ref (60 + 5 * s), .int (nI lv.length), .int jc, .int oc, .int nj, .int tk, .int ph, out]) ∧ hp[59 + 5 * s]? = some (1000, lv.map mI ++ ls) ∧ lv.length + ls.length = 4 ∧ ∀ v ∈ ls, ∃ x, v = .int x
def wP (s x : Nat) : Prop := x = 56 + 5 * s ∨ x = 59 + 5 * s
theorem cPv.nV {hp : mm_H} {s : Nat} {lv : List Nat} {jc oc nj tk ph : Int32} {out : Value} (h : cPv hp s lv jc oc nj tk ph out) : ∀ x, x < hp.length → wP s x → nV hp x := by
  obtain ⟨ls, a, b, _⟩ := h
  rintro x _ (rfl | rfl)
  · exact nV.of a (by decide) (by decide) (by decide)
  · exact nV.of b (by decide) (by decide) (by decide)
def aJi : Option Nat → Int32
  | some i => nI i
  | none => -1
section CCO
variable {X : List Int32} {d : Nat} {hp : mm_H} {Q : Option Value → mm_H → Prop}
/-- scatteredPorts -/
theorem k71 {r tr : Nat} {s : mStp} {to : mTo} (ST : cSt hp r tr s) (TO : cTo hp tr to) (hs : sOk s) (H : Q (some (.int (nI (sMk s % 2 ^ to.2.length)))) hp) : mm_R X (d + 1) 71 0 (mm_L0 71 [.ref r]) [] hp Q := by
  have n4 := TO.le
  obtain ⟨cond, srcs, ps, rs, s0, _⟩ := ST
  obtain ⟨j1, j2, j3, j4, t0, _⟩ := TO
  refine w71_0 ⟨r, _, _, rfl, s0, rfl, r, _, _, rfl, s0, rfl, tr, _, _, rfl, t0, rfl, ?_⟩
  dsimp only
  rw [m_mask hs.2.2.2.2.1 n4]; exact H
/-- hasBit -/
theorem k72 {ov p : Nat} (ho : ov < 16) (hp4 : p < 4) (H : Q (some (.int (if aBit ov p = true then 1 else 0))) hp) : mm_R X (d + 1) 72 0 (mm_L0 72 [.int (nI ov), .int (nI p)]) [] hp Q := by
  refine w72_0 ?_
  rw [m_bit ho hp4]
  by_cases h : aBit ov p = true
  · rw [if_pos h] at H ⊢
    exact ⟨fun g => absurd rfl g, fun _ => H⟩
  · rw [if_neg h] at H ⊢
    exact ⟨fun _ => H, fun g => absurd g (by decide)⟩
/-- addLevel -/
theorem k73 {s n : Nat} {lv : List Nat} {jc oc nj tk ph : Int32} {out : Value} (P : cPv hp s lv jc oc nj tk ph out) (hl : lv.length < 4) (H : ∀ hp', cE (wP s) hp hp' → cG 0 hp hp' → cPv hp' s (lv ++ [n]) jc oc nj tk ph out → Q none hp') : mm_R X (d + 1) 73 0 (mm_L0 73 [.ref (56 + 5 * s), .int (nI n)]) [] hp Q := by
  obtain ⟨ls, h, h', hlen, hj⟩ := P
  have l0 := (List.getElem?_eq_some_iff.mp h).1
  have l1 := (List.getElem?_eq_some_iff.mp h').1
  cases ls with
  | nil => simp at hlen; omega
  | cons v ls =>
    rw [List.length_cons] at hlen
    refine w73_0 ⟨_, _, _, rfl, h, rfl, pk_le 4 lv.length (fun g => absurd g (by omega)) (fun _ => ⟨_, _, _, rfl, h, rfl, _, _, _, rfl, h, rfl, _, _, rfl, h', nI_pos' (by omega), by rw [nI_clamp (by omega)]; simp, rfl, ?_⟩)⟩
    rw [nI_clamp (by omega)]
    have ec : (lv.map mI ++ v :: ls).set lv.length (.int (nI n)) = (lv ++ [n]).map mI ++ ls := by
      rw [List.set_append_right _ _ (by simp)]
      simp [mI]
    rw [ec]
    have g0 : (hp.set (59 + 5 * s) (1000, (lv ++ [n]).map mI ++ ls))[56 + 5 * s]? = some (5, [.int (nI s), .ref (57 + 5 * s), .ref (58 + 5 * s), .ref (59 + 5 * s), .ref (60 + 5 * s), .int (nI lv.length), .int jc, .int oc, .int nj, .int tk, .int ph, out]) := by
      rw [List.getElem?_set_ne (by omega)]; exact h
    refine ⟨_, _, _, rfl, g0, rfl, _, _, rfl, g0, Nat.le_of_ble_eq_true rfl, rfl, H _ ?_ ?_ ⟨ls, ?_, ?_, by simp; omega, fun w hw => hj w (List.mem_cons_of_mem _ hw)⟩⟩
    · exact (cE.set (Or.inr rfl)).tr (cE.set (Or.inl rfl))
    · refine ⟨by simp, ?_⟩
      rw [mm_sz_set g0 (by rfl), mm_sz_set h' (by simp)]; omega
    · rw [List.getElem?_set_self (by simpa using l0), nI_1]
      simp
    · rw [List.getElem?_set_ne (by omega), List.getElem?_set_self l1]
theorem k70_46 {r tr s : Nat} {st : mStp} {ov me : Nat} {wh : Nat → mT} {jc oc nj tk ph : Int32} {out : Value} {o4 : Int32} (ho : ov < 16) (hme : me ≤ 2) (hg : ∀ i, mt_gd (wh i)) : ∀ (m p : Nat) (j : Option Nat) (lv : List Nat) (hp : mm_H) (o8 o9 o10 : Option Value), p + m = 4 → cEx hp → cPt cS zW hp 25 wh → cPv hp s lv jc oc nj tk ph out → (∀ i, j = some i → i ≤ 8 ^ p) → (me = 2 → lv.length + (aLr ov m p).length ≤ 4) → (me ≠ 2 → lv = []) →
    (∀ N, aCf me wh (aLr ov m p) j = some (some N) → ∀ hp', cE (wP s) hp hp' → cG 0 hp hp' → cPv hp' s (if me = 2 then lv ++ (aLr ov m p).map (aLen wh) else [N]) jc oc nj tk ph out → Q (some (.int (nI N))) hp') →
    (j = none → aLr ov m p ≠ []) →
    (aCf me wh (aLr ov m p) j = none → ∀ hp' lv', cE (wP s) hp hp' → cG 0 hp hp' → cPv hp' s lv' jc oc nj tk ph out → Q (some (.int (-1))) hp') →
    mm_R X (d + 2) 70 46 [some (.ref 13), some (.ref r), some (.ref (56 + 5 * s)), some (.int (nI ov)), some (.int (if me = 0 then 0 else 1)), some (.int (if me = 2 then 1 else 0)), some (.int (aJi j)), some (.int (nI p)), o8, o9, o10] [] hp Q := by
  intro m
  induction m with
  | zero =>
    intro p j lv hp o8 o9 o10 hpm EX PT PV hj hlv2 hlv0 H1 HN H0
    have e : p = 4 := by omega
    subst e
    have eL : aLr ov 0 4 = [] := rfl
    rw [eL] at H1 HN H0
    cases j with
    | none => exact absurd rfl (HN rfl)
    | some N =>
      have hN := hj N rfl
      obtain ⟨ls, v0, _⟩ := id PV
      refine w70_46 (pk_le 4 4 (fun _ => ⟨fun h5 => ?_, fun h5 => ?_⟩) (fun g => absurd g (by omega)))
      · have h2 : me = 2 := by
          by_cases h : me = 2
          · exact h
          · rw [if_neg h] at h5; exact absurd rfl h5
        have := H1 N rfl hp cE.rf cG.rf
        rw [if_pos h2] at this
        exact this (by simpa using PV)
      · have h2 : ¬ me = 2 := fun h => by rw [if_pos h] at h5; exact absurd h5 (by decide)
        rw [hlv0 h2] at PV
        refine ⟨rfl, ⟨_, _, rfl, v0⟩, k73 PV (by simp) (fun hp1 E1 G1 P1 => ⟨rfl, H1 N rfl hp1 E1 G1 ?_⟩)⟩
        rw [if_neg h2]; simpa using P1
  | succ m ih =>
    intro p j lv hp o8 o9 o10 hpm EX PT PV hj hlv2 hlv0 H1 HN H0
    have hp4 : p < 4 := by omega
    have hp8 : 8 ^ p ≤ 8 ^ 3 := Nat.pow_le_pow_right (by decide) (by omega)
    refine w70_46 (pk_le 4 p (fun g => absurd g (by omega)) (fun _ => k72 ho hp4 ⟨_, rfl, ?_⟩))
    by_cases hb : aBit ov p = true
    · have eL : aLr ov (m + 1) p = p :: aLr ov m (p + 1) := by rw [aLr, if_pos hb]
      rw [eL] at H1 HN H0 hlv2
      rw [if_pos hb]
      obtain ⟨q, hq, hqs⟩ := id PT
      obtain ⟨zq, Tq⟩ := hqs p hp4
      obtain ⟨L, I, n, hc, -⟩ := Tq.cell
      have e25 : (row4 (fun i => Value.ref (q i)))[p]? = some (.ref (q p)) := row4_get hp4
      obtain ⟨gz, g8⟩ := mt_g_sz (mt_gd_g (hg p))
      have hsz : (if mt_isL (wh p) = true then (mt_els (wh p)).length else (mt_txt (wh p)).length) ≤ 24 := by unfold mt_sz at gz; exact gz
      refine ⟨fun _ => ⟨13, _, _, rfl, EX.1, rfl, 25, _, _, _, rfl, hq, by decide, rfl, nI_pos' (by omega), by rw [nI_clamp (by omega)]; exact e25, rfl, ?_⟩, fun g => absurd g (by decide)⟩
      -- behind the two tests
      have go : ∀ (s0 b : Int32), (s0 = if j = none then 1 else 0) → (b = if mt_isL (wh p) = true then (if aBad me j (aLen wh p) = true then 1 else 0) else b) → mm_R X (d + 1 + 1) 70 111 [some (.ref 13), some (.ref r), some (.ref (56 + 5 * s)), some (.int (nI ov)), some (.int (if me = 0 then 0 else 1)), some (.int (if me = 2 then 1 else 0)), some (.int (aJi j)), some (.int (nI p)), some (.ref (q p)), some (.int s0), o10] [.int b] hp Q := by
        intro s0 b hs0 hb0
        refine w70_111 ⟨rfl, ⟨_, _, rfl, hc⟩, k65 Tq ⟨_, rfl, ?_⟩⟩
        by_cases hL : mt_isL (wh p) = true
        · rw [if_pos hL] at hb0 ⊢
          rw [hL] at hc
          refine ⟨fun g => absurd g (by decide), fun _ => ?_⟩
          by_cases hbad : aBad me j (aLen wh p) = true
          · rw [if_pos hbad] at hb0
            subst hb0
            refine ⟨fun g => absurd g (by decide), fun _ => H0 ?_ hp lv cE.rf cG.rf PV⟩
            rw [aCf, if_neg (fun g => by rw [hbad] at g; exact absurd g.2 (by decide))]
          · rw [if_neg hbad] at hb0
            subst hb0
            have hbf : aBad me j (aLen wh p) = false := by simpa using hbad
            have eC : ∀ ps, aCf me wh (p :: ps) j = aCf me wh ps (some (if me = 0 then aLen wh p else j.getD 1 * aLen wh p)) := fun ps => by rw [aCf, if_pos ⟨hL, hbf⟩]
            rw [eC] at H1 H0
            have hal : aLen wh p ≤ 8 := g8
            have hnj : (if me = 0 then aLen wh p else j.getD 1 * aLen wh p) ≤ 8 ^ (p + 1) := by
              rw [Nat.pow_succ]
              have h1 : 1 ≤ 8 ^ p := Nat.one_le_pow _ _ (by decide)
              split
              · omega
              · have : j.getD 1 ≤ 8 ^ p := by
                  cases j with
                  | none => exact h1
                  | some i => exact hj i rfl
                exact Nat.mul_le_mul this hal
            -- the next port
            have next : ∀ (hp1 : mm_H) (lv1 : List Nat) (o8 o9 o10 : Option Value), cE (wP s) hp hp1 → cG 0 hp hp1 → cPv hp1 s lv1 jc oc nj tk ph out → (me = 2 → lv1 = lv ++ [aLen wh p]) → (me ≠ 2 → lv1 = []) → mm_R X (d + 1 + 1) 70 46 [some (.ref 13), some (.ref r), some (.ref (56 + 5 * s)), some (.int (nI ov)), some (.int (if me = 0 then 0 else 1)), some (.int (if me = 2 then 1 else 0)), some (.int (nI (if me = 0 then aLen wh p else j.getD 1 * aLen wh p))), some (.int (nI p + (1 : Int32))), o8, o9, o10] [] hp1 Q := by
              intro hp1 lv1 o8 o9 o10 E1 G1 P1 e2 e0
              have nv := PV.nV
              have EX1 : cEx hp1 := by
                obtain ⟨a1, a2, a3, a4, a5, a6, a7, a8, a9, ⟨q1, b1⟩, ⟨q2, b2⟩, ⟨q3, b3⟩⟩ := EX
                have hw : ∀ x, x ≤ 55 → ¬ wP s x := fun x hx => by unfold wP; omega
                refine ⟨E1.at a1 (hw _ (by omega)), E1.at a2 (hw _ (by omega)), E1.at a3 (hw _ (by omega)), E1.at a4 (hw _ (by omega)), a5.keep E1 (hw _ (by omega)) (hw _ (by omega)), a6.keep E1 (hw _ (by omega)) (hw _ (by omega)), a7.keep E1 (hw _ (by omega)) (hw _ (by omega)), a8.keep E1 (hw _ (by omega)) (hw _ (by omega)), fun i hi => ?_, ⟨q1, E1.at b1 (hw _ (by omega))⟩, ⟨q2, E1.at b2 (hw _ (by omega))⟩, ⟨q3, E1.at b3 (hw _ (by omega))⟩⟩
                obtain ⟨c1, c2, c3⟩ := a9 i hi
                exact ⟨c1.keep E1 (hw _ (by omega)) (hw _ (by omega)), c2.keep E1 (hw _ (by omega)) (hw _ (by omega)), c3.keep E1 (hw _ (by omega)) (hw _ (by omega))⟩
              rw [nI_1]
              refine ih (p + 1) (some (if me = 0 then aLen wh p else j.getD 1 * aLen wh p)) lv1 hp1 o8 o9 o10 (by omega) EX1 (PT.keepT E1 nv (by unfold wP; omega)) P1 (fun i hi => by cases hi; exact hnj) ?_ e0 ?_ (fun g => nomatch g) ?_
              · intro h2
                have := hlv2 h2
                rw [e2 h2]
                simp only [List.length_append, List.length_cons, List.length_nil] at this ⊢
                omega
              · intro N hN hp2 E2 G2 P2
                refine H1 N hN hp2 (E1.tr E2) (G1.tr G2) ?_
                by_cases h2 : me = 2
                · rw [if_pos h2] at P2 ⊢
                  rw [e2 h2] at P2
                  simpa using P2
                · rw [if_neg h2] at P2 ⊢; exact P2
              · intro hn hp2 lv2 E2 G2 P2
                exact H0 hn hp2 lv2 (E1.tr E2) (G1.tr G2) P2
            have s154 : ∀ x : Int32, x = nI (if me = 0 then aLen wh p else j.getD 1 * aLen wh p) → mm_R X (d + 1 + 1) 70 154 [some (.ref 13), some (.ref r), some (.ref (56 + 5 * s)), some (.int (nI ov)), some (.int (if me = 0 then 0 else 1)), some (.int (if me = 2 then 1 else 0)), some (.int (aJi j)), some (.int (nI p)), some (.ref (q p)), some (.int s0), some (.int 0)] [.int x] hp Q := by
              rintro x rfl
              refine w70_154 ⟨fun h5 => ?_, fun h5 => ?_⟩
              · have h2 : ¬ me = 2 := fun h => by rw [if_pos h] at h5; exact absurd h5 (by decide)
                exact next hp lv _ _ _ cE.rf cG.rf PV (fun h => absurd h h2) hlv0
              · have h2 : me = 2 := by
                  by_cases h : me = 2
                  · exact h
                  · rw [if_neg h] at h5; exact absurd rfl h5
                have hl4 := hlv2 h2
                rw [List.length_cons] at hl4
                obtain ⟨ls, v0, _⟩ := id PV
                exact ⟨rfl, rfl, _, _, _, rfl, hc, rfl, ⟨_, _, rfl, v0⟩, k73 PV (by omega) (fun hp1 E1 G1 P1 => ⟨rfl, next hp1 _ _ _ _ E1 G1 P1 (fun _ => rfl) (fun h => absurd h2 h)⟩)⟩
            refine ⟨fun _ => ⟨fun h4 => ?_, fun h4 => ⟨fun h9 => ?_, fun h9 => ?_⟩⟩, fun g => absurd rfl g⟩
            · have h0 : me = 0 := by
                by_cases h : me = 0
                · exact h
                · rw [if_neg h] at h4; exact absurd h4 (by decide)
              refine ⟨_, _, _, rfl, hc, rfl, s154 _ ?_⟩
              rw [if_pos h0]; rfl
            · have h0 : ¬ me = 0 := fun h => by rw [if_pos h] at h4; exact absurd rfl h4
              have hjn : j = none := by
                by_cases h : j = none
                · exact h
                · rw [if_neg h] at hs0; exact absurd hs0 h9
              refine ⟨_, _, _, rfl, hc, rfl, s154 _ ?_⟩
              rw [if_neg h0, hjn, Option.getD_none, Nat.one_mul]; rfl
            · have h0 : ¬ me = 0 := fun h => by rw [if_pos h] at h4; exact absurd rfl h4
              cases j with
              | none => rw [if_pos rfl] at hs0; rw [hs0] at h9; exact absurd h9 (by decide)
              | some i =>
                refine ⟨_, _, _, rfl, hc, rfl, s154 _ ?_⟩
                rw [if_neg h0]
                exact pk_mul i (aLen wh p)
        · rw [if_neg hL]
          refine ⟨fun _ => H0 ?_ hp lv cE.rf cG.rf PV, fun g => absurd rfl g⟩
          rw [aCf, if_neg (fun g => hL g.1)]
      have s84 : ∀ s0 : Int32, (s0 = if j = none then 1 else 0) → mm_R X (d + 1 + 1) 70 84 [some (.ref 13), some (.ref r), some (.ref (56 + 5 * s)), some (.int (nI ov)), some (.int (if me = 0 then 0 else 1)), some (.int (if me = 2 then 1 else 0)), some (.int (aJi j)), some (.int (nI p)), some (.ref (q p)), o9, o10] [.int s0] hp Q := by
        intro s0 hs0
        refine w70_84 ⟨fun h4 => ?_, fun h4 => ⟨fun h0' => ?_, fun h0' => ⟨rfl, _, _, _, rfl, hc, rfl, ?_⟩⟩⟩
        · have h0 : ¬ me = 0 := fun h => by rw [if_pos h] at h4; exact absurd rfl h4
          refine go s0 0 hs0 ?_
          have : aBad me j (aLen wh p) = false := by
            cases j with
            | none => rfl
            | some i => simp [aBad, h0]
          rw [this]
          split <;> rfl
        · have hjn : j = none := by
            by_cases h : j = none
            · exact h
            · rw [if_neg h] at hs0; exact absurd hs0 h0'
          refine go s0 0 hs0 ?_
          have : aBad me j (aLen wh p) = false := by rw [hjn]; rfl
          rw [this]
          split <;> rfl
        · have h0 : me = 0 := by
            by_cases h : me = 0
            · exact h
            · rw [if_neg h] at h4; exact absurd h4 (by decide)
          cases j with
          | none => rw [if_pos rfl] at hs0; rw [hs0] at h0'; exact absurd h0' (by decide)
          | some i =>
            have hi := hj i rfl
            refine pk_eq i (if mt_isL (wh p) = true then (mt_els (wh p)).length else (mt_txt (wh p)).length) (fun e => go s0 0 hs0 ?_) (fun e => go s0 1 hs0 ?_)
            · by_cases hL : mt_isL (wh p) = true
              · rw [if_pos hL] at e ⊢
                have : aBad me (some i) (aLen wh p) = false := by simp [aBad, e, aLen]
                rw [this]; rfl
              · rw [if_neg hL]
            · by_cases hL : mt_isL (wh p) = true
              · rw [if_pos hL] at e ⊢
                have : aBad me (some i) (aLen wh p) = true := by simp [aBad, h0, aLen]; exact e
                rw [this]; rfl
              · rw [if_neg hL]
      refine ⟨fun hne => s84 0 ?_, fun he => s84 1 ?_⟩
      · cases j with
        | none => exact absurd rfl hne
        | some i => rfl
      · cases j with
        | none => rfl
        | some i =>
          have hi := hj i rfl
          have a := nI_pos' (n := i) (by omega)
          have he' : nI i = -1 := he
          rw [he'] at a
          exact absurd a (by decide)
    · have eL : aLr ov (m + 1) p = aLr ov m (p + 1) := by rw [aLr, if_neg hb]
      rw [eL] at H1 HN H0 hlv2
      rw [if_neg hb]
      refine ⟨fun g => absurd rfl g, fun _ => ?_⟩
      rw [nI_1]
      refine ih (p + 1) j lv hp _ _ _ (by omega) EX PT PV (fun i hi => Nat.le_trans (hj i hi) (Nat.pow_le_pow_right (by decide) (by omega))) hlv2 hlv0 H1 HN H0
/-- countJobs -/
theorem k70 {r tr s : Nat} {st : mStp} {to : mTo} {wh : Nat → mT} {jc oc nj tk ph : Int32} {out : Value} (hs : sOk st) (hg : ∀ i, mt_gd (wh i)) (ST : cSt hp r tr st) (TO : cTo hp tr to) (EX : cEx hp) (PT : cPt cS zW hp 25 wh) (PV : cPv hp s [] jc oc nj tk ph out)
    (H1 : ∀ N lv, (sMk st % 2 ^ to.2.length = 0 ∧ N = 1 ∧ lv = [] ∨ sMk st % 2 ^ to.2.length ≠ 0 ∧ aCf (sMe st) wh (aLr (sMk st % 2 ^ to.2.length) 4 0) none = some (some N) ∧ lv = if sMe st = 2 then (aLr (sMk st % 2 ^ to.2.length) 4 0).map (aLen wh) else [N]) → ∀ hp', cE (wP s) hp hp' → cG 0 hp hp' → cPv hp' s lv jc oc nj tk ph out → Q (some (.int (nI N))) hp')
    (H0 : sMk st % 2 ^ to.2.length ≠ 0 → aCf (sMe st) wh (aLr (sMk st % 2 ^ to.2.length) 4 0) none = none → ∀ hp' lv', cE (wP s) hp hp' → cG 0 hp hp' → cPv hp' s lv' jc oc nj tk ph out → Q (some (.int (-1))) hp') : mm_R X (d + 3) 70 0 (mm_L0 70 [.ref 13, .ref r, .ref (56 + 5 * s)]) [] hp Q := by
  have n4 := TO.le
  have ho := aOv_lt hs.2.2.2.2.1 n4
  have hme := hs.2.2.2.2.2
  obtain ⟨cond, srcs, ps, rs, s0, _⟩ := id ST
  have hpw : 2 ^ to.2.length ≤ 2 ^ 4 := Nat.pow_le_pow_right (by decide) n4
  refine w70_0 ⟨rfl, ⟨_, _, rfl, s0⟩, k71 ST TO hs ⟨_, rfl, pk_ne (sMk st % 2 ^ to.2.length) 0 (fun e0 => ?_) (fun e0 => ?_)⟩⟩
  · exact H1 1 [] (Or.inl ⟨e0, rfl, rfl⟩) hp cE.rf cG.rf PV
  · have hne : aLr (sMk st % 2 ^ to.2.length) 4 0 ≠ [] := by
      have h : ∀ a : Fin 16, a.val ≠ 0 → aLr a.val 4 0 ≠ [] := by decide
      exact h ⟨_, ho⟩ e0
    have hl4 : (aLr (sMk st % 2 ^ to.2.length) 4 0).length ≤ 4 := by
      have h : ∀ a : Fin 16, (aLr a.val 4 0).length ≤ 4 := by decide
      exact h ⟨_, ho⟩
    have go : ∀ z : Int32, (z = if sMe st = 0 then 0 else 1) → mm_R X (d + 2 + 1) 70 23 [some (.ref 13), some (.ref r), some (.ref (56 + 5 * s)), some (.int (nI (sMk st % 2 ^ to.2.length))), none, none, none, none, none, none, none] [.int z] hp Q := by
      rintro z rfl
      have fin : mm_R X (d + 2 + 1) 70 46 [some (.ref 13), some (.ref r), some (.ref (56 + 5 * s)), some (.int (nI (sMk st % 2 ^ to.2.length))), some (.int (if sMe st = 0 then 0 else 1)), some (.int (if sMe st = 2 then 1 else 0)), some (.int (-1 : Int32)), some (.int (0 : Int32)), none, none, none] [] hp Q := by
        refine k70_46 (d := d + 1) (st := st) (tr := tr) (o4 := 0) ho hme hg 4 0 none [] hp none none none (by omega) EX PT PV (fun i hi => nomatch hi) (fun _ => by simpa using hl4) (fun _ => rfl) ?_ (fun _ => hne) ?_
        · intro N hN hp' E G P
          refine H1 N _ (Or.inr ⟨e0, hN, rfl⟩) hp' E G ?_
          by_cases h2 : sMe st = 2
          · rw [if_pos h2] at P ⊢; simpa using P
          · rw [if_neg h2] at P ⊢; exact P
        · intro hn hp' lv' E G P
          exact H0 e0 hn hp' lv' E G P
      refine w70_23 ⟨rfl, _, _, _, rfl, s0, rfl, pk_ne (sMe st) 2 (fun e => ?_) (fun e => ?_)⟩
      · rw [if_pos e] at fin; exact fin
      · rw [if_neg e] at fin; exact fin
    refine ⟨_, _, _, rfl, s0, rfl, pk_eq (sMe st) 0 (fun e => go 0 (by rw [if_pos e])) (fun e => go 1 (by rw [if_neg e]))⟩
end CCO
