/-! THE CLASS CHOOSES ELEMENTS and works rules -/
theorem cT.keepZ {hp hp' : mm_H} {W : Nat → Prop} {q : Nat} {t : mT} (T : cT cS hp t q) (E : cE W hp hp') (Y : cX cS hp hp') (h0 : ¬ W q) (h1 : ∀ u cs, hp[q + 1]? = some (u, cs) → u ≠ 2 → ¬ W (q + 1)) : cT cS hp' t q := by
  obtain ⟨vs, hx⟩ := T.tag
  refine T.keep2 Y (E.2 q (List.getElem?_eq_some_iff.mp hx).1 h0) ?_
  intro vs' u cs _ hc hu _
  exact E.2 _ (List.getElem?_eq_some_iff.mp hc).1 (h1 u cs hc hu)
def wM (x : Nat) : Prop := x = 21 ∨ x = 22 ∨ x = 23 ∨ x = 24 ∨ x = 32 ∨ x = 33 ∨ x = 38 ∨ x = 39 ∨ x = 44 ∨ x = 45 ∨ x = 50 ∨ x = 51
theorem cEx.keepM {hp hp' : mm_H} {W : Nat → Prop} (h : cEx hp) (E : cE W hp hp') (hW : ∀ x, W x → wM x) (m1 : cRm hp' 21) (m3 : cRm hp' 23) (mm : ∀ p, p < 4 → cRm hp' (32 + 6 * p)) : cEx hp' := by
  have n : ∀ x, ¬ wM x → ¬ W x := fun x h g => h (hW x g)
  obtain ⟨a1, a2, a3, a4, a5, a6, a7, a8, a9, ⟨q1, b1⟩, ⟨q2, b2⟩, ⟨q3, b3⟩⟩ := h
  refine ⟨E.at a1 (n _ (by unfold wM; omega)), E.at a2 (n _ (by unfold wM; omega)), E.at a3 (n _ (by unfold wM; omega)), E.at a4 (n _ (by unfold wM; omega)), a5.keep E (n _ (by unfold wM; omega)) (n _ (by unfold wM; omega)), a6.keep E (n _ (by unfold wM; omega)) (n _ (by unfold wM; omega)), m1, m3, fun i hi => ?_, ⟨q1, E.at b1 (n _ (by unfold wM; omega))⟩, ⟨q2, E.at b2 (n _ (by unfold wM; omega))⟩, ⟨q3, E.at b3 (n _ (by unfold wM; omega))⟩⟩
  obtain ⟨c1, c2, c3⟩ := a9 i hi
  exact ⟨mm i hi, c2.keep E (n _ (by unfold wM; omega)) (n _ (by unfold wM; omega)), c3.keep E (n _ (by unfold wM; omega)) (n _ (by unfold wM; omega))⟩
theorem cEx.nV {hp : mm_H} (h : cEx hp) {a : Nat} (ha : a = 26 ∨ a = 27) : nV hp a := by
  obtain ⟨a1, a2, a3, a4, a5, a6, a7, a8, a9, ⟨q1, b1⟩, ⟨q2, b2⟩, ⟨q3, b3⟩⟩ := h
  rcases ha with rfl | rfl
  · exact nV.of2 b2 (by decide) b1 (by decide)
  · exact nV.of2 b3 (by decide) b2 (by decide)
def w75 (x : Nat) : Prop := x = 27 ∨ wM x
theorem w75_wE {x : Nat} (h : w75 x) : wE x := by unfold w75 wM at h; unfold wE; omega
section CCH
variable {X : List Int32} {d : Nat} {hp : mm_H} {Q : Option Value → mm_H → Prop}
theorem k74_25 {r : Nat} {me ov n N : Nat} {wh : Nat → mT} (ho : ov < 16) (hg : ∀ i, mt_gd (wh i)) (hN : aJobs me ov wh = some N) (hn : n < N) : ∀ (m p : Nat) (hp : mm_H) (b : Nat → Nat) (i6 : Int32) (o7 o8 : Option Value), p + m = 4 → i6 = nI m - 1 → cEx hp → cPt cS zW hp 25 wh → hp[26]? = some (2002, row4 (fun i => .ref (b i))) → (∀ i, m ≤ i → i < 4 → zW (b i) ∧ cT cS hp (aBf me ov wh n i) (b i)) →
    (∀ hp', cE (fun x => x = 26) hp hp' → cG 0 hp hp' → cEx hp' → cPt cS zW hp' 26 (aBf me ov wh n) → Q none hp') →
    mm_R X (d + 2) 74 25 [some (.ref 13), some (.ref r), some (.int (nI n)), some (.int (nI ov)), some (.int (if me = 0 then 0 else 1)), some (.int (nI (aRs ov wh n p))), some (.int i6), o7, o8] [] hp Q := by
  obtain ⟨hN16, hpos⟩ := aJobs_pos hN
  have hrs : ∀ k, aRs ov wh n k ≤ n := by
    intro k
    induction k with
    | zero => exact Nat.le_refl _
    | succ k ih =>
      rw [aRs]
      split
      · exact Nat.le_trans (Nat.div_le_self _ _) ih
      · exact ih
  intro m
  induction m with
  | zero =>
    intro p hp b i6 o7 o8 hpm hi6 EX PT h26 hb H
    subst hi6
    exact w74_25 ⟨fun _ => H hp cE.rf cG.rf EX ⟨b, h26, fun i hi => hb i (by omega) hi⟩, fun g => absurd (by decide) g⟩
  | succ m ih =>
    intro p hp b i6 o7 o8 hpm hi6 EX PT h26 hb H
    subst hi6
    have ep : 3 - p = m := by omega
    have hm4 : m < 4 := by omega
    rw [nI_pred]
    obtain ⟨q, hq, hqs⟩ := id PT
    obtain ⟨zq, Tq⟩ := hqs m hm4
    obtain ⟨L, I, nn, hc, -⟩ := Tq.cell
    obtain ⟨gz, g8⟩ := mt_g_sz (mt_gd_g (hg m))
    have hrp := hrs p
    refine w74_25 (pk_lt m 0 (fun g => absurd g (by omega)) (fun _ => ⟨13, _, _, rfl, EX.1, rfl, 25, _, _, _, rfl, hq, by decide, rfl, nI_pos' (by omega), by rw [nI_clamp (by omega)]; exact row4_get (f := fun i => Value.ref (q i)) hm4, rfl, 13, _, _, rfl, EX.1, rfl, m_sv4 h26 hm4 hc (fun hp1 e1 E1 G1 => ?_)⟩))
    have EX1 : cEx hp1 := by rw [e1]; exact EX.set (Or.inr (Or.inl rfl))
    have nv : ∀ x, x < hp.length → x = 26 → nV hp x := fun x _ e => by rw [e]; exact EX.nV (Or.inl rfl)
    have PT1 := PT.keepT E1 nv (by omega)
    have Tq1 : cT cS hp1 (wh m) (q m) := Tq.keepT E1 nv
    have hq1 : hp1[25]? = some (2002, row4 (fun i => .ref (q i))) := E1.at hq (by omega)
    have h26' : hp1[26]? = some (2002, row4 (fun j => .ref (if j = m then q m else b j))) := by rw [e1, List.getElem?_set_self (List.getElem?_eq_some_iff.mp h26).1]
    have hb1 : ∀ i, m + 1 ≤ i → i < 4 → zW (b i) ∧ cT cS hp1 (aBf me ov wh n i) (b i) := fun i h1 h2 => ⟨(hb i h1 h2).1, (hb i h1 h2).2.keepT E1 nv⟩
    have ers : aRs ov wh n (p + 1) = if aBit ov m = true then aRs ov wh n p / aLen wh m else aRs ov wh n p := by rw [aRs, ep]
    refine k72 ho hm4 ⟨_, rfl, ?_⟩
    by_cases hbit : aBit ov m = true
    · obtain ⟨p1, p2, p3⟩ := hpos (by omega) m hm4 hbit ho
      rw [if_pos hbit] at ers ⊢
      have hc1 := hc
      rw [p1, if_pos rfl] at hc1
      have hc1' : hp1[q m]? = _ := E1.at hc1 (by unfold zW at zq; intro e; rw [e, h26] at hc1; cases hc1)
      have hlen : aLen wh m ≤ 8 := g8
      have hidx := aBf_lt hN hn hm4 hbit ho
      rw [show 3 - m = p by omega] at hidx
      -- the element
      have el : ∀ x : Int32, x = nI (if me = 0 then n else aRs ov wh n p % aLen wh m) → mm_R X (d + 1 + 1) 74 84 [some (.ref 13), some (.ref r), some (.int (nI n)), some (.int (nI ov)), some (.int (if me = 0 then 0 else 1)), some (.int (nI (aRs ov wh n p))), some (.int (nI m)), some (.ref (q m)), o8] [.int x, .ref (q m)] hp1 Q := by
        rintro x rfl
        refine w74_84 ⟨⟨_, _, rfl, hc1'⟩, k67 Tq1 (by omega) g8 (fun hi q' s' T' => ⟨_, rfl, rfl, 13, _, _, rfl, EX1.1, rfl, Or.inr ⟨⟨_, rfl⟩, ?_⟩⟩) (fun g => absurd g (by omega))⟩
        obtain ⟨v', hv'⟩ := T'.tag
        refine m_sv4 h26' hm4 hv' (fun hp2 e2 E2 G2 => ?_)
        have EX2 : cEx hp2 := by rw [e2]; exact EX1.set (Or.inr (Or.inl rfl))
        have nv1 : ∀ x, x < hp1.length → x = 26 → nV hp1 x := fun x _ e => by rw [e]; exact EX1.nV (Or.inl rfl)
        have hc2 : hp2[q m]? = _ := E2.at hc1' (by intro e; rw [e, h26'] at hc1'; cases hc1')
        refine ⟨rfl, _, _, _, rfl, hc2, rfl, nI_ne0 p2 (by omega), ?_⟩
        have ed : nI (aRs ov wh n p) / nI (mt_els (wh m)).length = nI (aRs ov wh n (p + 1)) := by
          rw [ers]
          exact pk_div (by omega) p2 (by omega)
        rw [ed, show nI m + (-1 : Int32) = nI m - 1 from (Int32.sub_eq_add_neg _ _).symm]
        refine ih (p + 1) hp2 (fun j => if j = m then q' else b j) _ _ _ (by omega) rfl EX2 (PT1.keepT E2 nv1 (by omega)) ?_ (fun i h1 h2 => ?_) (fun hp3 E3 G3 X3 P3 => H hp3 ((E1.tr E2).tr E3) ((G1.tr G2).tr G3) X3 P3)
        · rw [e2, List.getElem?_set_self (List.getElem?_eq_some_iff.mp h26').1]
          congr 3
          funext j
          by_cases e : j = m
          · simp [e]
          · simp [e]
        · by_cases e : i = m
          · subst e
            simp only [if_true]
            refine ⟨cS_zW s', ?_⟩
            have eB : aBf me ov wh n i = (mt_els (wh i))[if me = 0 then n else aRs ov wh n p % aLen wh i] := by
              unfold aBf
              rw [if_pos hbit, show 3 - i = p by omega, List.getElem?_eq_getElem hidx]; rfl
            rw [eB]
            exact T'.keepT E2 nv1
          · simp only [e, if_false]
            obtain ⟨z, T⟩ := hb1 i (by omega) h2
            exact ⟨z, T.keepT E2 nv1⟩
      refine ⟨fun g => absurd g (by decide), fun _ => ⟨_, _, _, rfl, hc1', rfl, pk_le (mt_els (wh m)).length 0 (fun g => absurd g (by unfold aLen at p2; omega)) (fun _ => ⟨fun h4 => ?_, fun h4 => ⟨_, _, _, rfl, hc1', rfl, nI_ne0 p2 (by omega), ?_⟩⟩)⟩⟩
      · have h0 : me = 0 := by
          by_cases h : me = 0
          · exact h
          · rw [if_neg h] at h4; exact absurd h4 (by decide)
        exact el _ (by rw [if_pos h0])
      · have h0 : ¬ me = 0 := fun h => by rw [if_pos h] at h4; exact absurd rfl h4
        refine el _ ?_
        rw [if_neg h0]
        exact pk_rem (by omega) p2 (by omega)
    · rw [if_neg hbit] at ers ⊢
      refine ⟨fun _ => ?_, fun g => absurd rfl g⟩
      rw [show nI m + (-1 : Int32) = nI m - 1 from (Int32.sub_eq_add_neg _ _).symm]
      rw [← ers]
      refine ih (p + 1) hp1 (fun j => if j = m then q m else b j) _ _ _ (by omega) rfl EX1 PT1 h26' (fun i h1 h2 => ?_) (fun hp3 E3 G3 X3 P3 => H hp3 (E1.tr E3) (G1.tr G3) X3 P3)
      by_cases e : i = m
      · subst e
        simp only [if_true]
        refine ⟨zq, ?_⟩
        have eB : aBf me ov wh n i = wh i := by unfold aBf; rw [if_neg hbit]
        rw [eB]; exact Tq1
      · simp only [e, if_false]
        exact hb1 i (by omega) h2
/-- chooseElements -/
theorem k74 {r tr n N : Nat} {st : mStp} {to : mTo} {wh : Nat → mT} (hs : sOk st) (hg : ∀ i, mt_gd (wh i)) (ST : cSt hp r tr st) (TO : cTo hp tr to) (EX : cEx hp) (PT : cPt cS zW hp 25 wh) (hN : aJobs (sMe st) (sMk st % 2 ^ to.2.length) wh = some N) (hn : n < N)
    (H : ∀ hp', cE (fun x => x = 26) hp hp' → cG 0 hp hp' → cEx hp' → cPt cS zW hp' 26 (aBf (sMe st) (sMk st % 2 ^ to.2.length) wh n) → Q none hp') : mm_R X (d + 3) 74 0 (mm_L0 74 [.ref 13, .ref r, .int (nI n)]) [] hp Q := by
  have n4 := TO.le
  have ho := aOv_lt hs.2.2.2.2.1 n4
  have hme := hs.2.2.2.2.2
  obtain ⟨cond, srcs, ps, rs, s0, _⟩ := id ST
  obtain ⟨b, h26⟩ := EX.2.2.2.2.2.2.2.2.2.2.1
  have fin : mm_R X (d + 2 + 1) 74 25 [some (.ref 13), some (.ref r), some (.int (nI n)), some (.int (nI (sMk st % 2 ^ to.2.length))), some (.int (if sMe st = 0 then 0 else 1)), some (.int (nI n)), some (.int (3 : Int32)), none, none] [] hp Q :=
    k74_25 (d := d + 1) (me := sMe st) ho hg hN hn 4 0 hp b _ none none (by omega) rfl EX PT h26 (fun i h1 h2 => absurd h2 (by omega)) H
  refine w74_0 ⟨rfl, ⟨_, _, rfl, s0⟩, k71 ST TO hs ⟨_, rfl, _, _, _, rfl, s0, rfl, pk_eq (sMe st) 0 (fun e => ?_) (fun e => ?_)⟩⟩
  · rw [if_pos e] at fin; exact fin
  · rw [if_neg e] at fin; exact fin
theorem k75_2 {r tr : Nat} {st : mStp} {to : mTo} {bf af : Nat → mT} (hs : sOk st) (hr : 52 ≤ r) (htr : 52 ≤ tr) (hbf : ∀ i, mt_gd (bf i)) (haf : ∀ i, i < 4 → af i = (aAf st to.2.length bf i).getD (.leaf none)) : ∀ (m p : Nat) (hp : mm_H) (a : Nat → Nat) (o3 o4 : Option Value), p + m = 4 → cEx hp → cSt hp r tr st → cTo hp tr to → cPt cS zW hp 26 bf → hp[27]? = some (2002, row4 (fun i => .ref (a i))) → (∀ i, i < p → (zW (a i) ∨ a i = 32 + 6 * i) ∧ cT cS hp (af i) (a i)) →
    ((∀ i, p ≤ i → i < 4 → aAf st to.2.length bf i ≠ none) → ∀ hp', cE w75 hp hp' → cG 0 hp hp' → cEx hp' → cPt cS zA hp' 27 af → Q (some (.int 1)) hp') →
    (¬ (∀ i, p ≤ i → i < 4 → aAf st to.2.length bf i ≠ none) → ∀ hp', cE w75 hp hp' → cG 0 hp hp' → cEx hp' → Q (some (.int 0)) hp') →
    mm_R X (d + 5) 75 2 [some (.ref 13), some (.ref r), some (.int (nI p)), o3, o4] [] hp Q := by
  intro m
  induction m with
  | zero =>
    intro p hp a o3 o4 hpm EX ST TO PT h27 ha H1 H0
    have e : p = 4 := by omega
    subst e
    refine w75_2 (pk_le 4 4 (fun _ => H1 (fun i h1 h2 => absurd h2 (by omega)) hp cE.rf cG.rf EX ⟨a, h27, fun i hi => ⟨?_, (ha i hi).2⟩⟩) (fun g => absurd g (by omega)))
    rcases (ha i hi).1 with z | z
    · unfold zW at z; unfold zA; omega
    · unfold zA; omega
  | succ m ih =>
    intro p hp a o3 o4 hpm EX ST TO PT h27 ha H1 H0
    have hp4 : p < 4 := by omega
    obtain ⟨cond, srcs, ps, rs, s0, s1, sl, s2, s3, s4, s5, s6, s7, s8, s9, s10, s11⟩ := id ST
    obtain ⟨j1, j2, j3, j4, t0, _⟩ := id TO
    have n4 := TO.le
    obtain ⟨q, hq, hqs⟩ := id PT
    obtain ⟨zq, Tq⟩ := hqs p hp4
    obtain ⟨vq, hvq⟩ := Tq.tag
    have e26 : (row4 (fun i => Value.ref (q i)))[p]? = some (.ref (q p)) := row4_get (f := fun i => Value.ref (q i)) hp4
    -- storing a value at 27 in a heap where all is kept
    have store : ∀ (hp1 : mm_H) (v : Nat) (vs : List Value) (t : mT) (o3 o4 : Option Value), cE w75 hp hp1 → cG 0 hp hp1 → cEx hp1 → cPt cS zW hp1 26 bf → hp1[27]? = some (2002, row4 (fun i => .ref (a i))) → (∀ i, i < p → (zW (a i) ∨ a i = 32 + 6 * i) ∧ cT cS hp1 (af i) (a i)) → hp1[v]? = some (2, vs) → (zW v ∨ v = 32 + 6 * p) → aAf st to.2.length bf p = some t → cT cS hp1 t v → mw_sv (.ref 27) (nI p) (.ref v) hp1 (fun hp6 => mm_R X (d + 4 + 1) 75 2 [some (.ref 13), some (.ref r), some (.int (nI p + (1 : Int32))), o3, o4] [] hp6 Q) := by
      intro hp1 v vs t o3 o4 E1 G1 EX1 PT1 h27' ha1 hv zv ht Tv
      refine m_sv4 h27' hp4 hv (fun hp2 e2 E2 G2 => ?_)
      have EX2 : cEx hp2 := by rw [e2]; exact EX1.set (Or.inr (Or.inr rfl))
      have nv1 : ∀ x, x < hp1.length → x = 27 → nV hp1 x := fun x _ e => by rw [e]; exact EX1.nV (Or.inr rfl)
      have E12 : cE w75 hp hp2 := E1.tr (E2.mono (fun x _ h => Or.inl h))
      have hWn : ∀ x, 52 ≤ x → ¬ w75 x := fun x hx => by unfold w75 wM; omega
      have Y := E12.xs (fun x h => w75_wE h) ⟨_, EX.2.2.2.1⟩
      rw [nI_1]
      refine ih (p + 1) hp2 (fun j => if j = p then v else a j) _ _ (by omega) EX2 (ST.keep E12 hWn Y hr) (TO.keep E12 (fun x h _ => hWn x (by omega))) (PT1.keepT E2 nv1 (by omega)) ?_ (fun i hi => ?_) ?_ ?_
      · rw [e2, List.getElem?_set_self (List.getElem?_eq_some_iff.mp h27').1]
      · by_cases e : i = p
        · subst e
          simp only [if_true]
          refine ⟨zv, ?_⟩
          rw [haf i hp4, ht]
          exact Tv.keepT E2 nv1
        · simp only [e, if_false]
          obtain ⟨z, T⟩ := ha1 i (by omega)
          exact ⟨z, T.keepT E2 nv1⟩
      · intro hall hp3 E3 G3 X3 P3
        refine H1 (fun i h1 h2 => ?_) hp3 (E12.tr E3) ((G1.tr G2).tr G3) X3 P3
        by_cases e : i = p
        · subst e; rw [ht]; simp
        · exact hall i (by omega) h2
      · intro hno hp3 E3 G3 X3
        exact H0 (fun g => hno (fun i h1 h2 => g i (by omega) h2)) hp3 (E12.tr E3) ((G1.tr G2).tr G3) X3
    -- no rule
    have plain : aAf st to.2.length bf p = some (bf p) → mm_R X (d + 4 + 1) 75 28 [some (.ref 13), some (.ref r), some (.int (nI p)), o3, o4] [.null] hp Q := by
      intro ht
      refine w75_28 ⟨rfl, 13, _, _, rfl, EX.1, rfl, 26, _, _, _, rfl, hq, by decide, rfl, nI_pos' (by omega), by rw [nI_clamp (by omega)]; exact e26, rfl, Or.inl ⟨rfl, Or.inr ⟨⟨_, rfl⟩, 13, _, _, rfl, EX.1, rfl, ?_⟩⟩⟩
      exact store hp (q p) vq (bf p) _ _ cE.rf cG.rf EX PT h27 ha hvq (Or.inl zq) ht Tq
    refine w75_2 (pk_le 4 p (fun g => absurd g (by omega)) (fun _ => ⟨rfl, _, _, _, rfl, s0, rfl, _, _, _, rfl, t0, rfl, pk_le to.2.length p (fun hge => plain (by unfold aAf; rw [if_neg (by omega)])) (fun hlt => ⟨_, _, _, rfl, s0, rfl, r + 6, _, _, _, rfl, s7, by decide, rfl, nI_pos' (by omega), by rw [nI_clamp (by omega)]; exact row4_get hp4, ?_⟩)⟩))
    rcases s9 p hp4 with ⟨en, e⟩ | ⟨D, is, qr, en, hI, e, R, hqr⟩
    · rw [e]
      exact plain (by unfold aAf; rw [if_pos hlt, en])
    · rw [e]
      have hD := (hs.2.2.2.1 p D en).1
      have eis : rIs D = is := by unfold rIs; rw [hI]; rfl
      have eA : aAf st to.2.length bf p = rW bf (bf p) is := by unfold aAf; rw [if_pos hlt, en]; show rW bf (bf p) (rIs D) = _; rw [eis]
      have e20 : ([.ref 32, .ref 38, .ref 44, .ref 50] : List Value)[p]? = some (.ref (32 + 6 * p)) := by
        have : p = 0 ∨ p = 1 ∨ p = 2 ∨ p = 3 := by omega
        rcases this with rfl | rfl | rfl | rfl <;> rfl
      obtain ⟨a1, a2, a3, a4, a5, a6, a7, a8, a9, _⟩ := id EX
      have hWM : ∀ x, cW2 (32 + 6 * p) 23 x → wM x := fun x h => by unfold cW2 at h; unfold wM; omega
      have hWE : ∀ x, cW2 (32 + 6 * p) 23 x → wE x := fun x h => by unfold cW2 at h; unfold wE; omega
      refine w75_28 ⟨rfl, 13, _, _, rfl, a1, rfl, 26, _, _, _, rfl, hq, by decide, rfl, nI_pos' (by omega), by rw [nI_clamp (by omega)]; exact e26, rfl, Or.inr ⟨⟨_, rfl⟩, 13, _, _, rfl, a1, rfl, 13, _, _, rfl, a1, rfl, 26, _, _, _, rfl, hq, by decide, rfl, nI_pos' (by omega), by rw [nI_clamp (by omega)]; exact e26, 13, _, _, rfl, a1, rfl, 20, _, _, _, rfl, a4, by decide, rfl, nI_pos' (by omega), by rw [nI_clamp (by omega)]; exact e20, 13, _, _, rfl, a1, rfl, cRu.rc R rfl, rfl, rfl, rfl, rfl, ?_⟩⟩
      -- all that is kept
      have kept : ∀ hp1, cE (cW2 (32 + 6 * p) 23) hp hp1 → cRm hp1 (32 + 6 * p) → cRm hp1 23 → cEx hp1 ∧ cPt cS zW hp1 26 bf ∧ (∀ i, i < p → (zW (a i) ∨ a i = 32 + 6 * i) ∧ cT cS hp1 (af i) (a i)) := by
        intro hp1 E1 m1 m2
        have Y := E1.xs (fun x h => hWE x h) ⟨_, a4⟩
        obtain ⟨y2, y3, y4, y5, y6, ws, w1, w2, _⟩ := (a9 p hp4).1
        obtain ⟨z2, z3, z4, z5, z6, xs, x1, x2, _⟩ := a8
        have kz : ∀ (t : mT) (u : Nat), cT cS hp t u → u ≠ 32 + 6 * p → u ≠ 23 → cT cS hp1 t u := by
          intro t u T h1 h2
          obtain ⟨vs, hx⟩ := T.tag
          refine T.keepZ E1 Y ?_ ?_
          · unfold cW2
            rintro (g | g | g | g)
            · exact h1 g
            · rw [g, w2] at hx; cases hx
            · exact h2 g
            · rw [g, x2] at hx; cases hx
          · intro v cs hc hv2
            unfold cW2
            rintro (g | g | g | g)
            · rw [g, w1] at hc; cases hc; exact hv2 rfl
            · omega
            · rw [g, x1] at hc; cases hc; exact hv2 rfl
            · omega
        refine ⟨EX.keepM E1 hWM (a7.keep E1 (by unfold cW2; omega) (by unfold cW2; omega)) m2 (fun i hi => ?_), ⟨q, E1.at hq (by unfold cW2; omega), fun i hi => ⟨(hqs i hi).1, ?_⟩⟩, fun i hi => ⟨(ha i hi).1, ?_⟩⟩
        · by_cases ei : i = p
          · rw [ei]; exact m1
          · exact (a9 i hi).1.keep E1 (by unfold cW2; omega) (by unfold cW2; omega)
        · have z := (hqs i hi).1
          refine kz _ _ (hqs i hi).2 ?_ ?_
          · unfold zW at z; omega
          · unfold zW at z; omega
        · obtain ⟨z, T⟩ := ha i hi
          refine kz _ _ T ?_ ?_
          · rcases z with z | z
            · unfold zW at z; omega
            · omega
          · rcases z with z | z
            · unfold zW at z; omega
            · omega
      refine k76 (S := cS) (Z := zW) (fun q h => cS_zW h) (by unfold zW; omega) (by unfold zW; omega) (by omega) (fun i => mt_gd_g (hbf i)) zq (mt_gd_g (hbf p)) R (rI_ok hD 100 0 is (by omega) hI) (a9 p hp4).1 a8 PT Tq ?_ ?_
      · intro t ht hp1 q1 E1 G1 m1 m2 T1 z1 g1
        obtain ⟨k1, k2, k3⟩ := kept hp1 E1 m1 m2
        obtain ⟨v1, hv1⟩ := T1.tag
        refine ⟨_, rfl, rfl, Or.inr ⟨⟨_, rfl⟩, 13, _, _, rfl, k1.1, rfl, ?_⟩⟩
        exact store hp1 q1 v1 t _ _ (E1.mono (fun x _ h => Or.inr (hWM x h))) G1 k1 k2 (E1.at h27 (by unfold cW2; omega)) k3 hv1 z1 (by rw [eA]; exact ht) T1
      · intro hn hp1 E1 G1 m1 m2
        obtain ⟨k1, k2, k3⟩ := kept hp1 E1 m1 m2
        exact ⟨_, rfl, rfl, Or.inl ⟨rfl, H0 (fun g => g p (Nat.le_refl _) hp4 (by rw [eA]; exact hn)) hp1 (E1.mono (fun x _ h => Or.inr (hWM x h))) G1 k1⟩⟩
/-- workRules -/
theorem k75 {r tr : Nat} {st : mStp} {to : mTo} {bf af : Nat → mT} (hs : sOk st) (hr : 52 ≤ r) (htr : 52 ≤ tr) (hbf : ∀ i, mt_gd (bf i)) (haf : ∀ i, i < 4 → af i = (aAf st to.2.length bf i).getD (.leaf none)) (EX : cEx hp) (ST : cSt hp r tr st) (TO : cTo hp tr to) (PT : cPt cS zW hp 26 bf)
    (H1 : (∀ i, i < 4 → aAf st to.2.length bf i ≠ none) → ∀ hp', cE w75 hp hp' → cG 0 hp hp' → cEx hp' → cPt cS zA hp' 27 af → Q (some (.int 1)) hp')
    (H0 : ¬ (∀ i, i < 4 → aAf st to.2.length bf i ≠ none) → ∀ hp', cE w75 hp hp' → cG 0 hp hp' → cEx hp' → Q (some (.int 0)) hp') : mm_R X (d + 5) 75 0 (mm_L0 75 [.ref 13, .ref r]) [] hp Q := by
  obtain ⟨a, h27⟩ := EX.2.2.2.2.2.2.2.2.2.2.2
  refine w75_0 (k75_2 hs hr htr hbf haf 4 0 hp a _ _ (by omega) EX ST TO PT h27 (fun i hi => absurd hi (by omega)) ?_ ?_)
  · intro h; exact H1 (fun i hi => h i (by omega) hi)
  · intro h; exact H0 (fun g => h (fun i _ hi => g i hi))
end CCH
