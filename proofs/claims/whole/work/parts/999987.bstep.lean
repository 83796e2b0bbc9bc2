/-! BUILDING: a step is changed -/
def eSet (E : mEv) (s : Nat) (st : mStp) : mEv := (eIn E, eTl E, (eSp E).set s st)
theorem eSt_set {E : mEv} {s : Nat} {st : mStp} (hs : s < (eSp E).length) (k : Nat) : eSt (eSet E s st) k = if k = s then st else eSt E k := by
  show ((eSp E).set s st).getD k s0 = _
  rw [List.getD_eq_getElem?_getD]
  by_cases e : k = s
  · subst e; rw [if_pos rfl, List.getElem?_set_self hs]; rfl
  · rw [if_neg e, List.getElem?_set_ne (fun z => e z.symm)]; exact (List.getD_eq_getElem?_getD ..).symm
theorem eSp_set {E : mEv} {s : Nat} {st : mStp} : (eSp (eSet E s st)).length = (eSp E).length := List.length_set ..
theorem eF.set {E : mEv} {s : Nat} {st : mStp} (h : eF E) (hs : s < (eSp E).length) (h1 : sTl st = sTl (eSt E s)) (h2 : sOk st) : eF (eSet E s st) := by
  obtain ⟨⟨o1, o2, o3⟩, f2, f3, f4, f5⟩ := h
  refine ⟨⟨o1, fun i hi => ?_, o3⟩, f2, by rw [eSp_set]; exact f3, fun k hk => ?_, f5⟩
  · rw [eSp_set] at hi
    rw [eSt_set hs]
    split
    · exact h2
    · exact o2 i hi
  · rw [eSp_set] at hk
    rw [eSt_set hs]
    split
    · rw [h1]; exact f4 s hs
    · exact f4 k hk
theorem AI.set {E : mEv} {tr sr : Nat → Nat} {R : mRn} {s : Nat} {st : mStp} (h : AI E tr sr R) (h1 : nSt R ≠ 1) (hs : s < (eSp E).length) (e : sTl st = sTl (eSt E s)) (h2 : sOk st) : AI (eSet E s st) tr sr R := by
  obtain ⟨a1, a2, a3, a4, a5, a6, a7, a8, a9, a10, a11⟩ := h
  exact ⟨a1.set hs e h2, fun z => absurd z h1, a3, a4, a5, a6, by rw [eSp_set]; exact a7, a8, a9, by rw [eSp_set]; exact a10, a11⟩
def wSt (r x : Nat) : Prop := r ≤ x ∧ x ≤ r + 6
theorem cSt.tag {hp : mm_H} {r tr : Nat} {s : mStp} (h : cSt hp r tr s) : ∀ k, k ≤ 6 → ∃ u cs, hp[r + k]? = some (u, cs) ∧ (k = 0 → u = 7) ∧ (1 ≤ k → u = 1000 ∧ k ≤ 4 ∨ u = 2002 ∧ k = 5 ∨ u = 2008) := by
  obtain ⟨cond, srcs, ps, rs, h0, h1, hl, h2, h3, h4, h5, h6, h7, _⟩ := h
  intro k hk
  match k, hk with
  | 0, _ => exact ⟨_, _, h0, fun _ => rfl, fun z => by omega⟩
  | 1, _ => exact ⟨_, _, h1, fun z => by omega, fun _ => by omega⟩
  | 2, _ => exact ⟨_, _, h3, fun z => by omega, fun _ => by omega⟩
  | 3, _ => exact ⟨_, _, h4, fun z => by omega, fun _ => by omega⟩
  | 4, _ => exact ⟨_, _, h5, fun z => by omega, fun _ => by omega⟩
  | 5, _ => exact ⟨_, _, h6, fun z => by omega, fun _ => by omega⟩
  | 6, _ => exact ⟨_, _, h7, fun z => by omega, fun _ => by omega⟩
theorem cTo.tag {hp : mm_H} {r : Nat} {to : mTo} (h : cTo hp r to) : ∀ k, k ≤ 4 → ∃ u cs, hp[r + k]? = some (u, cs) ∧ (k = 0 → u = 6) ∧ (1 ≤ k → u = 1000 ∨ u = 1001 ∧ k = 2) := by
  obtain ⟨j1, j2, j3, j4, h0, h1, h2, h3, h4, _⟩ := h
  intro k hk
  match k, hk with
  | 0, _ => exact ⟨_, _, h0, fun _ => rfl, fun z => by omega⟩
  | 1, _ => exact ⟨_, _, h1, fun z => by omega, fun _ => by omega⟩
  | 2, _ => exact ⟨_, _, h2, fun z => by omega, fun _ => by omega⟩
  | 3, _ => exact ⟨_, _, h3, fun z => by omega, fun _ => by omega⟩
  | 4, _ => exact ⟨_, _, h4, fun z => by omega, fun _ => by omega⟩
theorem cSt.qB {hp : mm_H} {r tr : Nat} {s : mStp} (h : cSt hp r tr s) (hr : 113 ≤ r) : qB hp (wSt r) := by
  intro x hx w
  have tg := h.tag
  obtain ⟨k, hk, rfl⟩ : ∃ k, k ≤ 6 ∧ x = r + k := ⟨x - r, by unfold wSt at w; omega, by unfold wSt at w; omega⟩
  obtain ⟨u, cs, g1, g2, g3⟩ := tg k hk
  refine qB_tag g1 ?_ (Or.inr (by omega)) (fun e y hy => ?_) (fun e y hy => ?_)
  · by_cases k0 : k = 0
    · have := g2 k0; omega
    · have := g3 (by omega); omega
  · have k1 : 1 ≤ k := by
      apply Classical.byContradiction
      intro z
      have := g2 (by omega); omega
    obtain ⟨v, vs, p1, p2, p3⟩ := tg (k - 1) (by omega)
    refine ⟨v, vs, by rw [show y = r + (k - 1) by omega]; exact p1, ?_⟩
    by_cases k0 : k - 1 = 0
    · have := p2 k0; omega
    · have := p3 (by omega); omega
  · have k1 : 1 ≤ k := by
      apply Classical.byContradiction
      intro z
      have := g2 (by omega); omega
    obtain ⟨v, vs, p1, p2, p3⟩ := tg (k - 1) (by omega)
    refine ⟨v, vs, by rw [show y = r + (k - 1) by omega]; exact p1, ?_⟩
    by_cases k0 : k - 1 = 0
    · have := p2 k0; omega
    · have := p3 (by omega); omega
theorem st_dis {hp : mm_H} {r r' a b : Nat} {s s' : mStp} (h : cSt hp r a s) (h' : cSt hp r' b s') (hne : r ≠ r') : ∀ k, k ≤ 6 → ¬ wSt r (r' + k) := by
  intro k hk w
  unfold wSt at w
  by_cases g : r' < r
  · obtain ⟨u, cs, g1, _, g3⟩ := h'.tag (r - r') (by omega)
    obtain ⟨v, vs, p1, p2, _⟩ := h.tag 0 (by omega)
    rw [show r' + (r - r') = r + 0 by omega, p1] at g1
    cases g1
    have := p2 rfl; have := g3 (by omega); omega
  · obtain ⟨u, cs, g1, _, g3⟩ := h.tag (r' - r) (by omega)
    obtain ⟨v, vs, p1, p2, _⟩ := h'.tag 0 (by omega)
    rw [show r + (r' - r) = r' + 0 by omega, p1] at g1
    cases g1
    have := p2 rfl; have := g3 (by omega); omega
theorem to_dis {hp : mm_H} {r r' a : Nat} {s : mStp} {to : mTo} (h : cSt hp r a s) (h' : cTo hp r' to) : ∀ k, k ≤ 4 → ¬ wSt r (r' + k) := by
  intro k hk w
  unfold wSt at w
  by_cases g : r' ≤ r
  · obtain ⟨u, cs, g1, g2, g3⟩ := h'.tag (r - r') (by omega)
    obtain ⟨v, vs, p1, p2, _⟩ := h.tag 0 (by omega)
    rw [show r' + (r - r') = r + 0 by omega, p1] at g1
    cases g1
    have := p2 rfl
    by_cases z : r - r' = 0
    · have := g2 z; omega
    · have := g3 (by omega); omega
  · obtain ⟨u, cs, g1, _, g3⟩ := h.tag (r' - r) (by omega)
    obtain ⟨v, vs, p1, p2, _⟩ := h'.tag 0 (by omega)
    rw [show r + (r' - r) = r' + 0 by omega, p1] at g1
    cases g1
    have := p2 rfl; have := g3 (by omega); omega
theorem cA.setS {hp hp' : mm_H} {E : mEv} {tr sr : Nat → Nat} {R : mRn} {JL : Nat → List Value} {s : Nat} {st : mStp} (h : cA hp E tr sr R JL) (hinj : ∀ i j, i < (eSp E).length → j < (eSp E).length → sr i = sr j → i = j) (hs : s < (eSp E).length) (F : cE (wSt (sr s)) hp hp') (e : sTl st = sTl (eSt E s)) (C : cSt hp' (sr s) (tr (sTl (eSt E s))) st) : cA hp' (eSet E s st) tr sr R JL := by
  obtain ⟨x, ⟨⟨l, a1, a2, a3⟩, ⟨m, b1, b2, b3, b4⟩, ⟨n, c1, c2, c3, c4⟩⟩, rn, hl⟩ := h
  obtain ⟨d1, d2, d3, d4⟩ := c4 s hs
  have q := d4.qB d2
  have z : ∀ {y : Nat}, y < 113 → ¬ wSt (sr s) y := fun hy w => by unfold wSt at w; omega
  refine ⟨x.keepB F q, ⟨⟨l, F.at a1 (z (by omega)), a2, fun c hc => ?_⟩, ⟨m, F.at b1 (z (by omega)), b2, b3, fun i hi => ?_⟩, ⟨n, F.at c1 (z (by omega)), c2, by rw [eSp_set]; exact c3, fun i hi => ?_⟩⟩, rn.keepB F q, Nat.le_trans hl F.1⟩
  · obtain ⟨y, e1, e2, e3⟩ := a3 c hc
    exact ⟨y, e1, e2, cT.keepT F q.nv e3⟩
  · obtain ⟨e1, e2, e3⟩ := b4 i hi
    refine ⟨e1, e2, e3.keep F (fun y h1 h2 => ?_)⟩
    have := to_dis d4 e3 (y - tr i) (by omega)
    rw [show tr i + (y - tr i) = y by omega] at this
    exact this
  · rw [eSp_set] at hi
    rw [eSt_set hs]
    obtain ⟨e1, e2, e3, e4⟩ := c4 i hi
    by_cases ei : i = s
    · subst ei
      rw [if_pos rfl]
      exact ⟨e1, e2, by rw [e]; exact e3, by rw [e]; exact C⟩
    · rw [if_neg ei]
      exact ⟨e1, e2, e3, e4.keepB F q (st_dis d4 e4 (fun z => ei (hinj i s hi hs z.symm)))⟩
theorem CI.setS {hp hp' : mm_H} {D : List Nat} {x : Int32} {E : mEv} {tr sr : Nat → Nat} {R : mRn} {JL : Nat → List Value} {s : Nat} {st : mStp} {σ : mS} (h : CI hp D x E tr sr R JL) (M : mR hp σ) (hA : AI E tr sr R) (hs : s < (eSp E).length) (F : cE (wSt (sr s)) hp hp') (e : sTl st = sTl (eSt E s)) (C : cSt hp' (sr s) (tr (sTl (eSt E s))) st) : CI hp' D x (eSet E s st) tr sr R JL ∧ mR hp' σ := by
  obtain ⟨h1, h2, h3⟩ := h
  obtain ⟨_, ⟨_, _, n, c1, c2, c3, c4⟩, _⟩ := id h3
  have d2 := (c4 s hs).2.1
  have z : ∀ {y : Nat}, y < 113 → ¬ wSt (sr s) y := fun hy w => by unfold wSt at w; omega
  refine ⟨⟨?_, h2.keep F (z (by omega)) (z (by omega)), h3.setS hA.2.2.2.2.2.2.2.2.2.1 hs F e C⟩, F.mR M (fun y _ hy => z (by omega))⟩
  unfold cSr
  rw [eSp_set]
  exact F.at h1 (z (by omega))
/-- a step in the reference -/
def sEs1 (σ : mS) (s : Nat) (st : mStp) : Prop := σ.2.1 96 s = nI (sTl st) ∧ σ.2.1 97 s = nI (sMk st) ∧ σ.2.1 98 s = nI (sMe st) ∧ sEr σ (24 + s) (sRl st 4) ∧ ∀ p, p < 4 → σ.2.1 99 (4 * s + p) = nI (sSr st p).length ∧ (∀ k (h : k < (sSr st p).length), σ.2.1 100 (3 * (4 * s + p) + k) = nI (sSr st p)[k]) ∧ σ.2.1 101 (4 * s + p) = nI (sMg st p) ∧ σ.2.1 102 (4 * s + p) = nI (sPk st p) ∧ sEr σ (4 * s + p) (sRl st p) ∧ ((sPr st p = none ∧ σ.2.1 103 (4 * s + p) = 0) ∨ ∃ t, sPr st p = some t ∧ σ.2.1 103 (4 * s + p) = 1 ∧ mSlot σ aP (3 + (4 * s + p)) (mt_tk t 0))
theorem sEr.k {F : Nat → Prop} {B : Nat → Nat → Prop} {P W : Nat → Prop} {σ σ' : mS} {w : Nat} {r : Option (List Nat)} (h : sEr σ w r) (K : mKp F B P W σ σ') (h1 : ¬ B 105 w) (h2 : ∀ j, 60 * w ≤ j → j < 60 * w + 60 → ¬ B 104 j) : sEr σ' w r := by
  rcases h with ⟨a, b⟩ | ⟨D, a, b1, b2, b3⟩
  · exact Or.inl ⟨a, (K.2.1 105 _ (by decide) h1).trans b⟩
  · exact Or.inr ⟨D, a, b1, (K.2.1 105 _ (by decide) h1).trans b2, fun i hi => (K.2.1 104 _ (by decide) (h2 _ (by omega) (by have := b1.1; omega))).trans (b3 i hi)⟩
def sB (s b j : Nat) : Prop := (b = 96 ∨ b = 97 ∨ b = 98) ∧ j = s ∨ (b = 99 ∨ b = 101 ∨ b = 102 ∨ b = 103) ∧ 4 * s ≤ j ∧ j < 4 * s + 4 ∨ b = 100 ∧ 12 * s ≤ j ∧ j < 12 * s + 12 ∨ b = 104 ∧ (240 * s ≤ j ∧ j < 240 * s + 240 ∨ 1440 + 60 * s ≤ j ∧ j < 1440 + 60 * s + 60) ∨ b = 105 ∧ (4 * s ≤ j ∧ j < 4 * s + 4 ∨ j = 24 + s)
theorem sE.setS {F : Nat → Prop} {B : Nat → Nat → Prop} {P W : Nat → Prop} {σ σ' : mS} {E : mEv} {s p0 : Nat} {st : mStp} (h : sE σ E) (hp : sEp σ E p0) (h600 : p0 ≤ 600) (hs : s < (eSp E).length) (h6 : (eSp E).length ≤ 6) (hso : ∀ k, k < 6 → ∀ p, (sSr (eSt E k) p).length ≤ 3) (K : mKp F B P W σ σ') (hF : ¬ F 6 ∧ ¬ F 12) (hB : ∀ b j, 91 ≤ b → b ≤ 105 → B b j → sB s b j) (hP : ∀ p, p < p0 → ¬ P p) (hW : ∀ x, x < 27 → W x → 3 + 4 * s ≤ x ∧ x < 3 + 4 * s + 4) (C : sEs1 σ' s st) : sE σ' (eSet E s st) ∧ (∀ c, c < 3 → mSlot σ' (fun p => p < p0) c (mt_tk (eIn E c) 0)) ∧ ∀ k p t, k < 6 → p < 4 → k ≠ s → sPr (eSt E k) p = some t → mSlot σ' (fun q => q < p0) (3 + (4 * k + p)) (mt_tk t 0) := by
  obtain ⟨h1, h2, h3, h4, h5⟩ := h
  have kin : ∀ c, c < 3 → mSlot σ' (fun p => p < p0) c (mt_tk (eIn E c) 0) := fun c hc => (hp.1 c hc).keep K (fun w => by have := hW c (by omega) w; omega) hP
  have kpr : ∀ k p t, k < 6 → p < 4 → k ≠ s → sPr (eSt E k) p = some t → mSlot σ' (fun q => q < p0) (3 + (4 * k + p)) (mt_tk t 0) := fun k p t hk hp4 hne e => (hp.2 k p t hk hp4 e).keep K (fun w => by have := hW _ (by omega) w; omega) hP
  refine ⟨⟨(K.1 6 hF.1).trans h1, by rw [eSp_set]; exact (K.1 12 hF.2).trans h2, fun i hi => ?_, fun k hk => ?_, fun c hc => (kin c hc).weak (fun p hp' => by show p < 600; omega)⟩, kin, kpr⟩
  · obtain ⟨a1, a2, a3⟩ := h3 i hi
    refine ⟨(K.2.1 91 _ (by decide) (fun z => by have := hB _ _ (by omega) (by omega) z; unfold sB at this; omega)).trans a1, (K.2.1 92 _ (by decide) (fun z => by have := hB _ _ (by omega) (by omega) z; unfold sB at this; omega)).trans a2, fun p hp' => ?_⟩
    obtain ⟨b1, b2, b3, b4⟩ := a3 p hp'
    exact ⟨b1, (K.2.1 93 _ (by decide) (fun z => by have := hB _ _ (by omega) (by omega) z; unfold sB at this; omega)).trans b2, (K.2.1 94 _ (by decide) (fun z => by have := hB _ _ (by omega) (by omega) z; unfold sB at this; omega)).trans b3, (K.2.1 95 _ (by decide) (fun z => by have := hB _ _ (by omega) (by omega) z; unfold sB at this; omega)).trans b4⟩
  · rw [eSt_set hs]
    by_cases e : k = s
    · subst e; rw [if_pos rfl]; exact C
    · rw [if_neg e]
      obtain ⟨a1, a2, a3, a4, a5⟩ := h4 k hk
      have nb : ∀ b j, 91 ≤ b → b ≤ 105 → ¬ sB s b j → ¬ B b j := fun b j h1 h2 h z => h (hB b j h1 h2 z)
      refine ⟨(K.2.1 96 _ (by decide) (nb _ _ (by omega) (by omega) (by unfold sB; omega))).trans a1, (K.2.1 97 _ (by decide) (nb _ _ (by omega) (by omega) (by unfold sB; omega))).trans a2, (K.2.1 98 _ (by decide) (nb _ _ (by omega) (by omega) (by unfold sB; omega))).trans a3, a4.k K (nb _ _ (by omega) (by omega) (by unfold sB; omega)) (fun j h1 h2 => nb _ _ (by omega) (by omega) (by unfold sB; omega)), fun p hp4 => ?_⟩
      obtain ⟨b1, b2, b3, b4, b5, b6⟩ := a5 p hp4
      have h3' := hso k hk p
      refine ⟨(K.2.1 99 _ (by decide) (nb _ _ (by omega) (by omega) (by unfold sB; omega))).trans b1, fun i hi => (K.2.1 100 _ (by decide) (nb _ _ (by omega) (by omega) (by unfold sB; omega))).trans (b2 i hi), (K.2.1 101 _ (by decide) (nb _ _ (by omega) (by omega) (by unfold sB; omega))).trans b3, (K.2.1 102 _ (by decide) (nb _ _ (by omega) (by omega) (by unfold sB; omega))).trans b4, b5.k K (nb _ _ (by omega) (by omega) (by unfold sB; omega)) (fun j h1 h2 => nb _ _ (by omega) (by omega) (by unfold sB; omega)), ?_⟩
      rcases b6 with ⟨g1, g2⟩ | ⟨t, g1, g2, g3⟩
      · exact Or.inl ⟨g1, (K.2.1 103 _ (by decide) (nb _ _ (by omega) (by omega) (by unfold sB; omega))).trans g2⟩
      · exact Or.inr ⟨t, g1, (K.2.1 103 _ (by decide) (nb _ _ (by omega) (by omega) (by unfold sB; omega))).trans g2, (kpr k p t hk hp4 e g1).weak (fun q hq => by show q < 600; omega)⟩
