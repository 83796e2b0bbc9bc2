/-! WHAT BUILDING LEAVES ALONE in the class's cells -/
def nR (hp : mm_H) (x : Nat) : Prop := (∀ cs, hp[x]? ≠ some (8, cs)) ∧ ∀ y cs ds, x = y + 1 → hp[y]? = some (8, cs) → hp[x]? ≠ some (1000, ds)
def qB (hp : mm_H) (W : Nat → Prop) : Prop := ∀ x, x < hp.length → W x → nV hp x ∧ ¬ isJ hp x ∧ (x < 12 ∨ 86 ≤ x) ∧ nR hp x
theorem qB.nv {hp : mm_H} {W : Nat → Prop} (q : qB hp W) : ∀ x, x < hp.length → W x → nV hp x := fun x h w => (q x h w).1
theorem cSc.keepB {hp hp' : mm_H} {W : Nat → Prop} (F : cE W hp hp') (q : qB hp W) {sc : mSc} {r : Nat} (h : cSc hp sc r) : cSc hp' sc r := by
  have := cT.keepT (S := fun _ => True) F q.nv (cT_leaf.mpr h)
  exact cT_leaf.mp this
theorem cE.fx {hp hp' : mm_H} {W : Nat → Prop} (F : cE W hp hp') (q : qB hp W) {x : Nat} {c : mm_C} (h : hp[x]? = some c) (h1 : 12 ≤ x) (h2 : x < 86) : hp'[x]? = some c := F.at h (fun w => by have := (q x (List.getElem?_eq_some_iff.mp h).1 w).2.2.1; omega)
theorem cEx.keepB {hp hp' : mm_H} {W : Nat → Prop} (h : cEx hp) (F : cE W hp hp') (q : qB hp W) : cEx hp' := by
  obtain ⟨a1, a2, a3, a4, a5, a6, a7, a8, a9, a10, a11, a12⟩ := h
  have rm : ∀ {r : Nat}, cRm hp r → 12 ≤ r → r < 85 → cRm hp' r := fun {r} M h1 h2 => by
    obtain ⟨x2, x3, x4, x5, x6, cs, m1, m2, m3⟩ := M
    exact ⟨x2, x3, x4, x5, x6, cs, F.fx q m1 h1 (by omega), F.fx q m2 (by omega) (by omega), m3⟩
  have lr : ∀ {r : Nat}, cLr hp r → 12 ≤ r → r < 85 → cLr hp' r := fun {r} M h1 h2 => by
    obtain ⟨x2, x3, x4, x5, x6, cs, m1, m2, m3⟩ := M
    exact ⟨x2, x3, x4, x5, x6, cs, F.fx q m1 h1 (by omega), F.fx q m2 (by omega) (by omega), m3⟩
  refine ⟨F.fx q a1 (by omega) (by omega), F.fx q a2 (by omega) (by omega), F.fx q a3 (by omega) (by omega), F.fx q a4 (by omega) (by omega), a5.keepB F q, a6.keepB F q, rm a7 (by omega) (by omega), rm a8 (by omega) (by omega), fun p hp4 => ?_, ?_, ?_, ?_⟩
  · obtain ⟨b1, b2, b3⟩ := a9 p hp4
    exact ⟨rm b1 (by omega) (by omega), lr b2 (by omega) (by omega), lr b3 (by omega) (by omega)⟩
  · obtain ⟨y, e⟩ := a10; exact ⟨y, F.fx q e (by omega) (by omega)⟩
  · obtain ⟨y, e⟩ := a11; exact ⟨y, F.fx q e (by omega) (by omega)⟩
  · obtain ⟨y, e⟩ := a12; exact ⟨y, F.fx q e (by omega) (by omega)⟩
theorem cJw.keepB {hp hp' : mm_H} {W : Nat → Prop} {j s n : Nat} {ws : List (List Nat)} (h : cJw hp j s n ws) (F : cE W hp hp') (q : qB hp W) : cJw hp' j s n ws := by
  obtain ⟨lb, jk, ej, a, b, _, c, _⟩ := id h
  refine h.keep F (fun w => ?_) (fun w => ?_) (fun w => ?_)
  · exact (q _ (List.getElem?_eq_some_iff.mp a).1 w).2.1 (h.isJ (Or.inl rfl))
  · exact (q _ (List.getElem?_eq_some_iff.mp b).1 w).2.1 (h.isJ (Or.inr (Or.inl rfl)))
  · exact (q _ (List.getElem?_eq_some_iff.mp c).1 w).2.1 (h.isJ (Or.inr (Or.inr rfl)))
theorem cPr.keepB {hp hp' : mm_H} {W : Nat → Prop} {s : Nat} {g : mPg} {jl : List Value} (hs : s < 6) (h : cPr hp s g jl) (F : cE W hp hp') (q : qB hp W) : cPr hp' s g jl := by
  obtain ⟨lv, jc, oc, nj, tk, out, rl, P, J, R, hr, ho, e0, z0, z1, z2⟩ := h
  have kc : ∀ {x : Nat} {c : mm_C}, hp[x]? = some c → 56 + 5 * s ≤ x → x ≤ 60 + 5 * s → hp'[x]? = some c := fun hx h1 h2 => F.fx q hx (by omega) (by omega)
  have kt : ∀ {t : mT} {y : Nat}, cT cS hp t y → cT cS hp' t y := fun T => cT.keepT F q.nv T
  obtain ⟨ls, p0, p1, p2, p3⟩ := P
  obtain ⟨J0, J1, J2⟩ := id J
  refine ⟨lv, jc, oc, nj, tk, out, rl, ⟨ls, kc p0 (by omega) (by omega), kc p1 (by omega) (by omega), p2, p3⟩, ⟨kc J0 (by omega) (by omega), J1, fun n hn => ?_⟩, ⟨kc R.1 (by omega) (by omega), R.2⟩, hr, ho, kc e0 (by omega) (by omega), z0, fun g1 => ?_, fun g2 => ?_⟩
  · rcases J2 n hn with e | ⟨j, ws, e, Jw, hj⟩
    · exact Or.inl e
    · exact Or.inr ⟨j, ws, e, Jw.keepB F q, hj⟩
  · obtain ⟨a, b, c, e, f, f'⟩ := z1 g1
    refine ⟨a, b, c, e, fun n hn => ⟨(f n hn).1, fun t ht => ?_⟩, fun n h1 h2 h3 => ?_⟩
    · obtain ⟨y, y1, y2, y3⟩ := (f n hn).2 t ht
      exact ⟨y, y1, y2, kt y3⟩
    · obtain ⟨ws, j, w1, w2, w3⟩ := f' n h1 h2 h3
      exact ⟨ws, j, w1, w2, w3.keepB F q⟩
  · obtain ⟨y, y1, y2, y3⟩ := z2 g2
    exact ⟨y, y1, y2, kt y3⟩
theorem cRn.keepB {hp hp' : mm_H} {W : Nat → Prop} {R : mRn} {JL : Nat → List Value} (h : cRn hp R JL) (F : cE W hp hp') (q : qB hp W) : cRn hp' R JL := by
  obtain ⟨⟨sr, ir, a1, a2⟩, b, ⟨al, c1, c2, c3, c4, c5⟩, e⟩ := h
  refine ⟨⟨sr, ir, F.fx q a1 (by omega) (by omega), a2⟩, F.fx q b (by omega) (by omega), ⟨al, F.fx q c1 (by omega) (by omega), c2, c3, c4, fun k s n hk => ?_⟩, fun s hs => (e s hs).keepB hs F q⟩
  obtain ⟨j, ws, d1, d2, d3, d4⟩ := c5 k s n hk
  exact ⟨j, ws, d1, d2, d3.keepB F q, d4⟩
theorem cRl.keepB {hp hp' : mm_H} {W : Nat → Prop} {r N : Nat} {is : List mIt} (h : cRl hp r is N) (F : cE W hp hp') (q : qB hp W) : cRl hp' r is N := by
  obtain ⟨junk, a, b, _⟩ := id h
  refine cRu.keep h F (fun w => ?_) (fun w => ?_)
  · exact (q _ (List.getElem?_eq_some_iff.mp a).1 w).2.2.2.1 _ a
  · exact (q _ (List.getElem?_eq_some_iff.mp b).1 w).2.2.2.2 _ _ _ rfl a b
theorem cSt.keepB {hp hp' : mm_H} {W : Nat → Prop} {r tr : Nat} {s : mStp} (h : cSt hp r tr s) (F : cE W hp hp') (q : qB hp W) (hr : ∀ k, k ≤ 6 → ¬ W (r + k)) : cSt hp' r tr s := by
  obtain ⟨cond, srcs, ps, rs, h0, h1, hl, h2, h3, h4, h5, h6, h7, h8, h9, h10, h11⟩ := h
  refine ⟨cond, srcs, ps, rs, F.at h0 (hr 0 (by omega)), F.at h1 (hr 1 (by omega)), hl, h2, F.at h3 (hr 2 (by omega)), F.at h4 (hr 3 (by omega)), F.at h5 (hr 4 (by omega)), F.at h6 (hr 5 (by omega)), F.at h7 (hr 6 (by omega)), fun p hp4 => ?_, fun p hp4 => ?_, ?_, h11⟩
  · rcases h8 p hp4 with g | ⟨t, y, a, b, c, e⟩
    · exact Or.inl g
    · exact Or.inr ⟨t, y, a, b, c, cT.keepT F q.nv e⟩
  · rcases h9 p hp4 with g | ⟨D, is, y, a, b, c, e, f⟩
    · exact Or.inl g
    · exact Or.inr ⟨D, is, y, a, b, c, e.keepB F q, f⟩
  · rcases h10 with g | ⟨D, is, y, a, b, c, e, f⟩
    · exact Or.inl g
    · exact Or.inr ⟨D, is, y, a, b, c, e.keepB F q, f⟩
theorem cEn.keepB {hp hp' : mm_H} {W : Nat → Prop} {E : mEv} {tr sr : Nat → Nat} (h : cEn hp E tr sr) (F : cE W hp hp') (q : qB hp W) (h3 : ¬ W 3) (h10 : ¬ W 10) (h11 : ¬ W 11) (hw : ∀ x, 113 ≤ x → ¬ W x) : cEn hp' E tr sr := by
  obtain ⟨⟨l, a1, a2, a3⟩, ⟨m, b1, b2, b3, b4⟩, ⟨n, c1, c2, c3, c4⟩⟩ := h
  refine ⟨⟨l, F.at a1 h3, a2, fun c hc => ?_⟩, ⟨m, F.at b1 h10, b2, b3, fun i hi => ?_⟩, ⟨n, F.at c1 h11, c2, c3, fun i hi => ?_⟩⟩
  · obtain ⟨y, e1, e2, e3⟩ := a3 c hc
    exact ⟨y, e1, e2, cT.keepT F q.nv e3⟩
  · obtain ⟨e1, e2, e3⟩ := b4 i hi
    exact ⟨e1, e2, e3.keep F (fun x h1 h2 => hw x (by omega))⟩
  · obtain ⟨e1, e2, e3, e4⟩ := c4 i hi
    exact ⟨e1, e2, e3, e4.keepB F q (fun k hk => hw _ (by omega))⟩
theorem cA.keepB {hp hp' : mm_H} {W : Nat → Prop} {E : mEv} {tr sr : Nat → Nat} {R : mRn} {JL : Nat → List Value} (h : cA hp E tr sr R JL) (F : cE W hp hp') (q : qB hp W) (h3 : ¬ W 3) (h10 : ¬ W 10) (h11 : ¬ W 11) (hw : ∀ x, 113 ≤ x → ¬ W x) : cA hp' E tr sr R JL :=
  ⟨h.1.keepB F q, h.2.1.keepB F q h3 h10 h11 hw, h.2.2.1.keepB F q, Nat.le_trans h.2.2.2 F.1⟩
/-- the cells of the reference -/
def wMm (x : Nat) : Prop := 86 ≤ x ∧ x ≤ 112
theorem mR.tag {hp : mm_H} {σ : mS} (M : mR hp σ) {x : Nat} (h : wMm x) : ∃ u cs, hp[x]? = some (u, cs) ∧ u ≠ 2 ∧ u ≠ 5 ∧ u ≠ 8 ∧ u ≠ 9 ∧ u ≠ 2009 ∧ u ≠ 2002 ∧ (x = 86 → u = 10) := by
  obtain ⟨m1, m2, m3⟩ := M
  have key : ∀ x : Nat, x < 113 → 86 ≤ x → x = 86 ∨ (∃ e ∈ mAi, e.1 = x ∧ (e.2.1 = 1000 ∨ e.2.1 = 1001 ∨ e.2.1 = 1003 ∨ e.2.1 = 1002)) ∨ ∃ e ∈ mAl, e.1 = x := by decide
  rcases key x (by unfold wMm at h; omega) h.1 with rfl | ⟨e, he, rfl, hu⟩ | ⟨e, he, rfl⟩
  · exact ⟨10, _, m1, by decide, by decide, by decide, by decide, by decide, by decide, fun _ => rfl⟩
  · refine ⟨e.2.1, _, m2 e he, by omega, by omega, by omega, by omega, by omega, by omega, fun h86 => ?_⟩
    have : ∀ e ∈ mAi, e.1 ≠ 86 := by decide
    exact absurd h86 (this e he)
  · refine ⟨1004, _, m3 e he, by decide, by decide, by decide, by decide, by decide, by decide, fun h86 => ?_⟩
    have : ∀ e ∈ mAl, e.1 ≠ 86 := by decide
    exact absurd h86 (this e he)
theorem mR.qB {hp : mm_H} {σ : mS} (M : mR hp σ) : qB hp wMm := by
  intro x hx w
  obtain ⟨u, cs, h0, h2, h5, h8, h9, h29, h22, h10⟩ := M.tag w
  have prev : ∀ y vs v, x = y + 1 → hp[y]? = some (v, vs) → v = 2 ∨ v = 8 ∨ v = 9 → x = 86 := by
    intro y vs v e hy hv
    apply Classical.byContradiction
    intro hne
    obtain ⟨u', cs', g0, g2, _, g8, g9, _⟩ := M.tag (x := y) ⟨by have := w.1; omega, by have := w.2; omega⟩
    rw [g0] at hy; cases hy; omega
  refine ⟨⟨fun cs' e => ?_, fun y u' cs' vs e hx' hu hy => ?_⟩, ?_, Or.inr w.1, ⟨fun cs' e => ?_, fun y cs' ds e hy hx' => ?_⟩⟩
  · rw [h0] at e; cases e; exact h2 rfl
  · have := h10 (prev y vs 2 e hy (Or.inl rfl))
    rw [h0] at hx'; cases hx'; omega
  · rintro (⟨cs', e⟩ | ⟨cs', e⟩ | ⟨cs', e⟩ | ⟨y, cs', ds, e, hy, hx'⟩ | ⟨y, cs', ds, es, e, hy, hy1, hx'⟩)
    · rw [h0] at e; cases e; exact h5 rfl
    · rw [h0] at e; cases e; exact h9 rfl
    · rw [h0] at e; cases e; exact h29 rfl
    · have := h10 (prev y cs' 9 e hy (Or.inr (Or.inr rfl)))
      rw [h0] at hx'; cases hx'; omega
    · by_cases h86 : x = 86
      · have := h10 h86
        rw [h0] at hx'; cases hx'; omega
      · by_cases h87 : x = 87
        · have ey : y + 1 = 86 := by omega
          obtain ⟨u', cs'', g0, _, _, _, _, _, _, g10⟩ := M.tag (x := 86) ⟨by omega, by omega⟩
          rw [ey, g0] at hy1; cases hy1
          exact absurd (g10 rfl) (by decide)
        · obtain ⟨u', cs'', g0, _, _, _, g9, _⟩ := M.tag (x := y) ⟨by have := w.1; omega, by have := w.2; omega⟩
          rw [g0] at hy; cases hy; exact g9 rfl
  · rw [h0] at e; cases e; exact h8 rfl
  · have := h10 (prev y cs' 8 e hy (Or.inr (Or.inl rfl)))
    rw [h0] at hx'; cases hx'; omega
theorem mF.cE {hp hp' : mm_H} (F : mF hp hp') : cE wMm hp hp' := ⟨by rw [F.1]; exact Nat.le_refl _, fun x hx hw => F.2 x (by unfold wMm at hw; omega)⟩
theorem cE.mR {hp hp' : mm_H} {W : Nat → Prop} {σ : mS} (F : cE W hp hp') (M : mR hp σ) (h : ∀ x, 86 ≤ x → x ≤ 112 → ¬ W x) : mR hp' σ := by
  obtain ⟨m1, m2, m3⟩ := M
  have r1 : ∀ e ∈ mAi, 86 ≤ e.1 ∧ e.1 ≤ 112 := by decide
  have r2 : ∀ e ∈ mAl, 86 ≤ e.1 ∧ e.1 ≤ 112 := by decide
  exact ⟨F.at m1 (h _ (by omega) (by omega)), fun e he => F.at (m2 e he) (h _ (r1 e he).1 (r1 e he).2), fun e he => F.at (m3 e he) (h _ (r2 e he).1 (r2 e he).2)⟩
