/-! THE CLASS'S RUN in its cells -/
def qY (hp : mm_H) (W : Nat → Prop) : Prop := ∀ x, x < hp.length → W x → wE x ∨ (nV hp x ∧ (x < 113 ∨ isJ hp x))
theorem cT.keepY {hp hp' : mm_H} {W : Nat → Prop} (h20 : ∃ cs, hp[20]? = some (2002, cs)) (E : cE W hp hp') (hW : qY hp W) : ∀ {t : mT} {r : Nat}, cT cS hp t r → cS r → cT cS hp' t r := by
  have k0 : ∀ r vs, cS r → hp[r]? = some (2, vs) → hp'[r]? = some (2, vs) := fun r vs hr h => E.at h (fun w => by
    rcases hW r (List.getElem?_eq_some_iff.mp h).1 w with g | g
    · unfold cS at hr; unfold wE at g; omega
    · exact g.1.1 vs h)
  have k1 : ∀ r vs u cs, cS r → hp[r]? = some (2, vs) → hp[r + 1]? = some (u, cs) → u = 1001 ∨ u = 2002 → hp'[r + 1]? = some (u, cs) := fun r vs u cs hr h h' g => E.at h' (fun w => by
    rcases hW (r + 1) (List.getElem?_eq_some_iff.mp h').1 w with z | z
    · have : r = 20 := by unfold cS at hr; unfold wE at z; omega
      subst this
      obtain ⟨cs', e⟩ := h20
      rw [e] at h; cases h
    · exact z.1.2 r u cs vs rfl h' g h)
  intro t
  induction t using mt_ind with
  | hs sc =>
    intro r h hr
    obtain ⟨n, junk, h1, h2, h3⟩ := h
    exact ⟨n, junk, k0 _ _ hr h1, k1 _ _ _ _ hr h1 h2 (Or.inl rfl), h3⟩
  | hl t ht ih =>
    intro r h hr
    obtain ⟨n, I, h1, h2⟩ := (cT_list ht).mp h
    refine (cT_list ht).mpr ⟨n, I, k0 _ _ hr h1, ?_⟩
    rcases h2 with h2 | ⟨rfl, items, h3, h5, h4⟩
    · exact Or.inl h2
    · refine Or.inr ⟨rfl, items, k1 _ _ _ _ hr h1 h3 (Or.inr rfl), h5, fun j hj => ?_⟩
      obtain ⟨q, g1, g2, g3⟩ := h4 j hj
      exact ⟨q, g1, g2, ih _ (List.getElem_mem hj) g3 g2⟩
theorem cSt.keepY {hp hp' : mm_H} {W : Nat → Prop} {r tr : Nat} {s : mStp} (h : cSt hp r tr s) (h20 : ∃ cs, hp[20]? = some (2002, cs)) (E : cE W hp hp') (q : qY hp W) (hr : 113 ≤ r) : cSt hp' r tr s := by
  have nj := h.nJ
  have nW : ∀ (y n : Nat) (c : mm_C), 113 ≤ y → (∀ k, k ≤ n → ¬ isJ hp (y + k)) → ∀ k, k ≤ n → hp[y + k]? = some c → ¬ W (y + k) := fun y n c hy hn k hk hc w => by
    rcases q _ (List.getElem?_eq_some_iff.mp hc).1 w with g | ⟨_, g | g⟩
    · unfold wE at g; omega
    · omega
    · exact hn k hk g
  obtain ⟨cond, srcs, ps, rs, h0, h1, hl, h2, h3, h4, h5, h6, h7, h8, h9, h10, h11⟩ := h
  refine ⟨cond, srcs, ps, rs, E.at h0 (nW r 6 _ hr nj 0 (by omega) h0), E.at h1 (nW r 6 _ hr nj 1 (by omega) h1), hl, h2, E.at h3 (nW r 6 _ hr nj 2 (by omega) h3), E.at h4 (nW r 6 _ hr nj 3 (by omega) h4), E.at h5 (nW r 6 _ hr nj 4 (by omega) h5), E.at h6 (nW r 6 _ hr nj 5 (by omega) h6), E.at h7 (nW r 6 _ hr nj 6 (by omega) h7), fun p hp4 => ?_, fun p hp4 => ?_, ?_, h11⟩
  · rcases h8 p hp4 with g | ⟨t, y, a, b, c, e⟩
    · exact Or.inl g
    · exact Or.inr ⟨t, y, a, b, c, e.keepY h20 E q c⟩
  · rcases h9 p hp4 with g | ⟨D, is, y, a, b, c, e, f⟩
    · exact Or.inl g
    · obtain ⟨junk, e0, e1, _⟩ := id e
      exact Or.inr ⟨D, is, y, a, b, c, cRu.keep e E (nW y 1 _ f e.nJ 0 (by omega) e0) (nW y 1 _ f e.nJ 1 (by omega) e1), f⟩
  · rcases h10 with g | ⟨D, is, y, a, b, c, e, f⟩
    · exact Or.inl g
    · obtain ⟨junk, e0, e1, _⟩ := id e
      exact Or.inr ⟨D, is, y, a, b, c, cRu.keep e E (nW y 1 _ f e.nJ 0 (by omega) e0) (nW y 1 _ f e.nJ 1 (by omega) e1), f⟩
theorem cTo.keepY {hp hp' : mm_H} {W : Nat → Prop} {r : Nat} {to : mTo} (h : cTo hp r to) (E : cE W hp hp') (q : qY hp W) (hr : 113 ≤ r) : cTo hp' r to := by
  have nj := h.nJ
  obtain ⟨j1, j2, j3, j4, a0, a1, a2, a3, a4, a5⟩ := h
  have nW : ∀ k (c : mm_C), k ≤ 4 → hp[r + k]? = some c → ¬ W (r + k) := fun k c hk hc w => by
    rcases q _ (List.getElem?_eq_some_iff.mp hc).1 w with g | ⟨_, g | g⟩
    · unfold wE at g; omega
    · omega
    · exact nj k hk g
  exact ⟨j1, j2, j3, j4, E.at a0 (nW 0 _ (by omega) a0), E.at a1 (nW 1 _ (by omega) a1), E.at a2 (nW 2 _ (by omega) a2), E.at a3 (nW 3 _ (by omega) a3), E.at a4 (nW 4 _ (by omega) a4), a5⟩
/-- inputs, tools, steps -/
def cEn (hp : mm_H) (E : mEv) (tr sr : Nat → Nat) : Prop := (∃ l, hp[3]? = some (2002, l) ∧ l.length = 3 ∧ ∀ c, c < 3 → ∃ q : Nat, l[c]? = some (.ref q) ∧ cS q ∧ cT cS hp (eIn E c) q) ∧ (∃ l, hp[10]? = some (2006, l) ∧ l.length = 4 ∧ (eTl E).length ≤ 4 ∧ ∀ i, i < (eTl E).length → l[i]? = some (.ref (tr i)) ∧ 113 ≤ tr i ∧ cTo hp (tr i) ((eTl E).getD i (0, []))) ∧ ∃ l, hp[11]? = some (2007, l) ∧ l.length = 6 ∧ (eSp E).length ≤ 6 ∧ ∀ i, i < (eSp E).length → l[i]? = some (.ref (sr i)) ∧ 113 ≤ sr i ∧ sTl (eSt E i) < (eTl E).length ∧ cSt hp (sr i) (tr (sTl (eSt E i))) (eSt E i)
theorem cEn.keepY {hp hp' : mm_H} {W : Nat → Prop} {E : mEv} {tr sr : Nat → Nat} (h : cEn hp E tr sr) (h20 : ∃ cs, hp[20]? = some (2002, cs)) (F : cE W hp hp') (q : qY hp W) (h3 : ¬ W 3) (h10 : ¬ W 10) (h11 : ¬ W 11) : cEn hp' E tr sr := by
  obtain ⟨⟨l, a1, a2, a3⟩, ⟨m, b1, b2, b3, b4⟩, ⟨n, c1, c2, c3, c4⟩⟩ := h
  refine ⟨⟨l, F.at a1 h3, a2, fun c hc => ?_⟩, ⟨m, F.at b1 h10, b2, b3, fun i hi => ?_⟩, ⟨n, F.at c1 h11, c2, c3, fun i hi => ?_⟩⟩
  · obtain ⟨y, e1, e2, e3⟩ := a3 c hc
    exact ⟨y, e1, e2, e3.keepY h20 F q e2⟩
  · obtain ⟨e1, e2, e3⟩ := b4 i hi
    exact ⟨e1, e2, e3.keepY F q e2⟩
  · obtain ⟨e1, e2, e3, e4⟩ := c4 i hi
    exact ⟨e1, e2, e3, e4.keepY h20 F q e2⟩
def cN (g : mPg) : Nat := ((List.range (gN g)).filter (fun n => (gRs g n).isNone)).length
def cP1 (hp : mm_H) (s : Nat) (g : mPg) (lv : List Nat) (jc oc nj : Int32) (jl rl : List Value) : Prop := lv = gLv g ∧ jc = nI (gN g) ∧ oc = nI (cN g) ∧ (∃ k : Nat, nj = nI k ∧ k ≤ gN g ∧ ∀ n, n < gN g → gRs g n = none → (gTk g n = true ↔ n < k)) ∧ (∀ n, n < 16 → (gRs g n = none → rl[n]? = some .null) ∧ ∀ t, gRs g n = some t → ∃ q : Nat, rl[n]? = some (.ref q) ∧ cS q ∧ cT cS hp t q) ∧ ∀ n, n < gN g → gRs g n = none → gTk g n = false → ∃ (ws : List (List Nat)) (j : Nat), gCm g n = some ws ∧ jl[n]? = some (.ref j) ∧ cJw hp j s n ws
def cPr (hp : mm_H) (s : Nat) (g : mPg) (jl : List Value) : Prop := ∃ (lv : List Nat) (jc oc nj tk : Int32) (out : Value) (rl : List Value), cPv hp s lv jc oc nj tk (nI (gPh g)) out ∧ cJs hp s jl ∧ cRs hp s rl ∧ (0 < gN g → ∀ v ∈ rl, mw_nr v) ∧ mw_nr out ∧ hp[60 + 5 * s]? = some (2, [.null, .null, .int 3, .int 0, .int 0, .int 1, .int 2]) ∧ (gPh g = 0 → lv = [] ∧ jc = 0 ∧ oc = 0 ∧ nj = 0 ∧ ∀ i, i < 16 → rl[i]? = some .null) ∧ (gPh g = 1 → cP1 hp s g lv jc oc nj jl rl) ∧ (gPh g = 2 → ∃ q : Nat, out = .ref q ∧ cS q ∧ cT cS hp (gOut g) q)
/-- changes that leave progress s alone -/
def qP (hp : mm_H) (s : Nat) (W : Nat → Prop) : Prop := ∀ x, x < hp.length → W x → (x < 56 + 5 * s ∨ 60 + 5 * s < x) ∧ ∀ j n ws, cJw hp j s n ws → 113 ≤ j → ¬ wJ j x
theorem cPr.keepY {hp hp' : mm_H} {W : Nat → Prop} {s : Nat} {g : mPg} {jl : List Value} (h : cPr hp s g jl) (h20 : ∃ cs, hp[20]? = some (2002, cs)) (F : cE W hp hp') (q : qY hp W) (p : qP hp s W) : cPr hp' s g jl := by
  obtain ⟨lv, jc, oc, nj, tk, out, rl, P, J, R, hr, ho, e0, z0, z1, z2⟩ := h
  have kc : ∀ {x : Nat} {c : mm_C}, hp[x]? = some c → 56 + 5 * s ≤ x → x ≤ 60 + 5 * s → hp'[x]? = some c := fun hx h1 h2 => F.at hx (fun w => by have := (p _ (List.getElem?_eq_some_iff.mp hx).1 w).1; omega)
  have kj : ∀ {j n : Nat} {ws : List (List Nat)}, cJw hp j s n ws → 113 ≤ j → cJw hp' j s n ws := fun {j n ws} Jw hj => by
    obtain ⟨lb, jk, ej, a, b, _, c, _⟩ := id Jw
    exact Jw.keep F (fun w => (p _ (List.getElem?_eq_some_iff.mp a).1 w).2 j n ws Jw hj (Or.inl rfl)) (fun w => (p _ (List.getElem?_eq_some_iff.mp b).1 w).2 j n ws Jw hj (Or.inr (Or.inl rfl))) (fun w => (p _ (List.getElem?_eq_some_iff.mp c).1 w).2 j n ws Jw hj (Or.inr (Or.inr rfl)))
  have kt : ∀ {t : mT} {y : Nat}, cT cS hp t y → cS y → cT cS hp' t y := fun T hy => T.keepY h20 F q hy
  obtain ⟨ls, p0, p1, p2, p3⟩ := P
  obtain ⟨J0, J1, J2⟩ := id J
  refine ⟨lv, jc, oc, nj, tk, out, rl, ⟨ls, kc p0 (by omega) (by omega), kc p1 (by omega) (by omega), p2, p3⟩, ⟨kc J0 (by omega) (by omega), J1, fun n hn => ?_⟩, ⟨kc R.1 (by omega) (by omega), R.2⟩, hr, ho, kc e0 (by omega) (by omega), z0, fun g1 => ?_, fun g2 => ?_⟩
  · rcases J2 n hn with e | ⟨j, ws, e, Jw, hj⟩
    · exact Or.inl e
    · exact Or.inr ⟨j, ws, e, kj Jw hj, hj⟩
  · obtain ⟨a, b, c, e, f, f'⟩ := z1 g1
    refine ⟨a, b, c, e, fun n hn => ⟨(f n hn).1, fun t ht => ?_⟩, fun n h1 h2 h3 => ?_⟩
    · obtain ⟨y, y1, y2, y3⟩ := (f n hn).2 t ht
      exact ⟨y, y1, y2, kt y3 y2⟩
    · obtain ⟨ws, j, w1, w2, w3⟩ := f' n h1 h2 h3
      refine ⟨ws, j, w1, w2, kj w3 ?_⟩
      obtain ⟨hn, en⟩ := List.getElem?_eq_some_iff.mp w2
      rcases J2 n hn with e' | ⟨j', ws', e', _, hj'⟩
      · rw [en] at e'; cases e'
      · rw [en] at e'; cases e'; exact hj'
  · obtain ⟨y, y1, y2, y3⟩ := z2 g2
    exact ⟨y, y1, y2, kt y3 y2⟩
def rnL (R : mRn) (sr ir : Value) : List Value := [.ref 13, .ref 52, .ref 53, .int (nI (nAc R).length), .int (nI (nBg R)), sr, ir, .int (nI (nKn R)), .int (nI (nWk R)), .int (if nFl R = true then 1 else 0), .int (nI (nSt R))]
def cRc (hp : mm_H) (R : mRn) : Prop := ∃ sr ir : Value, hp[12]? = some (3, rnL R sr ir) ∧ mw_nr sr ∧ mw_nr ir ∧ (nSt R ≠ 0 → sr = .ref 11 ∧ ir = .ref 3)
def cAct (hp : mm_H) (R : mRn) : Prop := ∃ al : List Value, hp[53]? = some (2009, al) ∧ al.length = 3 ∧ (∀ v ∈ al, mw_nr v) ∧ (nAc R).length ≤ 3 ∧ ∀ k s n : Nat, (nAc R)[k]? = some (s, n) → ∃ (j : Nat) (ws : List (List Nat)), al[k]? = some (.ref j) ∧ gCm (nPg R s) n = some ws ∧ cJw hp j s n ws ∧ 113 ≤ j
def cRn (hp : mm_H) (R : mRn) (JL : Nat → List Value) : Prop := cRc hp R ∧ hp[52]? = some (2005, cPg) ∧ cAct hp R ∧ ∀ s, s < 6 → cPr hp s (nPg R s) (JL s)
theorem cPg_at : ∀ {s : Nat}, s < 6 → cPg[s]? = some (.ref (56 + 5 * s))
  | 0, _ => rfl
  | 1, _ => rfl
  | 2, _ => rfl
  | 3, _ => rfl
  | 4, _ => rfl
  | 5, _ => rfl
