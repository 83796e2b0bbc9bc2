/-! THE CLASS FILLS ITS PORTS -/
def aOrd (ps : List (Int32 × Nat × Nat)) : List Nat := ((List.range 19).map (fun i => (List.range ps.length).filter (fun p => (ps.getD p (0, 0, 0)).1 == nI i - 9))).flatten
def cTo (hp : mm_H) (r : Nat) (to : mTo) : Prop := ∃ j1 j2 j3 j4 : List Value, hp[r]? = some (6, [.int (nI to.1), .ref (r + 1), .ref (r + 2), .ref (r + 3), .ref (r + 4), .int (nI to.2.length)]) ∧ hp[r + 1]? = some (1000, to.2.map (fun x => .int x.1) ++ j1) ∧ hp[r + 2]? = some (1001, to.2.map (fun x => mI x.2.1) ++ j2) ∧ hp[r + 3]? = some (1000, to.2.map (fun x => mI x.2.2) ++ j3) ∧ hp[r + 4]? = some (1000, (aOrd to.2).map mI ++ j4) ∧ to.2.length + j1.length = 4 ∧ j2.length = j1.length ∧ j3.length = j1.length ∧ (aOrd to.2).length + j4.length = 4 ∧ ∀ v ∈ j1 ++ (j2 ++ (j3 ++ j4)), v = .int 0
def tOk (to : mTo) : Prop := to.1 ≤ 3 ∧ ∀ x ∈ to.2, (∃ i : Nat, i ≤ 18 ∧ x.1 = nI i - 9) ∧ (x.2.1 = 0 ∨ 97 ≤ x.2.1 ∧ x.2.1 ≤ 122) ∧ x.2.2 ≤ 4
theorem cTo.keep {hp hp' : mm_H} {W : Nat → Prop} {r : Nat} {to : mTo} (h : cTo hp r to) (E : cE W hp hp') (hW : ∀ x, r ≤ x → x ≤ r + 4 → ¬ W x) : cTo hp' r to := by
  obtain ⟨j1, j2, j3, j4, a, b, c, d, e, f⟩ := h
  exact ⟨j1, j2, j3, j4, E.at a (hW _ (by omega) (by omega)), E.at b (hW _ (by omega) (by omega)), E.at c (hW _ (by omega) (by omega)), E.at d (hW _ (by omega) (by omega)), E.at e (hW _ (by omega) (by omega)), f⟩
theorem cTo.le {hp : mm_H} {r : Nat} {to : mTo} (h : cTo hp r to) : to.2.length ≤ 4 := by
  obtain ⟨j1, j2, j3, j4, a, b, c, d, e, f, _⟩ := h
  omega
def wE (x : Nat) : Prop := 21 ≤ x ∧ x ≤ 51
theorem cSc.keep {hp hp' : mm_H} {W : Nat → Prop} {sc : mSc} {r : Nat} (h : cSc hp sc r) (E : cE W hp hp') (h0 : ¬ W r) (h1 : ¬ W (r + 1)) : cSc hp' sc r := by
  obtain ⟨n, j, a, b, c⟩ := h
  exact ⟨n, j, E.at a h0, E.at b h1, c⟩
theorem cEx.keepL {hp hp' : mm_H} {r p : Nat} (h : cEx hp) (E : cE (fun x => x = r ∨ x = r + 1) hp hp') (hp4 : p < 4) (hr : r = 28 + 6 * p ∨ r = 30 + 6 * p) (L : cLr hp' r) : cEx hp' := by
  obtain ⟨a1, a2, a3, a4, a5, a6, a7, a8, a9, ⟨q1, b1⟩, ⟨q2, b2⟩, ⟨q3, b3⟩⟩ := h
  refine ⟨E.at a1 (by omega), E.at a2 (by omega), E.at a3 (by omega), E.at a4 (by omega), a5.keep E (by omega) (by omega), a6.keep E (by omega) (by omega), a7.keep E (by omega) (by omega), a8.keep E (by omega) (by omega), fun i hi => ?_, ⟨q1, E.at b1 (by omega)⟩, ⟨q2, E.at b2 (by omega)⟩, ⟨q3, E.at b3 (by omega)⟩⟩
  obtain ⟨c1, c2, c3⟩ := a9 i hi
  refine ⟨c1.keep E (by omega) (by omega), ?_, ?_⟩
  · by_cases e : r = 28 + 6 * i
    · rw [← e]; exact L
    · exact c2.keep E (by omega) (by omega)
  · by_cases e : r = 30 + 6 * i
    · rw [← e]; exact L
    · exact c3.keep E (by omega) (by omega)
theorem cEx.set {hp : mm_H} {a : Nat} {q : Nat → Nat} (h : cEx hp) (ha : a = 25 ∨ a = 26 ∨ a = 27) : cEx (hp.set a (2002, row4 (fun i => .ref (q i)))) := by
  obtain ⟨a1, a2, a3, a4, a5, a6, a7, a8, a9, ⟨q1, b1⟩, ⟨q2, b2⟩, ⟨q3, b3⟩⟩ := h
  have E : cE (fun x => x = a) hp (hp.set a (2002, row4 (fun i => .ref (q i)))) := cE.set rfl
  have l1 := (List.getElem?_eq_some_iff.mp b1).1
  have l2 := (List.getElem?_eq_some_iff.mp b2).1
  have l3 := (List.getElem?_eq_some_iff.mp b3).1
  refine ⟨E.at a1 (by omega), E.at a2 (by omega), E.at a3 (by omega), E.at a4 (by omega), a5.keep E (by omega) (by omega), a6.keep E (by omega) (by omega), a7.keep E (by omega) (by omega), a8.keep E (by omega) (by omega), fun i hi => ?_, ?_, ?_, ?_⟩
  · obtain ⟨c1, c2, c3⟩ := a9 i hi
    exact ⟨c1.keep E (by omega) (by omega), c2.keep E (by omega) (by omega), c3.keep E (by omega) (by omega)⟩
  · by_cases e : a = 25
    · subst e; exact ⟨q, List.getElem?_set_self l1⟩
    · exact ⟨q1, E.at b1 (by omega)⟩
  · by_cases e : a = 26
    · subst e; exact ⟨q, List.getElem?_set_self l2⟩
    · exact ⟨q2, E.at b2 (by omega)⟩
  · by_cases e : a = 27
    · subst e; exact ⟨q, List.getElem?_set_self l3⟩
    · exact ⟨q3, E.at b3 (by omega)⟩
/-- a value of port i's own -/
def zo (i q : Nat) : Prop := cS q ∨ q = 28 + 6 * i ∨ q = 30 + 6 * i
theorem zo_zW {i q : Nat} (h : zo i q) (hi : i < 4) : zW q := by
  rcases h with h | h | h
  · exact cS_zW h
  · unfold zW; omega
  · unfold zW; omega
section CFI
variable {X : List Int32} {d : Nat} {hp : mm_H} {Q : Option Value → mm_H → Prop}
/-- storing a value into one of the rows of ports -/
theorem m_sv4 {a i v : Nat} {q : Nat → Nat} {vs : List Value} {K : mm_H → Prop} (h : hp[a]? = some (2002, row4 (fun i => .ref (q i)))) (hi : i < 4) (hv : hp[v]? = some (2, vs)) (H : ∀ hp', hp' = hp.set a (2002, row4 (fun j => .ref (if j = i then v else q j))) → cE (fun x => x = a) hp hp' → cG 0 hp hp' → K hp') : mw_sv (.ref a) (nI i) (.ref v) hp K := by
  refine ⟨a, 2002, _, rfl, h, by decide, rfl, nI_pos' (by omega), by rw [nI_clamp (by omega)]; exact hi, Or.inr ⟨v, 2, vs, rfl, hv, by decide, rfl⟩, ?_⟩
  rw [nI_clamp (by omega)]
  have e : (row4 (fun i => Value.ref (q i))).set i (.ref v) = row4 (fun j => .ref (if j = i then v else q j)) := by
    rw [row4_set hi]
    congr 1
    funext j
    split <;> rfl
  rw [e]
  refine H _ rfl (cE.set rfl) ⟨by simp, ?_⟩
  rw [mm_sz_set h (by rfl)]; omega
/-- what fillPorts needs of the heap -/
def cFp (hp : mm_H) (r tr : Nat) (s : mStp) (to : mTo) (sv : Nat → mT) : Prop := cEx hp ∧ cSt hp r tr s ∧ cTo hp tr to ∧ (∀ p, p < to.2.length → ∀ c ∈ sSr s p, cSv hp c (sv c)) ∧ hp[52]? = some (2005, cPg) ∧ ∃ l, hp[3]? = some (2002, l) ∧ l.length = 3
theorem cFp.keep {hp hp' : mm_H} {W : Nat → Prop} {r tr : Nat} {s : mStp} {to : mTo} {sv : Nat → mT} (h : cFp hp r tr s to sv) (E : cE W hp hp') (hW : ∀ x, W x → wE x) (hr : 52 ≤ r) (htr : 52 ≤ tr) (hx : cEx hp') : cFp hp' r tr s to sv := by
  obtain ⟨a, b, c, d, e, l, f, g⟩ := h
  have hWn : ∀ x, 52 ≤ x → ¬ W x := fun x h1 h2 => by have := hW x h2; unfold wE at this; omega
  have h20 : ∃ l, hp[20]? = some (2002, l) := ⟨_, a.2.2.2.1⟩
  have Y := E.xs (fun x h => hW x h) h20
  have h3 : ¬ W 3 := fun g => by have := hW 3 g; unfold wE at this; omega
  exact ⟨hx, b.keep E hWn Y hr, c.keep E (fun x h1 _ => hWn x (by omega)), fun p hp' q hq => (d p hp' q hq).keep E hWn h3 Y, E.at e (hWn 52 (by omega)), l, E.at f h3, g⟩
theorem k62_3 {r tr : Nat} {s : mStp} {to : mTo} {sv wh : Nat → mT} (hs : sOk s) (hr : 52 ≤ r) (htr : 52 ≤ tr) (hsv : ∀ p, p < to.2.length → ∀ c ∈ sSr s p, mt_gd (sv c)) (hwh : ∀ i, i < 4 → wh i = if i < to.2.length then (aPort (sMg s i) (sPk s i) (sPr s i) ((sSr s i).map sv)).getD (.leaf none) else .leaf none) : ∀ (m p : Nat) (hp : mm_H) (q : Nat → Nat) (o5 o6 : Option Value), p + m = 4 → cFp hp r tr s to sv → hp[25]? = some (2002, row4 (fun i => .ref (q i))) → (∀ i, i < p → zo i (q i) ∧ cT cS hp (wh i) (q i)) →
    ((∀ i, p ≤ i → i < to.2.length → aPort (sMg s i) (sPk s i) (sPr s i) ((sSr s i).map sv) ≠ none) → ∀ hp', cE wE hp hp' → cG 0 hp hp' → cFp hp' r tr s to sv → cPt cS zW hp' 25 wh → Q (some (.int 1)) hp') →
    (¬ (∀ i, p ≤ i → i < to.2.length → aPort (sMg s i) (sPk s i) (sPr s i) ((sSr s i).map sv) ≠ none) → ∀ hp', cE wE hp hp' → cG 0 hp hp' → cFp hp' r tr s to sv → Q (some (.int 0)) hp') →
    mm_R X (d + 5) 62 3 [some (.ref 13), some (.ref r), some (.ref 52), some (.ref 3), some (.int (nI p)), o5, o6] [] hp Q := by
  intro m
  induction m with
  | zero =>
    intro p hp q o5 o6 hp4 F h25 hq H1 H0
    have : p = 4 := by omega
    subst this
    refine w62_3 (pk_le 4 4 (fun _ => H1 (fun i a b => absurd b (by have := F.2.2.1.le; omega)) hp cE.rf cG.rf F ⟨q, h25, fun i hi => ⟨zo_zW (hq i hi).1 hi, (hq i hi).2⟩⟩) (fun g => absurd g (by omega)))
  | succ m ih =>
    intro p hp q o5 o6 hp4 F h25 hq H1 H0
    obtain ⟨EX, ST, TO, SV, h52, h3⟩ := id F
    have n4 := TO.le
    obtain ⟨a1, a2, a3, a4, a5, a6, a7, a8, a9, _⟩ := id EX
    obtain ⟨cond, srcs, ps, rs, s0, s1, sl, s2, s3, s4, s5, s6, s7, s8, s9, s10, s11⟩ := id ST
    obtain ⟨j1, j2, j3, j4, t0, t1, t2, t3, t4, t5⟩ := id TO
    obtain ⟨n14, k14, v14, _⟩ := id a5
    refine w62_3 (pk_le 4 p (fun g => absurd g (by omega)) (fun _ => ⟨13, _, _, rfl, a1, rfl, 13, _, _, rfl, a1, rfl, m_sv4 h25 (by omega) v14 (fun hp1 e1 E1 G1 => ⟨rfl, ?_⟩)⟩))
    have E1' : cE wE hp hp1 := E1.mono (fun x _ h => by unfold wE; omega)
    have h25' : hp1[25]? = some (2002, row4 (fun j => .ref (if j = p then 14 else q j))) := by rw [e1, List.getElem?_set_self (List.getElem?_eq_some_iff.mp h25).1]
    have EX1 : cEx hp1 := by rw [e1]; exact EX.set (Or.inl rfl)
    have F1 := F.keep E1 (fun x h => by unfold wE; omega) hr htr EX1
    have Y1 := E1.xs (fun x h => by omega) ⟨_, a4⟩
    have T14 : cT cS hp1 (.leaf none) 14 := F1.1.2.2.2.2.1
    have old1 : ∀ i, i < p → zo i (q i) ∧ cT cS hp1 (wh i) (q i) := fun i hi => by
      obtain ⟨z, T⟩ := hq i hi
      refine ⟨z, ?_⟩
      obtain ⟨vs, hx⟩ := T.tag
      refine T.keep2 Y1 (E1.2 _ (List.getElem?_eq_some_iff.mp hx).1 ?_) ?_
      · rcases z with z | z | z
        · unfold cS at z; omega
        · omega
        · omega
      · intro vs' u cs hx' hc hu hv
        refine E1.2 _ (List.getElem?_eq_some_iff.mp hc).1 ?_
        rcases z with z | z | z
        · unfold cS at z; omega
        · omega
        · omega
    refine ⟨r, _, _, rfl, E1.at s0 (by omega), rfl, tr, _, _, rfl, E1.at t0 (by omega), rfl, pk_le to.2.length p (fun hge => ?_) (fun hlt => ⟨rfl, rfl, ⟨13, _, rfl, EX1.1⟩, ?_⟩)⟩
    · -- no such port
      rw [nI_1]
      refine ih (p + 1) hp1 (fun j => if j = p then 14 else q j) _ _ (by omega) F1 h25' (fun i hi => ?_) ?_ ?_
      · by_cases e : i = p
        · subst e
          have ew := hwh i (by omega)
          rw [if_neg (by omega)] at ew
          simp only [if_true]
          rw [ew]
          exact ⟨Or.inl (by unfold cS; omega), T14⟩
        · simp only [e, if_false]
          exact old1 i (by omega)
      · intro a hp2 E2 G2 F2 P2
        exact H1 (fun i b c => absurd c (by omega)) hp2 (E1'.tr E2) (G1.tr G2) F2 P2
      · intro a hp2 E2 G2 F2
        exact absurd (fun i b c => absurd c (by omega)) a
    · -- merge, then pick
      have hp4' : p < 4 := by omega
      obtain ⟨l3, h3l, h3n⟩ := F1.2.2.2.2.2
      have hmg := hs.2.1 p
      have bad : ∀ hp2, cE (fun x => x = 28 + 6 * p ∨ x = 28 + 6 * p + 1 ∨ x = 30 + 6 * p ∨ x = 30 + 6 * p + 1) hp1 hp2 → cG 0 hp1 hp2 → cEx hp2 → aPort (sMg s p) (sPk s p) (sPr s p) ((sSr s p).map sv) = none → Q (some (.int 0)) hp2 := by
        intro hp2 E2 G2 X2 hn
        refine H0 (fun g => g p (Nat.le_refl _) hlt hn) hp2 (E1'.tr (E2.mono (fun x _ h => by unfold wE; omega))) (G1.tr G2) ?_
        exact F1.keep E2 (fun x h => by unfold wE; omega) hr htr X2
      refine k63 (d := d) (sv := sv) hs hp4' (hsv p hlt) hr F1.2.1 (F1.2.2.2.1 p hlt) F1.2.2.2.2.1 ⟨l3, h3l, h3n⟩ ⟨_, EX1.2.2.2.1⟩ EX1.1 EX1.2.1 EX1.2.2.2.2.1 (EX1.2.2.2.2.2.2.2.2.1 p hp4').2.1 ?_ ?_
      · intro hok hp2 q2 E2 G2 L2 T2 z2
        have EX2 : cEx hp2 := EX1.keepL E2 hp4' (Or.inl rfl) L2
        have F2 := F1.keep E2 (fun x h => by unfold wE; omega) hr htr EX2
        have gM := aMg_gd (mg := sMg s p) (xs := (sSr s p).map sv) (fun x hx => by obtain ⟨c, hc, rfl⟩ := List.mem_map.mp hx; exact hsv p hlt c hc) hok
        obtain ⟨cond', srcs', ps', rs', u0, u1, ul, u2, u3, u4, u5, u6, u7, u8, u9, u10, u11⟩ := id F2.2.1
        have e30 : ([.ref 30, .ref 36, .ref 42, .ref 48] : List Value)[p]? = some (.ref (30 + 6 * p)) := by
          have : p = 0 ∨ p = 1 ∨ p = 2 ∨ p = 3 := by omega
          rcases this with rfl | rfl | rfl | rfl <;> rfl
        refine ⟨_, rfl, rfl, Or.inr ⟨⟨_, rfl⟩, r, _, _, rfl, u0, rfl, r + 4, _, _, rfl, u5, nI_pos' (by omega), by rw [nI_clamp (by omega)]; exact row4_get hp4', 13, _, _, rfl, EX2.1, rfl, 19, _, _, _, rfl, EX2.2.2.1, by decide, rfl, nI_pos' (by omega), by rw [nI_clamp (by omega)]; exact e30, rfl, ?_⟩⟩
        have hq2 : q2 ≠ 30 + 6 * p := by
          rcases z2 with z | z
          · unfold cS at z; omega
          · omega
        refine k68 gM hq2 (by unfold cS; omega) hmg.2 T2 (EX2.2.2.2.2.2.2.2.2.1 p hp4').2.2 ?_ ?_
        · intro u hu hp3 q3 E3 G3 L3 T3 z3
          have EX3 : cEx hp3 := EX2.keepL E3 hp4' (Or.inr rfl) L3
          have F3 := F2.keep E3 (fun x h => by unfold wE; omega) hr htr EX3
          obtain ⟨cond3, srcs3, ps3, rs3, w0, w1, wl, w2, w3, w4, w5, w6, w7, w8, w9, w10, w11⟩ := id F3.2.1
          obtain ⟨v3, hx3⟩ := T3.tag
          have E13 : cE (fun x => x = 28 + 6 * p ∨ x = 28 + 6 * p + 1 ∨ x = 30 + 6 * p ∨ x = 30 + 6 * p + 1) hp1 hp3 := (E2.mono (fun x _ h => by omega)).tr (E3.mono (fun x _ h => by omega))
          have eP : aPort (sMg s p) (sPk s p) (sPr s p) ((sSr s p).map sv) = some (aPre (sPr s p) u) := by unfold aPort; rw [if_pos hok, hu]; rfl
          have hwp : wh p = aPre (sPr s p) u := by rw [hwh p hp4', if_pos hlt, eP]; rfl
          have zq3 : zo p q3 := by
            rcases z3 with z | z | z
            · exact Or.inl z
            · exact Or.inr (Or.inr z)
            · rcases z2 with y | y
              · rw [z]; exact Or.inl y
              · rw [z]; exact Or.inr (Or.inl y)
          have h25'' : hp3[25]? = some (2002, row4 (fun j => .ref (if j = p then 14 else q j))) := E13.at h25' (by omega)
          -- whatever is stored
          have store : ∀ (v : Nat) (vs : List Value) (o5 o6 : Option Value), hp3[v]? = some (2, vs) → zo p v → cT cS hp3 (wh p) v → mw_sv (.ref 25) (nI p) (.ref v) hp3 (fun hp11 => mm_R X (d + 4 + 1) 62 3 [some (.ref 13), some (.ref r), some (.ref 52), some (.ref 3), some (.int (nI p + (1 : Int32))), o5, o6] [] hp11 Q) := by
            intro v vs o5 o6 hv zv Tv
            refine m_sv4 h25'' hp4' hv (fun hp4x e4 E4 G4 => ?_)
            have EX4 : cEx hp4x := by rw [e4]; exact EX3.set (Or.inl rfl)
            have F4 := F3.keep E4 (fun x h => by unfold wE; omega) hr htr EX4
            have Y4 := E4.xs (fun x h => by omega) ⟨_, EX3.2.2.2.1⟩
            have E34 : cE (fun x => x = 28 + 6 * p ∨ x = 28 + 6 * p + 1 ∨ x = 30 + 6 * p ∨ x = 30 + 6 * p + 1 ∨ x = 25) hp1 hp4x := (E13.mono (fun x _ h => by omega)).tr (E4.mono (fun x _ h => by omega))
            have Y34 := E34.xs (fun x h => by omega) ⟨_, EX1.2.2.2.1⟩
            rw [nI_1]
            refine ih (p + 1) hp4x (fun j => if j = p then v else q j) _ _ (by omega) F4 ?_ (fun i hi => ?_) ?_ ?_
            · rw [e4, List.getElem?_set_self (List.getElem?_eq_some_iff.mp h25'').1]
              congr 3
              funext j
              by_cases e : j = p
              · simp [e]
              · simp [e]
            · by_cases e : i = p
              · subst e
                simp only [if_true]
                refine ⟨zv, ?_⟩
                refine Tv.keep2 Y4 (E4.2 _ (List.getElem?_eq_some_iff.mp hv).1 ?_) ?_
                · rcases zv with z | z | z
                  · unfold cS at z; omega
                  · omega
                  · omega
                · intro vs' u' cs hx' hc hu' hv'
                  refine E4.2 _ (List.getElem?_eq_some_iff.mp hc).1 ?_
                  rcases zv with z | z | z
                  · unfold cS at z; omega
                  · omega
                  · omega
              · simp only [e, if_false]
                obtain ⟨zi, Ti⟩ := old1 i (by omega)
                refine ⟨zi, ?_⟩
                obtain ⟨vs', hx'⟩ := Ti.tag
                refine Ti.keep2 Y34 (E34.2 _ (List.getElem?_eq_some_iff.mp hx').1 ?_) ?_
                · rcases zi with z | z | z
                  · unfold cS at z; omega
                  · omega
                  · omega
                · intro vs'' u' cs hx'' hc hu' hv'
                  refine E34.2 _ (List.getElem?_eq_some_iff.mp hc).1 ?_
                  rcases zi with z | z | z
                  · have hne20 : q i ≠ 20 := fun e20 => by rw [e20, EX1.2.2.2.1] at hx'; cases hx'
                    have hne24 : q i + 1 ≠ 25 := fun e => by unfold cS at z; omega
                    unfold cS at z; omega
                  · omega
                  · omega
            · intro a hp5 E5 G5 F5 P5
              refine H1 (fun i b c => ?_) hp5 ((E1'.tr (E34.mono (fun x _ h => by unfold wE; omega))).tr E5) ((((G1.tr G2).tr G3).tr G4).tr G5) F5 P5
              by_cases e : i = p
              · subst e; rw [eP]; simp
              · exact a i (by omega) c
            · intro a hp5 E5 G5 F5
              refine H0 (fun g => a (fun i b c => g i (by omega) c)) hp5 ((E1'.tr (E34.mono (fun x _ h => by unfold wE; omega))).tr E5) ((((G1.tr G2).tr G3).tr G4).tr G5) F5
          refine ⟨_, rfl, w62_71 ⟨rfl, Or.inr ⟨⟨_, rfl⟩, rfl, r, _, _, rfl, w0, rfl, r + 5, _, _, _, rfl, w6, by decide, rfl, nI_pos' (by omega), by rw [nI_clamp (by omega)]; exact row4_get hp4', ?_, 13, _, _, rfl, EX3.1, rfl, ⟨q3, _, rfl, hx3⟩, rfl, k69 T3 ⟨_, rfl, ?_⟩⟩⟩⟩
          · rcases w8 p hp4' with ⟨_, e⟩ | ⟨t', q', _, e, _⟩
            · rw [e]; rfl
            · rw [e]; rfl
          · by_cases hk : mt_k u = 0
            · rw [if_pos hk]
              refine ⟨fun g => absurd g (by decide), fun _ => ?_⟩
              rcases w8 p hp4' with ⟨en, e⟩ | ⟨t', q', en, e, sq', T'⟩
              · rw [e]
                refine Or.inl ⟨rfl, store q3 v3 _ _ hx3 zq3 ?_⟩
                rw [hwp, en]
                unfold aPre; rw [if_pos hk]; exact T3
              · rw [e]
                obtain ⟨v', hx'⟩ := T'.tag
                refine Or.inr ⟨⟨_, rfl⟩, store q' v' _ _ hx' (Or.inl sq') ?_⟩
                rw [hwp, en]
                unfold aPre; rw [if_pos hk]; exact T'
            · rw [if_neg hk]
              refine ⟨fun _ => store q3 v3 _ _ hx3 zq3 ?_, fun g => absurd rfl g⟩
              rw [hwp]
              unfold aPre; rw [if_neg hk]; exact T3
        · intro hn hp3 E3 G3 L3
          refine ⟨_, rfl, w62_71 ⟨rfl, Or.inl ⟨rfl, bad hp3 ((E2.mono (fun x _ h => by omega)).tr (E3.mono (fun x _ h => by omega))) (G2.tr G3) (EX2.keepL E3 hp4' (Or.inr rfl) L3) ?_⟩⟩⟩
          unfold aPort; rw [if_pos hok, hn]; rfl
      · intro hok hp2 E2 G2 L2
        refine ⟨_, rfl, rfl, Or.inl ⟨rfl, w62_71 ⟨rfl, Or.inl ⟨rfl, bad hp2 (E2.mono (fun x _ h => by omega)) G2 (EX1.keepL E2 hp4' (Or.inl rfl) L2) ?_⟩⟩⟩⟩
        unfold aPort; rw [if_neg hok]
/-- fillPorts -/
theorem k62 {r tr : Nat} {s : mStp} {to : mTo} {sv wh : Nat → mT} (hs : sOk s) (hr : 52 ≤ r) (htr : 52 ≤ tr) (hsv : ∀ p, p < to.2.length → ∀ c ∈ sSr s p, mt_gd (sv c)) (hwh : ∀ i, i < 4 → wh i = if i < to.2.length then (aPort (sMg s i) (sPk s i) (sPr s i) ((sSr s i).map sv)).getD (.leaf none) else .leaf none) (F : cFp hp r tr s to sv)
    (H1 : (∀ i, i < to.2.length → aPort (sMg s i) (sPk s i) (sPr s i) ((sSr s i).map sv) ≠ none) → ∀ hp', cE wE hp hp' → cG 0 hp hp' → cFp hp' r tr s to sv → cPt cS zW hp' 25 wh → Q (some (.int 1)) hp')
    (H0 : ¬ (∀ i, i < to.2.length → aPort (sMg s i) (sPk s i) (sPr s i) ((sSr s i).map sv) ≠ none) → ∀ hp', cE wE hp hp' → cG 0 hp hp' → cFp hp' r tr s to sv → Q (some (.int 0)) hp') : mm_R X (d + 5) 62 0 (mm_L0 62 [.ref 13, .ref r, .ref 52, .ref 3]) [] hp Q := by
  obtain ⟨q, h25⟩ := F.1.2.2.2.2.2.2.2.2.2.1
  refine w62_0 (k62_3 hs hr htr hsv hwh 4 0 hp q _ _ (by omega) F h25 (fun i hi => absurd hi (by omega)) ?_ ?_)
  · intro a; exact H1 (fun i c => a i (by omega) c)
  · intro a; exact H0 (fun g => a (fun i _ c => g i c))
end CFI
