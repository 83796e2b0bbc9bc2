/-! THE CLASS STARTS JOBS -/
theorem up_self {α : Type} (f : Nat → α) (s : Nat) : up f s (f s) = f := by
  funext k
  by_cases e : k = s
  · subst e; rw [up_eq]
  · rw [up_ne e]
theorem aTake_no {R : mRn} {s n : Nat} (h : aRd R s n = false) : aTake R s n = R := if_neg (fun g => by rw [h] at g; cases g.1)
theorem aTake_full {R : mRn} {s n : Nat} (h : nWk R ≤ (nAc R).length) : aTake R s n = R := if_neg (fun g => by have := g.2; omega)
theorem aStj_full {R : mRn} (h : nWk R ≤ (nAc R).length) : ∀ (m j : Nat), aStj m j R = R
  | 0, _ => rfl
  | m + 1, j => by
    show aStj m (j + 1) (aTake R (j / 16) (j % 16)) = R
    rw [aTake_full h]
    exact aStj_full h m (j + 1)
theorem aStj_skip {R : mRn} : ∀ (k m j : Nat), (∀ i, j ≤ i → i < j + k → aRd R (i / 16) (i % 16) = false) → aStj (k + m) j R = aStj m (j + k) R
  | 0, m, j, _ => by rw [Nat.zero_add]; rfl
  | k + 1, m, j, h => by
    rw [show k + 1 + m = (k + m) + 1 by omega]
    show aStj (k + m) (j + 1) (aTake R (j / 16) (j % 16)) = _
    rw [aTake_no (h j (by omega) (by omega)), aStj_skip k m (j + 1) (fun i h1 h2 => h i (by omega) (by omega)), show j + 1 + k = j + (k + 1) by omega]
theorem dm16 {s n : Nat} (h : n < 16) : (16 * s + n) / 16 = s ∧ (16 * s + n) % 16 = n := by omega
/-- jobs of step s before n are not ready -/
theorem aStj_sk {R : mRn} {s a : Nat} (hs : s < 6) (ha : a ≤ 16) (h : ∀ n, n < a → aRd R s n = false) : aStj (96 - 16 * s) (16 * s) R = aStj (96 - (16 * s + a)) (16 * s + a) R := by
  rw [show 96 - 16 * s = a + (96 - (16 * s + a)) by omega]
  refine aStj_skip a _ _ (fun i h1 h2 => ?_)
  obtain ⟨n, rfl⟩ : ∃ n, i = 16 * s + n := ⟨i - 16 * s, by omega⟩
  obtain ⟨e1, e2⟩ := dm16 (s := s) (n := n) (by omega)
  rw [e1, e2]
  exact h n (by omega)
theorem aStj_end {R : mRn} {s : Nat} (hs : s ≤ 6) (h : ∀ k, s ≤ k → gPh (nPg R k) = 0) : aStj (96 - 16 * s) (16 * s) R = R := by
  have := aStj_skip (R := R) (96 - 16 * s) 0 (16 * s) (fun i h1 h2 => by
    unfold aRd
    rw [h (i / 16) (by omega)]; rfl)
  exact this
theorem rOk_take {E : mEv} {R : mRn} {s n : Nat} (hR : rOk E R) (hr : aRd R s n = true) (hw : (nAc R).length < nWk R) : rOk E (aTake R s n) := by
  obtain ⟨r1, r2, r3, r4, r5, r6, r7, r8⟩ := hR
  have eT : aTake R s n = (nSt R, nWk R, nKn R, nBg R + 1, nAc R ++ [(s, n)], nFl R, up (nPg R) s (gTak (nPg R s) n)) := if_pos ⟨hr, hw⟩
  unfold aRd at hr
  rw [Bool.and_eq_true, Bool.and_eq_true, Bool.and_eq_true, beq_iff_eq, Nat.blt_eq, Option.isNone_iff_eq_none] at hr
  obtain ⟨a1, a2, a3, a4⟩ := hr
  have a4' : gTk (nPg R s) n = false := by simpa using a4
  have hs : s < nKn R := by
    rcases Nat.lt_or_ge s (nKn R) with g | g
    · exact g
    · have := r8 s g; omega
  obtain ⟨g1, g2, g3, g4, g5, g6⟩ := (r2 s).2.1 a1
  have pk : ∀ k, gPh (up (nPg R) s (gTak (nPg R s) n) k) = gPh (nPg R k) ∧ gN (up (nPg R) s (gTak (nPg R s) n) k) = gN (nPg R k) ∧ gRs (up (nPg R) s (gTak (nPg R s) n) k) = gRs (nPg R k) ∧ gCm (up (nPg R) s (gTak (nPg R s) n) k) = gCm (nPg R k) ∧ (∀ i, gTk (nPg R k) i = true → gTk (up (nPg R) s (gTak (nPg R s) n) k) i = true) := fun k => by
    by_cases e : k = s
    · subst e
      rw [up_eq]
      refine ⟨rfl, rfl, rfl, rfl, fun i hi => ?_⟩
      show up (gTk (nPg R k)) n true i = true
      by_cases ei : i = n
      · subst ei; exact up_eq _ _ _
      · rw [up_ne ei]; exact hi
    · rw [up_ne e]; exact ⟨rfl, rfl, rfl, rfl, fun i hi => hi⟩
  rw [eT]
  refine ⟨r1, fun k => ?_, r3, fun k i hk => ?_, ?_, ?_, r7, fun k hk => ?_⟩
  · show gOk (up (nPg R) s (gTak (nPg R s) n) k)
    by_cases e : k = s
    · subst e; rw [up_eq]; exact r2 k
    · rw [up_ne e]; exact r2 k
  · obtain ⟨p1, p2, p3, p4, p5⟩ := pk k
    show k < nKn R ∧ i < 16 ∧ (gPh (up (nPg R) s (gTak (nPg R s) n) k) = 1 ∨ gPh (up (nPg R) s (gTak (nPg R s) n) k) = 3) ∧ (∃ ws, gCm (up (nPg R) s (gTak (nPg R s) n) k) i = some ws ∧ aWok ws) ∧ i < gN (up (nPg R) s (gTak (nPg R s) n) k) ∧ (gPh (up (nPg R) s (gTak (nPg R s) n) k) = 1 → gRs (up (nPg R) s (gTak (nPg R s) n) k) i = none ∧ gTk (up (nPg R) s (gTak (nPg R s) n) k) i = true)
    rw [p1, p2, p3, p4]
    have hk' : (k, i) ∈ nAc R ++ [(s, n)] := hk
    rcases List.mem_append.mp hk' with g | g
    · obtain ⟨b1, b2, b3, b4, b5, b6⟩ := r4 k i g
      exact ⟨b1, b2, b3, b4, b5, fun h => ⟨(b6 h).1, p5 _ (b6 h).2⟩⟩
    · have := List.mem_singleton.mp g
      cases this
      refine ⟨hs, by omega, Or.inl a1, g6 n a2 a3, a2, fun _ => ⟨a3, ?_⟩⟩
      rw [up_eq]
      exact up_eq _ _ _
  · show (nAc R ++ [(s, n)]).Nodup
    rw [List.nodup_append]
    refine ⟨r5, by simp, fun x hx y hy e => ?_⟩
    rw [List.mem_singleton.mp hy] at e
    subst e
    have := ((r4 s n hx).2.2.2.2.2 a1).2
    rw [a4'] at this; cases this
  · show (nAc R ++ [(s, n)]).length ≤ nWk R
    rw [List.length_append]; show _ + 1 ≤ _; omega
  · show gPh (up (nPg R) s (gTak (nPg R s) n) k) = 0
    rw [(pk k).1]; exact r8 k hk
/-- a change in a progress' own cells -/
theorem cA.pv {hp hp' : mm_H} {E : mEv} {tr sr : Nat → Nat} {R R' : mRn} {JL : Nat → List Value} {s : Nat} (hs : s < 6) (h : cA hp E tr sr R JL) (F : cE (wR s) hp hp') (P : cPr hp' s (nPg R' s) (JL s)) (hR : nSt R' = nSt R ∧ nWk R' = nWk R ∧ nKn R' = nKn R ∧ nBg R' = nBg R ∧ nAc R' = nAc R ∧ nFl R' = nFl R) (hP : ∀ k, k ≠ s → nPg R' k = nPg R k) (hc : ∀ n, (s, n) ∈ nAc R → gCm (nPg R' s) n = gCm (nPg R s) n) : cA hp' E tr sr R' JL := by
  obtain ⟨h1, h2, ⟨h3, h4, h5, h6⟩, h7⟩ := h
  have h20 : ∃ cs, hp[20]? = some (2002, cs) := ⟨_, h1.2.2.2.1⟩
  obtain ⟨lv, jc, oc, nj, tk, out, rl, ⟨ls, p0, p1, _⟩, ⟨j0, _⟩, ⟨r0, _⟩, _⟩ := h6 s hs
  have q : qY hp (wR s) := fun x hx w => by
    rcases w with rfl | rfl
    · exact Or.inr ⟨nV.of p0 (by decide) (by decide) (by decide), Or.inl (by omega)⟩
    · refine Or.inr ⟨?_, Or.inl (by omega)⟩
      rw [show 58 + 5 * s = 57 + 5 * s + 1 by omega] at r0 ⊢
      exact nV.of2 r0 (by decide) j0 (by decide)
  have qp : ∀ k, k ≠ s → qP hp k (wR s) := fun k hk x hx w => ⟨by unfold wR at w; omega, fun j n ws _ hj w' => by unfold wR at w; unfold wJ at w'; omega⟩
  have nw : ∀ x, x < 56 → ¬ wR s x := fun x hx w => by unfold wR at w; omega
  refine ⟨h1.keepJ F (fun x hx => nw x (by omega)), h2.keepY h20 F q (nw 3 (by omega)) (nw 10 (by omega)) (nw 11 (by omega)), ⟨?_, F.at h4 (nw 52 (by omega)), ?_, fun k hk => ?_⟩, by have := F.1; omega⟩
  · obtain ⟨sr', ir, a, b⟩ := h3
    obtain ⟨e1, e2, e3, e4, e5, e6⟩ := hR
    refine ⟨sr', ir, F.at ?_ (nw 12 (by omega)), ?_⟩
    · unfold rnL at a ⊢; rw [e1, e2, e3, e4, e5, e6]; exact a
    · rw [e1]; exact b
  · refine h5.keep F (nw 53 (by omega)) (fun k n hk j ws Jw hj x hx w w' => by unfold wR at w; unfold wJ at w'; omega) hR.2.2.2.2.1 (fun k n hk => ?_)
    by_cases e : k = s
    · subst e; exact hc n hk
    · rw [hP k e]
  · by_cases e : k = s
    · subst e; exact P
    · rw [hP k e]
      exact (h6 k hk).keepY h20 F q (qp k e)
/-- a change in the run's own cells -/
theorem cA.keepS {hp hp' : mm_H} {E : mEv} {tr sr : Nat → Nat} {R R' : mRn} {JL : Nat → List Value} (h : cA hp E tr sr R JL) (F : cE (fun x => x = 12 ∨ x = 53) hp hp') (h12 : cRc hp' R') (hA : cAct hp' R') (eP : nPg R' = nPg R) : cA hp' E tr sr R' JL := by
  obtain ⟨h1, h2, ⟨h3, h4, h5, h6⟩, h7⟩ := h
  have h20 : ∃ cs, hp[20]? = some (2002, cs) := ⟨_, h1.2.2.2.1⟩
  obtain ⟨s1, i1, r12, _⟩ := h3
  obtain ⟨al, r53, _⟩ := h5
  have q : qY hp (fun x => x = 12 ∨ x = 53) := fun x hx w => by
    rcases w with rfl | rfl
    · exact Or.inr ⟨nV.of r12 (by decide) (by decide) (by decide), Or.inl (by omega)⟩
    · exact Or.inr ⟨nV.of r53 (by decide) (by decide) (by decide), Or.inl (by omega)⟩
  refine ⟨?_, h2.keepY h20 F q (by omega) (by omega) (by omega), ⟨h12, F.at h4 (by omega), hA, fun k hk => ?_⟩, by have := F.1; omega⟩
  · obtain ⟨a0, a1, a2, a3, a4, a5, a6, a7, a8, a9, a10, a11⟩ := h1
    have kc : ∀ {x : Nat} {c : mm_C}, hp[x]? = some c → ¬ (x = 12 ∨ x = 53) → hp'[x]? = some c := fun hx h => F.at hx h
    refine ⟨kc a0 (by omega), kc a1 (by omega), kc a2 (by omega), kc a3 (by omega), ?_, ?_, ?_, ?_, fun p hp4 => ⟨?_, ?_, ?_⟩, ?_, ?_, ?_⟩
    · obtain ⟨n, jk, b1, b2, b3⟩ := a4; exact ⟨n, jk, kc b1 (by omega), kc b2 (by omega), b3⟩
    · obtain ⟨n, jk, b1, b2, b3⟩ := a5; exact ⟨n, jk, kc b1 (by omega), kc b2 (by omega), b3⟩
    · obtain ⟨x2, x3, x4, x5, x6, cs, b1, b2, b3⟩ := a6; exact ⟨x2, x3, x4, x5, x6, cs, kc b1 (by omega), kc b2 (by omega), b3⟩
    · obtain ⟨x2, x3, x4, x5, x6, cs, b1, b2, b3⟩ := a7; exact ⟨x2, x3, x4, x5, x6, cs, kc b1 (by omega), kc b2 (by omega), b3⟩
    · obtain ⟨x2, x3, x4, x5, x6, cs, b1, b2, b3⟩ := (a8 p hp4).1; exact ⟨x2, x3, x4, x5, x6, cs, kc b1 (by omega), kc b2 (by omega), b3⟩
    · obtain ⟨x2, x3, x4, x5, x6, cs, b1, b2, b3⟩ := (a8 p hp4).2.1; exact ⟨x2, x3, x4, x5, x6, cs, kc b1 (by omega), kc b2 (by omega), b3⟩
    · obtain ⟨x2, x3, x4, x5, x6, cs, b1, b2, b3⟩ := (a8 p hp4).2.2; exact ⟨x2, x3, x4, x5, x6, cs, kc b1 (by omega), kc b2 (by omega), b3⟩
    · obtain ⟨y, b⟩ := a9; exact ⟨y, kc b (by omega)⟩
    · obtain ⟨y, b⟩ := a10; exact ⟨y, kc b (by omega)⟩
    · obtain ⟨y, b⟩ := a11; exact ⟨y, kc b (by omega)⟩
  · rw [eP]
    exact (h6 k hk).keepY h20 F q (fun x hx w => ⟨by omega, fun j n ws _ h w' => by unfold wJ at w'; omega⟩)
