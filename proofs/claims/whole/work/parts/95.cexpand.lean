/-! THE CLASS EXPANDS A STEP -/
/-- cells of jobs and progresses -/
def isJ (hp : mm_H) (x : Nat) : Prop := (∃ cs, hp[x]? = some (5, cs)) ∨ (∃ cs, hp[x]? = some (9, cs)) ∨ (∃ cs, hp[x]? = some (2009, cs)) ∨ (∃ y cs ds, x = y + 1 ∧ hp[y]? = some (9, cs) ∧ hp[x]? = some (1001, ds)) ∨ ∃ y cs ds es, x = y + 2 ∧ hp[y]? = some (9, cs) ∧ hp[y + 1]? = some (1001, ds) ∧ hp[x]? = some (1000, es)
theorem isJ_blk {hp : mm_H} {r n : Nat} (h : ∀ k, k ≤ n → ∃ u cs, hp[r + k]? = some (u, cs) ∧ u ≠ 5 ∧ u ≠ 9 ∧ u ≠ 2009 ∧ (k = 0 → u ≠ 1000 ∧ u ≠ 1001)) : ∀ k, k ≤ n → ¬ isJ hp (r + k) := by
  intro k hk
  obtain ⟨u, cs, a, b, c, d, e⟩ := h k hk
  rintro (⟨_, g⟩ | ⟨_, g⟩ | ⟨_, g⟩ | ⟨y, _, _, e1, g1, g2⟩ | ⟨y, _, _, _, e1, g1, g2, g3⟩)
  · rw [a] at g; cases g; exact b rfl
  · rw [a] at g; cases g; exact c rfl
  · rw [a] at g; cases g; exact d rfl
  · rcases Nat.eq_zero_or_pos k with h0 | h0
    · rw [a] at g2; cases g2; exact (e h0).2 rfl
    · have ey : y = r + (k - 1) := by omega
      obtain ⟨u', cs', a', _, c', _⟩ := h (k - 1) (by omega)
      rw [ey, a'] at g1; cases g1; exact c' rfl
  · rcases Nat.lt_or_ge k 2 with h2 | h2
    · have : k = 0 ∨ k = 1 := by omega
      rcases this with h0 | h0
      · rw [a] at g3; cases g3; exact (e h0).1 rfl
      · have ey : y + 1 = r + 0 := by omega
        obtain ⟨u', cs', a', _, _, _, e'⟩ := h 0 (by omega)
        rw [ey, a'] at g2; cases g2; exact (e' rfl).2 rfl
    · have ey : y = r + (k - 2) := by omega
      obtain ⟨u', cs', a', _, c', _⟩ := h (k - 2) (by omega)
      rw [ey, a'] at g1; cases g1; exact c' rfl
theorem cJw.isJ {hp : mm_H} {j s n x : Nat} {ws : List (List Nat)} (h : cJw hp j s n ws) (hx : wJ j x) : isJ hp x := by
  obtain ⟨lb, junk, ej, a, b, _, c, _⟩ := h
  rcases hx with rfl | rfl | rfl
  · exact Or.inr (Or.inl ⟨_, a⟩)
  · exact Or.inr (Or.inr (Or.inr (Or.inl ⟨_, _, _, rfl, a, b⟩)))
  · exact Or.inr (Or.inr (Or.inr (Or.inr ⟨_, _, _, _, rfl, a, b, c⟩)))
theorem cRl.nJ {hp : mm_H} {q N : Nat} {is : List mIt} (h : cRl hp q is N) : ∀ k, k ≤ 1 → ¬ isJ hp (q + k) := by
  obtain ⟨junk, a, b, _⟩ := h
  refine isJ_blk (fun k hk => ?_)
  have : k = 0 ∨ k = 1 := by omega
  rcases this with rfl | rfl
  · exact ⟨_, _, a, by decide, by decide, by decide, fun _ => ⟨by decide, by decide⟩⟩
  · exact ⟨_, _, b, by decide, by decide, by decide, fun g => absurd g (by decide)⟩
theorem cTo.nJ {hp : mm_H} {r : Nat} {to : mTo} (h : cTo hp r to) : ∀ k, k ≤ 4 → ¬ isJ hp (r + k) := by
  obtain ⟨j1, j2, j3, j4, a0, a1, a2, a3, a4, _⟩ := h
  refine isJ_blk (fun k hk => ?_)
  have : k = 0 ∨ k = 1 ∨ k = 2 ∨ k = 3 ∨ k = 4 := by omega
  rcases this with rfl | rfl | rfl | rfl | rfl
  · exact ⟨_, _, a0, by decide, by decide, by decide, fun _ => ⟨by decide, by decide⟩⟩
  · exact ⟨_, _, a1, by decide, by decide, by decide, fun g => absurd g (by decide)⟩
  · exact ⟨_, _, a2, by decide, by decide, by decide, fun g => absurd g (by decide)⟩
  · exact ⟨_, _, a3, by decide, by decide, by decide, fun g => absurd g (by decide)⟩
  · exact ⟨_, _, a4, by decide, by decide, by decide, fun g => absurd g (by decide)⟩
theorem cSt.nJ {hp : mm_H} {r tr : Nat} {s : mStp} (h : cSt hp r tr s) : ∀ k, k ≤ 6 → ¬ isJ hp (r + k) := by
  obtain ⟨cond, srcs, ps, rs, s0, s1, sl, s2, s3, s4, s5, s6, s7, _⟩ := h
  refine isJ_blk (fun k hk => ?_)
  have : k = 0 ∨ k = 1 ∨ k = 2 ∨ k = 3 ∨ k = 4 ∨ k = 5 ∨ k = 6 := by omega
  rcases this with rfl | rfl | rfl | rfl | rfl | rfl | rfl
  · exact ⟨_, _, s0, by decide, by decide, by decide, fun _ => ⟨by decide, by decide⟩⟩
  · exact ⟨_, _, s1, by decide, by decide, by decide, fun g => absurd g (by decide)⟩
  · exact ⟨_, _, s3, by decide, by decide, by decide, fun g => absurd g (by decide)⟩
  · exact ⟨_, _, s4, by decide, by decide, by decide, fun g => absurd g (by decide)⟩
  · exact ⟨_, _, s5, by decide, by decide, by decide, fun g => absurd g (by decide)⟩
  · exact ⟨_, _, s6, by decide, by decide, by decide, fun g => absurd g (by decide)⟩
  · exact ⟨_, _, s7, by decide, by decide, by decide, fun g => absurd g (by decide)⟩
/-- changes to jobs, progresses and cells below 113 that are no value's -/
def qW (hp : mm_H) (W : Nat → Prop) : Prop := ∀ x, x < hp.length → W x → nV hp x ∧ (x < 113 ∨ isJ hp x)
theorem cSt.keepJ {hp hp' : mm_H} {W : Nat → Prop} {r tr : Nat} {s : mStp} (h : cSt hp r tr s) (E : cE W hp hp') (q : qW hp W) (hr : 113 ≤ r) : cSt hp' r tr s := by
  have nj := h.nJ
  have nW : ∀ (y n : Nat) (c : mm_C), 113 ≤ y → (∀ k, k ≤ n → ¬ isJ hp (y + k)) → ∀ k, k ≤ n → hp[y + k]? = some c → ¬ W (y + k) := fun y n c hy hn k hk hc w => by
    rcases (q _ (List.getElem?_eq_some_iff.mp hc).1 w).2 with g | g
    · omega
    · exact hn k hk g
  obtain ⟨cond, srcs, ps, rs, h0, h1, hl, h2, h3, h4, h5, h6, h7, h8, h9, h10, h11⟩ := h
  have kT : ∀ {t : mT} {y : Nat}, cT cS hp t y → cT cS hp' t y := fun T => T.keepT E (fun x hx w => (q x hx w).1)
  refine ⟨cond, srcs, ps, rs, E.at h0 (nW r 6 _ hr nj 0 (by omega) h0), E.at h1 (nW r 6 _ hr nj 1 (by omega) h1), hl, h2, E.at h3 (nW r 6 _ hr nj 2 (by omega) h3), E.at h4 (nW r 6 _ hr nj 3 (by omega) h4), E.at h5 (nW r 6 _ hr nj 4 (by omega) h5), E.at h6 (nW r 6 _ hr nj 5 (by omega) h6), E.at h7 (nW r 6 _ hr nj 6 (by omega) h7), fun p hp4 => ?_, fun p hp4 => ?_, ?_, h11⟩
  · rcases h8 p hp4 with g | ⟨t, y, a, b, c, e⟩
    · exact Or.inl g
    · exact Or.inr ⟨t, y, a, b, c, kT e⟩
  · rcases h9 p hp4 with g | ⟨D, is, y, a, b, c, e, f⟩
    · exact Or.inl g
    · obtain ⟨junk, e0, e1, _⟩ := id e
      exact Or.inr ⟨D, is, y, a, b, c, cRu.keep e E (nW y 1 _ f e.nJ 0 (by omega) e0) (nW y 1 _ f e.nJ 1 (by omega) e1), f⟩
  · rcases h10 with g | ⟨D, is, y, a, b, c, e, f⟩
    · exact Or.inl g
    · obtain ⟨junk, e0, e1, _⟩ := id e
      exact Or.inr ⟨D, is, y, a, b, c, cRu.keep e E (nW y 1 _ f e.nJ 0 (by omega) e0) (nW y 1 _ f e.nJ 1 (by omega) e1), f⟩
theorem cTo.keepJ {hp hp' : mm_H} {W : Nat → Prop} {r : Nat} {to : mTo} (h : cTo hp r to) (E : cE W hp hp') (q : qW hp W) (hr : 113 ≤ r) : cTo hp' r to := by
  have nj := h.nJ
  obtain ⟨j1, j2, j3, j4, a, b, c, d, e, f⟩ := id h
  refine h.keep E (fun x h1 h2 w => ?_)
  have hx : x < hp.length := by
    have := (List.getElem?_eq_some_iff.mp e).1
    omega
  rcases (q x hx w).2 with g | g
  · omega
  · have := nj (x - r) (by omega)
    rw [show r + (x - r) = x by omega] at this
    exact this g
theorem cEx.keepJ {hp hp' : mm_H} {W : Nat → Prop} (h : cEx hp) (E : cE W hp hp') (hW : ∀ x, x ≤ 51 → ¬ W x) : cEx hp' := by
  obtain ⟨a1, a2, a3, a4, a5, a6, a7, a8, a9, ⟨q1, b1⟩, ⟨q2, b2⟩, ⟨q3, b3⟩⟩ := h
  refine ⟨E.at a1 (hW _ (by omega)), E.at a2 (hW _ (by omega)), E.at a3 (hW _ (by omega)), E.at a4 (hW _ (by omega)), a5.keep E (hW _ (by omega)) (hW _ (by omega)), a6.keep E (hW _ (by omega)) (hW _ (by omega)), a7.keep E (hW _ (by omega)) (hW _ (by omega)), a8.keep E (hW _ (by omega)) (hW _ (by omega)), fun i hi => ?_, ⟨q1, E.at b1 (hW _ (by omega))⟩, ⟨q2, E.at b2 (hW _ (by omega))⟩, ⟨q3, E.at b3 (hW _ (by omega))⟩⟩
  obtain ⟨c1, c2, c3⟩ := a9 i hi
  exact ⟨c1.keep E (hW _ (by omega)) (hW _ (by omega)), c2.keep E (hW _ (by omega)) (hW _ (by omega)), c3.keep E (hW _ (by omega)) (hW _ (by omega))⟩
/-- what becomes of job n: none fails, some none is skipped -/
def aAll (s : mStp) (n : Nat) (bf : Nat → mT) : Bool := (aAf s n bf 0).isSome && ((aAf s n bf 1).isSome && ((aAf s n bf 2).isSome && (aAf s n bf 3).isSome))
theorem aAll_iff {s : mStp} {n : Nat} {bf : Nat → mT} : aAll s n bf = true ↔ ∀ i, i < 4 → aAf s n bf i ≠ none := by
  unfold aAll
  simp only [Bool.and_eq_true, Option.isSome_iff_ne_none]
  constructor
  · rintro ⟨a, b, c, d⟩ i hi
    have : i = 0 ∨ i = 1 ∨ i = 2 ∨ i = 3 := by omega
    rcases this with rfl | rfl | rfl | rfl
    · exact a
    · exact b
    · exact c
    · exact d
  · intro h
    exact ⟨h 0 (by omega), h 1 (by omega), h 2 (by omega), h 3 (by omega)⟩
def aAo (s : mStp) (n : Nat) (bf : Nat → mT) (p : Nat) : mT := (aAf s n bf p).getD (.leaf none)
def aJob (st : mStp) (to : mTo) (wh : Nat → mT) (n : Nat) : Option (Option (List (List Nat))) := if aAll st to.2.length (aBf (sMe st) (sMk st % 2 ^ to.2.length) wh n) = true then (aCo st (aAo st to.2.length (aBf (sMe st) (sMk st % 2 ^ to.2.length) wh n))).bind (fun c => if aOff c = true then some none else (aCmd to.2 (aAo st to.2.length (aBf (sMe st) (sMk st % 2 ^ to.2.length) wh n))).map some) else none
def aCt (job : Nat → Option (Option (List (List Nat)))) : Nat → Nat
  | 0 => 0
  | n + 1 => aCt job n + (match job n with
    | some (some _) => 1
    | _ => 0)
def aDn (hp : mm_H) (s N : Nat) (job : Nat → Option (Option (List (List Nat)))) (jl rl : List Value) : Prop := ∀ m, m < N → (job m = some none → rl[m]? = some (.ref 14)) ∧ (∀ ws, job m = some (some ws) → rl[m]? = some .null ∧ ∃ j : Nat, jl[m]? = some (.ref j) ∧ cJw hp j s m ws)
theorem aAo_gd {s : mStp} {n p : Nat} {bf : Nat → mT} (h : ∀ i, mt_gd (bf i)) : mt_gd (aAo s n bf p) := by
  unfold aAo aAf
  split
  · split
    · rename_i D _
      cases hw : rW bf (bf p) (rIs D) with
      | none => exact mt_gl_leaf trivial
      | some t => exact mt_g_gd (rW_g (fun i => mt_gd_g (h i)) (mt_gd_g (h p)) t hw)
    · exact h p
  · exact h p
