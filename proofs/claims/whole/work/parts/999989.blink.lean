/-! LINK, GATHER, SCATTER ARE OWED -/
section OLK
variable {X : List Int32} {t d : Nat} {hp : mm_H} {Q : Option Value → mm_H → Prop}
def vS (y : Int32) : Prop := ∃ c : Nat, y = nI c ∧ (c < 3 ∨ 10 ≤ c ∧ c < 16)
theorem k22_fl {y1 y2 y3 : Int32} {v : Value} (H : ∀ i5 s0 : Int32, ((¬ i5 = 0 ∨ ¬ s0 = 0) ↔ vS y3) → mm_R X (d + 1) 22 40 [some (.ref 0), some (.int y1), some (.int y2), some (.int y3), some v, some (.int i5), none] [.int s0] hp Q) :
    ((y3 < (0 : Int32) → mm_R X (d + 1) 22 21 [some (.ref 0), some (.int y1), some (.int y2), some (.int y3), some v, none, none] [.int (0 : Int32)] hp Q) ∧ (¬ y3 < (0 : Int32) → (((3 : Int32) ≤ y3 → mm_R X (d + 1) 22 21 [some (.ref 0), some (.int y1), some (.int y2), some (.int y3), some v, none, none] [.int (0 : Int32)] hp Q) ∧ (¬ (3 : Int32) ≤ y3 → mm_R X (d + 1) 22 21 [some (.ref 0), some (.int y1), some (.int y2), some (.int y3), some v, none, none] [.int (1 : Int32)] hp Q)))) := by
  rcases nI_arg y3 (L := 16) (by omega) with ⟨c, rfl, hc⟩ | ⟨h, hno⟩
  · have key : ∀ i5 : Int32, (¬ i5 = 0 ↔ c < 3) → mm_R X (d + 1) 22 21 [some (.ref 0), some (.int y1), some (.int y2), some (.int (nI c)), some v, none, none] [.int i5] hp Q := by
      intro i5 hi
      have iff : ∀ s0 : Int32, (¬ s0 = 0 ↔ 10 ≤ c) → ((¬ i5 = 0 ∨ ¬ s0 = 0) ↔ vS (nI c)) := fun s0 hs => by
        rw [hi, hs]
        constructor
        · intro z; exact ⟨c, rfl, by omega⟩
        · rintro ⟨c', e, z⟩
          have := (nI_eq (by omega) (by omega)).mp e
          omega
      refine w22_21 (pk_lt c 10 (fun g => H i5 0 (iff 0 ⟨fun z => absurd rfl z, fun z => by omega⟩)) (fun g => pk_le 16 c (fun g2 => absurd g2 (by omega)) (fun _ => H i5 1 (iff 1 ⟨fun _ => g, fun _ => by decide⟩))))
    exact ⟨fun g => absurd g (nI_pos (by omega)), fun _ => pk_le 3 c (fun g => key 0 ⟨fun z => absurd rfl z, fun z => by omega⟩) (fun g => key 1 ⟨fun _ => g, fun _ => by decide⟩)⟩
  · have nv : ¬ vS y3 := by
      rintro ⟨c, e, z⟩
      exact hno c (by omega) e
    have fin : mm_R X (d + 1) 22 21 [some (.ref 0), some (.int y1), some (.int y2), some (.int y3), some v, none, none] [.int (0 : Int32)] hp Q := by
      have e : ((¬ (0 : Int32) = 0 ∨ ¬ (0 : Int32) = 0) ↔ vS y3) := ⟨fun z => by rcases z with z | z <;> exact absurd rfl z, fun z => absurd z nv⟩
      refine w22_21 ⟨fun _ => H 0 0 e, fun g => ⟨fun _ => H 0 0 e, fun g2 => ?_⟩⟩
      rcases h with h | h
      · exact absurd (Int32.lt_trans h (by decide)) g
      · exact absurd h g2
    refine ⟨fun _ => fin, fun g => ⟨fun _ => fin, fun g2 => ?_⟩⟩
    exact absurd (Int32.le_trans (by decide) (h.resolve_left g)) g2
def stL (st : mStp) (p c : Nat) : mStp := (sTl st, up (sSr st) p (sSr st p ++ [c]), sMg st, sPk st, sPr st, sRl st, sMk st, sMe st)
theorem stL_ok {st : mStp} {p c : Nat} (h : sOk st) (hl : (sSr st p).length < 3) (hc : c < 3 ∨ 10 ≤ c ∧ c < 16) : sOk (stL st p c) := by
  obtain ⟨h1, h2⟩ := h
  refine ⟨fun q => ?_, h2⟩
  show (up (sSr st) p (sSr st p ++ [c]) q).length ≤ 3 ∧ ∀ c' ∈ up (sSr st) p (sSr st p ++ [c]) q, c' < 3 ∨ 10 ≤ c' ∧ c' < 16
  by_cases e : q = p
  · subst e
    rw [up_eq, List.length_append, List.length_singleton]
    refine ⟨by omega, fun c' hc' => ?_⟩
    rcases List.mem_append.mp hc' with z | z
    · exact (h1 q).2 c' z
    · rw [List.mem_singleton] at z; omega
  · rw [up_ne e]; exact h1 q
theorem k25 {r a p c : Nat} {st : mStp} (C : cSt hp r a st) (hp4 : p < 4) (hl3 : ∀ q, (sSr st q).length ≤ 3) (hc : c < 1000)
    (H1 : (sSr st p).length < 3 → ∀ hp', cE (wSt r) hp hp' → cH 0 0 hp hp' → cSt hp' r a (stL st p c) → Q (some (.int 1)) hp')
    (H0 : (sSr st p).length = 3 → Q (some (.int 0)) hp) : mm_R X (d + 2) 25 0 (mm_L0 25 [.ref r, .int (nI p), .int (nI c)]) [] hp Q := by
  obtain ⟨cond, srcs, ps, rs, h0, h1, hl, h2, h3, h4, h5, h6, h7, h8, h9, h10, h11⟩ := id C
  refine w25_0 (k24 (fun p' e hp' => ⟨_, rfl, fun z => absurd z (by decide), fun _ => ⟨_, _, _, rfl, h0, rfl, mw_air h3 (row4_get hp4) rfl (by omega) (pk_lt (sSr st p).length 3 (fun g => ?_) (fun g => H0 (by have := hl3 p; omega)) rfl rfl (by have := hl3 p; omega) (by omega))⟩⟩) (fun hno => absurd rfl (hno p hp4)))
  refine ⟨_, _, _, rfl, h0, rfl, _, _, _, rfl, h0, rfl, mw_air h3 (row4_get hp4) rfl (by omega) ?_⟩
  have e3 : nI p * 3 + nI (sSr st p).length = nI (3 * p + (sSr st p).length) := by
    rw [show (3 : Int32) = nI 3 from rfl, pk_mul, nI_add, Nat.mul_comm]
  rw [e3]
  have l1 := (List.getElem?_eq_some_iff.mp h1).1
  have l2 := (List.getElem?_eq_some_iff.mp h3).1
  refine ⟨_, _, rfl, h1, nI_pos' (by omega), by rw [nI_clamp (by omega), hl]; omega, rfl, ?_⟩
  rw [nI_clamp (by omega)]
  have h0' : (hp.set (r + 1) (1000, srcs.set (3 * p + (sSr st p).length) (.int (nI c))))[r]? = some (7, [.ref a, .ref (r + 1), .ref (r + 2), .ref (r + 3), .ref (r + 4), .ref (r + 5), .ref (r + 6), cond, .int (nI (sMk st)), .int (nI (sMe st))]) := by rw [List.getElem?_set_ne (by omega)]; exact h0
  have h3' : (hp.set (r + 1) (1000, srcs.set (3 * p + (sSr st p).length) (.int (nI c))))[r + 2]? = some (1000, row4 (fun p => .int (nI (sSr st p).length))) := by rw [List.getElem?_set_ne (by omega)]; exact h3
  refine ⟨_, _, _, rfl, h0', rfl, rfl, mw_air h3' (row4_get hp4) rfl (by omega) ?_⟩
  refine ⟨_, _, rfl, h3', nI_pos' (by omega), by rw [nI_clamp (by omega)]; exact hp4, rfl, ?_⟩
  rw [nI_clamp (by omega), row4_set hp4, nI_1]
  generalize e12 : (hp.set (r + 1) (1000, srcs.set (3 * p + (sSr st p).length) (.int (nI c)))).set (r + 2) (1000, row4 (fun j => if j = p then .int (nI ((sSr st p).length + 1)) else .int (nI (sSr st j).length))) = hp'
  have F2 : cE (fun x => x = r + 1 ∨ x = r + 2) hp hp' := by subst e12; exact (cE.set (Or.inl rfl)).tr (cE.set (Or.inr rfl))
  have hH : cH 0 0 hp hp' := by subst e12; exact cH.mono ((cH_set h1 (by rw [List.length_set])).tr (cH_set h3' rfl)) (by omega) (by omega)
  have g1 : hp'[r + 1]? = some (1000, srcs.set (3 * p + (sSr st p).length) (.int (nI c))) := by subst e12; rw [List.getElem?_set_ne (by omega), List.getElem?_set_self l1]
  have g2 : hp'[r + 2]? = some (1000, row4 (fun j => if j = p then .int (nI ((sSr st p).length + 1)) else .int (nI (sSr st j).length))) := by subst e12; rw [List.getElem?_set_self (by rw [List.length_set]; exact l2)]
  have F : cE (wSt r) hp hp' := F2.mono (fun x _ h => by unfold wSt; omega)
  have nv : ∀ x, x < hp.length → (x = r + 1 ∨ x = r + 2) → nV hp x := by
    intro x hx w
    rcases w with rfl | rfl
    · exact ⟨fun cs e => (by rw [h1] at e; cases e), fun y u cs vs e hx hu => (by rw [h1] at hx; cases hx; omega)⟩
    · exact ⟨fun cs e => (by rw [h3] at e; cases e), fun y u cs vs e hx hu => (by rw [h3] at hx; cases hx; omega)⟩
  have kr : ∀ {q N : Nat} {is : List mIt}, cRl hp q is N → cRl hp' q is N := fun {q N is} e => by
    obtain ⟨junk, a0, b0, _⟩ := id e
    refine cRu.keep e F2 (fun w => ?_) (fun w => ?_)
    · rcases w with w | w
      · rw [w, h1] at a0; cases a0
      · rw [w, h3] at a0; cases a0
    · rcases w with w | w
      · have : q = r := by omega
        rw [this, h0] at a0; cases a0
      · have : q = r + 1 := by omega
        rw [this, h1] at a0; cases a0
  refine H1 g hp' F hH ⟨cond, srcs.set (3 * p + (sSr st p).length) (.int (nI c)), ps, rs, F2.at h0 (by omega), g1, by rw [List.length_set]; exact hl, fun q hq n hn => ?_, ?_, F2.at h4 (by omega), F2.at h5 (by omega), F2.at h6 (by omega), F2.at h7 (by omega), fun q hq => ?_, fun q hq => ?_, ?_, fun v hv => ?_⟩
  · by_cases e : q = p
    · subst e
      have e2 : sSr (stL st q c) q = sSr st q ++ [c] := up_eq _ _ _
      have hn2 : n < (sSr st q ++ [c]).length := by rw [← e2]; exact hn
      rw [List.getElem_of_eq e2 hn]
      by_cases en : n = (sSr st q).length
      · subst en
        rw [List.getElem?_set_self (by rw [hl]; omega), List.getElem_append_right (Nat.le_refl _)]
        simp
      · have hn3 : n < (sSr st q).length := by rw [List.length_append, List.length_singleton] at hn2; omega
        rw [List.getElem?_set_ne (by omega), List.getElem_append_left hn3]
        exact h2 q hq n hn3
    · have e2 : sSr (stL st p c) q = sSr st q := up_ne e
      have hn2 : n < (sSr st q).length := by rw [← e2]; exact hn
      rw [List.getElem_of_eq e2 hn, List.getElem?_set_ne (by have := hl3 q; omega)]
      exact h2 q hq n hn2
  · rw [g2]
    congr 2
    apply row4_ext
    intro q hq
    show (if q = p then Value.int (nI ((sSr st p).length + 1)) else .int (nI (sSr st q).length)) = .int (nI (up (sSr st) p (sSr st p ++ [c]) q).length)
    by_cases e : q = p
    · subst e; rw [if_pos rfl, up_eq, List.length_append]; rfl
    · rw [if_neg e, up_ne e]
  · rcases h8 q hq with z | ⟨u, y, z1, z2, z3, z4⟩
    · exact Or.inl z
    · exact Or.inr ⟨u, y, z1, z2, z3, cT.keepT F2 nv z4⟩
  · rcases h9 q hq with z | ⟨D, is, y, z1, z2, z3, z4, z5⟩
    · exact Or.inl z
    · exact Or.inr ⟨D, is, y, z1, z2, z3, kr z4, z5⟩
  · rcases h10 with z | ⟨D, is, y, z1, z2, z3, z4, z5⟩
    · exact Or.inl z
    · exact Or.inr ⟨D, is, y, z1, z2, z3, kr z4, z5⟩
  · rcases List.mem_or_eq_of_mem_set hv with z | z
    · exact h11 v z
    · exact ⟨_, z⟩
end OLK
