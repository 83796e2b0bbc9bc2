/-! THE REFERENCE GOES ON -/
section RGO
variable {X : List Int32} {d : Nat} {σ : mS} {Q : Option Value → mS → Prop}
def gK (σ σ' : mS) : Prop := mKp (fun k => xF k ∨ 23 ≤ k ∧ k ≤ 28) (fun b _ => 106 ≤ b) (fun p => 600 ≤ p) (fun x => 27 ≤ x) σ σ'
theorem gK.tr {a b c : mS} (h : gK a b) (k : gK b c) : gK a c := mKp.tr h k
theorem yK.g {s : Nat} {σ σ' : mS} (K : yK s σ σ') : gK σ σ' := K.mono (fun k h => by unfold yF at h; rcases h with h | h; exact Or.inl h; exact Or.inr (by omega)) (fun b j h => by unfold yB at h; omega) (fun p h => by unfold yP aW at h; omega) (fun x h => by unfold yW at h; omega)
theorem filter_lt {p q : Nat → Bool} {s : Nat} (hq : ∀ x, q x = true → p x = true) (h1 : p s = true) (h2 : q s = false) : ∀ l : List Nat, (l.filter q).length ≤ (l.filter p).length ∧ (s ∈ l → (l.filter q).length < (l.filter p).length)
  | [] => ⟨Nat.le_refl _, fun h => nomatch h⟩
  | x :: l => by
    obtain ⟨i1, i2⟩ := filter_lt hq h1 h2 l
    by_cases e : x = s
    · subst e
      rw [List.filter_cons_of_pos h1, List.filter_cons_of_neg (by rw [h2]; decide), List.length_cons]
      exact ⟨by omega, fun _ => by omega⟩
    · cases hx : q x
      · cases hx' : p x
        · rw [List.filter_cons_of_neg (by rw [hx]; decide), List.filter_cons_of_neg (by rw [hx']; decide)]
          exact ⟨i1, fun h => i2 ((List.mem_cons.mp h).resolve_left (fun z => e z.symm))⟩
        · rw [List.filter_cons_of_neg (by rw [hx]; decide), List.filter_cons_of_pos hx', List.length_cons]
          exact ⟨by omega, fun _ => by omega⟩
      · rw [List.filter_cons_of_pos hx, List.filter_cons_of_pos (hq x hx), List.length_cons, List.length_cons]
        exact ⟨by omega, fun h => by have := i2 ((List.mem_cons.mp h).resolve_left (fun z => e z.symm)); omega⟩
def wt (R : mRn) : Nat := ((List.range (nKn R)).filter (fun k => gPh (nPg R k) == 0)).length
theorem wt_le (R : mRn) : wt R ≤ nKn R := by
  have := List.length_filter_le (fun k => gPh (nPg R k) == 0) (List.range (nKn R))
  rw [List.length_range] at this
  exact this
theorem wt_put {R : mRn} {s : Nat} {g : mPg} (hs : s < nKn R) (h0 : gPh (nPg R s) = 0) (hg : gPh g ≠ 0) : wt (rPg R s g) < wt R := by
  refine (filter_lt (p := fun k => gPh (nPg R k) == 0) (q := fun k => gPh (up (nPg R) s g k) == 0) (s := s) (fun x hx => ?_) (by rw [h0]; rfl) ?_ (List.range (nKn R))).2 (List.mem_range.mpr hs)
  · by_cases e : x = s
    · subst e; rw [h0]; rfl
    · rw [up_ne e] at hx; exact hx
  · rw [up_eq, beq_eq_false_iff_ne]; exact hg
theorem t166_16 {E : mEv} (hF : eF E) : ∀ (f : Nat) (R : mRn) (σ : mS) (o2 : Option Value), wt R ≤ f → rOk E R → sR σ E R → (∀ σ' i1, gK σ σ' → sR σ' E (aGo E f R) → rOk E (aGo E f R) → nSt (aGo E f R) = nSt R → mM X (d + 13) 166 46 [some (.ref 86), some (.int i1), some (.int 0)] [] σ' Q) →
    mM X (d + 13) 166 16 [some (.ref 86), some (.int (if nFl R = true then -1 else match aNx E R with | some s => nI s | none => -1)), o2] [] σ Q := by
  intro f
  induction f with
  | zero =>
    intro R σ o2 hw hR hS H
    have en : aNx E R = none := by
      cases e : aNx E R with
      | none => rfl
      | some s =>
        obtain ⟨z1, z2, _⟩ := aNx_ok e
        have := List.length_pos_of_mem (List.mem_filter (p := fun k => gPh (nPg R k) == 0) |>.mpr ⟨List.mem_range.mpr z1, (by rw [z2]; rfl : (gPh (nPg R s) == 0) = true)⟩)
        unfold wt at hw; omega
    have ei : (if nFl R = true then (-1 : Int32) else match aNx E R with | some s => nI s | none => -1) = -1 := by
      rw [en]
      split <;> rfl
    rw [ei]
    exact u166_16 ⟨fun _ => H σ _ mKp.rf hS hR rfl, fun g => absurd (by decide) g⟩
  | succ f ih =>
    intro R σ o2 hw hR hS H
    cases hfl : nFl R with
    | true =>
      rw [if_pos rfl]
      have eg : aGo E (f + 1) R = R := by show (if nFl R = true then R else _) = R; rw [if_pos hfl]
      rw [eg] at H
      exact u166_16 ⟨fun _ => H σ _ mKp.rf hS hR rfl, fun g => absurd (by decide) g⟩
    | false =>
      rw [if_neg (by decide)]
      cases en : aNx E R with
      | none =>
        have eg : aGo E (f + 1) R = R := by show (if nFl R = true then R else match aNx E R with | none => R | some s => aGo E f (rPg R s (aXg E R s))) = R; rw [if_neg (by rw [hfl]; decide), en]
        rw [eg] at H
        exact u166_16 ⟨fun _ => H σ _ mKp.rf hS hR rfl, fun g => absurd (by decide) g⟩
      | some s =>
        have eg : aGo E (f + 1) R = aGo E f (rPg R s (aXg E R s)) := by show (if nFl R = true then R else match aNx E R with | none => R | some s => aGo E f (rPg R s (aXg E R s))) = _; rw [if_neg (by rw [hfl]; decide), en]
        rw [eg] at H
        obtain ⟨z1, z2, _⟩ := aNx_ok en
        have hs : s < (eSp E).length := by have := hR.1; omega
        have hst := hF.2.2.2.1 s hs
        have h4 : (eTo E s).2.length ≤ 4 := hF.2.2.2.2 (sTl (eSt E s))
        have h6 := hF.2.2.1
        have hR' := rOk_xp hF.1 hR hst en h4
        have hx := aXg_ok hF.1 hR hst en h4
        refine u166_16 ⟨fun g => absurd g (nI_pos (by omega)), fun _ => t168 (X := X) (d := d) hF hR hS hfl en (fun σ1 K1 S1 => ⟨rfl, ?_⟩)⟩
        have hnext := ih (rPg R s (aXg E R s)) σ1 o2 (by have := wt_put (g := aXg E R s) z1 z2 hx.2; omega) hR' S1 (fun σ2 i1 K2 S2 R2 e2 => H σ2 i1 (K1.g.tr K2) S2 R2 e2)
        obtain ⟨hE1, _, ⟨⟨_, _, c3, _, _, c6⟩, hO1⟩, _⟩ := id S1
        dsimp only
        rw [c6]
        refine ⟨fun g => ?_, fun g => ?_⟩
        · have efl := iB_0.mp g
          refine t167 (X := X) (d := d + 10) hE1 hF hR'.1 c3 (fun k hk => (hO1 k hk).1) (fun k => (hR'.2.1 k).1) ⟨_, rfl, ?_⟩
          rw [if_neg (by rw [efl]; decide)] at hnext
          exact hnext
        · have efl : nFl (rPg R s (aXg E R s)) = true := by
            cases e : nFl (rPg R s (aXg E R s))
            · rw [e] at g; exact absurd rfl g
            · rfl
          rw [if_pos efl] at hnext
          exact hnext
theorem aRd_iff {R : mRn} {s n : Nat} : aRd R s n = true ↔ gPh (nPg R s) = 1 ∧ n < gN (nPg R s) ∧ gRs (nPg R s) n = none ∧ gTk (nPg R s) n = false := by
  unfold aRd
  rw [Bool.and_eq_true, Bool.and_eq_true, Bool.and_eq_true, beq_iff_eq, Nat.blt_eq, Option.isNone_iff_eq_none, Bool.not_eq_true']
theorem sR.rd {E : mEv} {R : mRn} {s n : Nat} (h : sR σ E R) (hs : s < 6) (hn : n < 16) : σ.2.1 108 (16 * s + n) = 1 ↔ aRd R s n = true := by
  obtain ⟨_, _, _, _, h5⟩ := h
  obtain ⟨p1, p2⟩ := h5 s hs
  rw [aRd_iff]
  constructor
  · intro e
    by_cases g : gPh (nPg R s) = 1 ∧ n < gN (nPg R s)
    · obtain ⟨_, z2, _⟩ := (p1 g.1).2.2 n g.2
      rw [e] at z2
      refine ⟨g.1, g.2, ?_⟩
      cases er : gRs (nPg R s) n with
      | some t => rw [jS_some er] at z2; exact absurd z2 (by decide)
      | none =>
        rw [jS_none er] at z2
        cases et : gTk (nPg R s) n
        · exact ⟨rfl, rfl⟩
        · rw [et, if_pos rfl] at z2; exact absurd z2 (by decide)
    · exact absurd e (p2 n hn (fun z => by
        have : ¬ n < gN (nPg R s) := fun w => g ⟨z, w⟩
        omega))
  · rintro ⟨g1, g2, g3, g4⟩
    obtain ⟨_, z2, _⟩ := (p1 g1).2.2 n g2
    rw [z2, jS_none g3, g4]; rfl
theorem sR.take {E : mEv} {R : mRn} {s n : Nat} {σ' : mS} (h : sR σ E R) (hs : s < 6) (hn : n < 16) (hr : aRd R s n = true) (hw : (nAc R).length < nWk R) (hw3 : nWk R ≤ 3) (ha : ∀ k n, (k, n) ∈ nAc R → k < 6 ∧ n < 16)
    (e : σ' = mSet (mSet (uI (uI σ 108 (16 * s + n) 2) 111 (nAc R).length (nI (16 * s + n))) 27 (nI ((nAc R).length + 1))) 26 (nI (nBg R + 1))) : sR σ' E (aTake R s n) ∧ gK σ σ' := by
  have K : mKp (fun k => k = 26 ∨ k = 27) (fun b j => b = 108 ∧ j = 16 * s + n ∨ b = 111 ∧ j = (nAc R).length) mN1 mN1 σ σ' := by
    subst e
    refine ⟨fun k hk => ?_, fun b j hb hB => ?_, fun p hp => rfl, fun x hx hW => ⟨?_, fun i hi => rfl⟩⟩
    · rw [mSet_g, if_neg (by omega), mSet_g, if_neg (by omega)]; rfl
    · show (uI (uI σ 108 (16 * s + n) 2) 111 (nAc R).length (nI (16 * s + n))).2.1 b j = _
      rw [uI_at, if_neg (by omega), uI_at, if_neg (by omega)]
    · show (uI (uI σ 108 (16 * s + n) 2) 111 (nAc R).length (nI (16 * s + n))).2.1 90 x = _
      rw [uI_at, if_neg (by omega), uI_at, if_neg (by omega)]
  have v8 : σ'.2.1 108 (16 * s + n) = 2 := by
    subst e
    show (uI (uI σ 108 (16 * s + n) 2) 111 (nAc R).length (nI (16 * s + n))).2.1 108 _ = _
    rw [uI_at, if_neg (by omega), uI_at, if_pos ⟨rfl, rfl⟩]
  have v11 : σ'.2.1 111 (nAc R).length = nI (16 * s + n) := by
    subst e
    show (uI (uI σ 108 (16 * s + n) 2) 111 (nAc R).length (nI (16 * s + n))).2.1 111 _ = _
    rw [uI_at, if_pos ⟨rfl, rfl⟩]
  have v26 : σ'.1 26 = nI (nBg R + 1) := by subst e; rw [mSet_g, if_pos rfl]
  have v27 : σ'.1 27 = nI ((nAc R).length + 1) := by subst e; rw [mSet_g, if_neg (by decide), mSet_g, if_pos rfl]
  clear e
  refine ⟨?_, K.mono (fun k h => Or.inr (by omega)) (fun b j h => by omega) (fun _ h => h.elim) (fun _ h => h.elim)⟩
  have et : aTake R s n = (nSt R, nWk R, nKn R, nBg R + 1, nAc R ++ [(s, n)], nFl R, up (nPg R) s (gTak (nPg R s) n)) := if_pos ⟨hr, hw⟩
  obtain ⟨r1, r2, r3, r4⟩ := aRd_iff.mp hr
  obtain ⟨h1, h2, ⟨⟨c1, c2, c3, c4, c5, c6⟩, h4⟩, h5, h6⟩ := h
  have kF : ∀ k, ¬ (k = 26 ∨ k = 27) → σ'.1 k = σ.1 k := fun k hk => K.1 k hk
  have cm : ∀ k, gCm (up (nPg R) s (gTak (nPg R s) n) k) = gCm (nPg R k) := fun k => by
    by_cases e : k = s
    · subst e; rw [up_eq]; rfl
    · rw [up_ne e]
  rw [et]
  refine ⟨h1.kp K (by omega) (fun b j h1 h2 hB => by omega) (fun p _ h => h) (fun x _ h => h), (kF 44 (by omega)).trans h2, ⟨⟨(kF 23 (by omega)).trans c1, (kF 24 (by omega)).trans c2, (kF 25 (by omega)).trans c3, v26, ?_, (kF 28 (by omega)).trans c6⟩, fun k hk => ?_⟩, fun i hi => ?_, fun k hk => ?_⟩
  · show σ'.1 27 = nI (nAc R ++ [(s, n)]).length
    rw [List.length_append]; exact v27
  · show sO σ' k (up (nPg R) s (gTak (nPg R s) n) k)
    have key : sO σ' k (nPg R k) := ⟨(K.2.1 106 _ (by decide) (by omega)).trans (h4 k hk).1, fun e => ((h4 k hk).2 e).keep K id (fun _ _ h => h)⟩
    by_cases e : k = s
    · subst e; rw [up_eq]; exact key
    · rw [up_ne e]; exact key
  · have hi' : i < (nAc R ++ [(s, n)]).length := hi
    show σ'.2.1 111 i = nI (16 * ((nAc R ++ [(s, n)])[i]).1 + ((nAc R ++ [(s, n)])[i]).2) ∧ ∀ ws, gCm (up (nPg R) s (gTak (nPg R s) n) ((nAc R ++ [(s, n)])[i]).1) ((nAc R ++ [(s, n)])[i]).2 = some ws → wdU σ' (16 * ((nAc R ++ [(s, n)])[i]).1 + ((nAc R ++ [(s, n)])[i]).2) ws
    rw [cm]
    by_cases e : i < (nAc R).length
    · rw [List.getElem_append_left e]
      obtain ⟨q1, q2⟩ := h5 i e
      exact ⟨(K.2.1 111 _ (by decide) (by omega)).trans q1, fun ws hw' => (q2 ws hw').keep K (fun b j hb hB => by unfold wdB at hb; omega) (fun _ _ h => h)⟩
    · have ei : i = (nAc R).length := by rw [List.length_append, List.length_singleton] at hi'; omega
      subst ei
      rw [List.getElem_append_right (Nat.le_refl _)]
      simp only [Nat.sub_self, List.getElem_cons_zero]
      refine ⟨v11, fun ws hw' => ?_⟩
      exact (((h6 s hs).1 r1).2.2 n r2).2.2.2 r3 ws hw' |>.keep K (fun b j hb hB => by unfold wdB at hb; omega) (fun _ _ h => h)
  · show sP σ' E k (up (nPg R) s (gTak (nPg R s) n) k)
    by_cases e : k = s
    · subst e
      rw [up_eq]
      obtain ⟨p1, p2⟩ := h6 k hk
      refine ⟨fun _ => ?_, fun m hm hg => ?_⟩
      · obtain ⟨q1, ⟨ln, q2, q3⟩, q4⟩ := p1 r1
        refine ⟨(K.2.1 107 _ (by decide) (by omega)).trans q1, ⟨ln, q2, fun p hp hb => ⟨(q3 p hp hb).1, (K.2.1 112 _ (by decide) (by omega)).trans (q3 p hp hb).2⟩⟩, fun m hm => ?_⟩
        obtain ⟨z1, z2, z3, z4⟩ := q4 m hm
        refine ⟨z1, ?_, fun t ht => (z3 t ht).keep K id (fun _ _ h => h), fun hr' ws hw' => (z4 hr' ws hw').keep K (fun b j hb hB => by unfold wdB at hb; omega) (fun _ _ h => h)⟩
        by_cases em : m = n
        · subst em
          rw [v8, jS_none (show gRs (gTak (nPg R k) m) m = none from r3)]
          show (2 : Int32) = nI (if up (gTk (nPg R k)) m true m = true then 2 else 1)
          rw [up_eq]; rfl
        · rw [K.2.1 108 _ (by decide) (by omega), z2]
          congr 1
          unfold jS
          show (match gRs (nPg R k) m with | some _ => 3 | none => if gTk (nPg R k) m = true then 2 else 1) = (match gRs (nPg R k) m with | some _ => 3 | none => if up (gTk (nPg R k)) n true m = true then 2 else 1)
          rw [up_ne em]
      · by_cases em : m = n
        · subst em; rw [v8]; decide
        · rw [K.2.1 108 _ (by decide) (by omega)]
          exact p2 m hm hg
    · rw [up_ne e]
      obtain ⟨p1, p2⟩ := h6 k hk
      refine ⟨fun g1 => ?_, fun m hm hg => ?_⟩
      · obtain ⟨q1, ⟨ln, q2, q3⟩, q4⟩ := p1 g1
        refine ⟨(K.2.1 107 _ (by decide) (by omega)).trans q1, ⟨ln, q2, fun p hp hb => ⟨(q3 p hp hb).1, (K.2.1 112 _ (by decide) (by omega)).trans (q3 p hp hb).2⟩⟩, fun m hm => ?_⟩
        obtain ⟨z1, z2, z3, z4⟩ := q4 m hm
        exact ⟨z1, (K.2.1 108 _ (by decide) (by omega)).trans z2, fun t ht => (z3 t ht).keep K id (fun _ _ h => h), fun hr' ws hw' => (z4 hr' ws hw').keep K (fun b j hb hB => by unfold wdB at hb; omega) (fun _ _ h => h)⟩
      · rw [K.2.1 108 _ (by decide) (by omega)]
        exact p2 m hm hg
end RGO
