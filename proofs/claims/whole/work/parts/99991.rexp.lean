/-! THE REFERENCE: a step is laid out -/
section RXP
variable {X : List Int32} {d : Nat} {σ : mS} {Q : Option Value → mS → Prop}
def xA (s p : Nat) : Prop := p < 19032 ∧ ¬ aW s p
def xJ (σ : mS) (s : Nat) (jb : Nat → Option (Option (List (List Nat)))) (i : Nat) : Prop := jb i = some none ∧ σ.2.1 108 (16 * s + i) = 3 ∧ mSlot σ mN1 (27 + (16 * s + i)) (mt_tk (.leaf none) 0) ∨ ∃ ws, jb i = some (some ws) ∧ σ.2.1 108 (16 * s + i) = 1 ∧ wdU σ (16 * s + i) ws
theorem xJ.keep {σ σ' : mS} {s i n : Nat} {jb : Nat → Option (Option (List (List Nat)))} (h : xJ σ s jb i) (K : xK (16 * s + n) σ σ') (hi : i < n) (hn : n < 16) (hs : s < 6) : xJ σ' s jb i := by
  have e8 : σ'.2.1 108 (16 * s + i) = σ.2.1 108 (16 * s + i) := K.2.1 108 _ (by decide) (by unfold xB wdB; omega)
  rcases h with ⟨h1, h2, h3⟩ | ⟨ws, h1, h2, h3⟩
  · exact Or.inl ⟨h1, e8.trans h2, h3.keep K (by unfold xW; omega) (fun _ h => h.elim)⟩
  · exact Or.inr ⟨ws, h1, e8.trans h2, h3.keep K (fun b j hb hB => by unfold xB at hB; unfold wdB at hb hB; omega) (fun p hp hP => by unfold xP at hP; unfold wA at hp hP; omega)⟩
theorem sP_3 {σ : mS} {E : mEv} {s : Nat} {g : mPg} (h3 : gPh g = 3) (h : ∀ n, n < 16 → σ.2.1 108 (16 * s + n) ≠ 1) : sP σ E s g := ⟨fun e => absurd e (by omega), fun n hn _ => h n hn⟩
theorem fail_end {E : mEv} {s : Nat} {g : mPg} {σ0 σ2 : mS} (h3 : gPh g = 3) (K : yK s σ0 σ) (h28 : σ2.1 28 = 1) (h106 : σ2.2.1 106 s = 3) (K2 : yK s σ σ2) (h108 : ∀ n, n < 16 → σ2.2.1 108 (16 * s + n) = if σ.2.1 108 (16 * s + n) = 1 then 0 else σ.2.1 108 (16 * s + n))
    (H : ∀ σ', yK s σ0 σ' → sO σ' s g → sP σ' E s g → σ'.1 28 = iB (gPh g == 3) → Q none σ') : Q none σ2 := by
  refine H σ2 (K.tr K2) ⟨by rw [h3]; exact h106, fun e => absurd e (by omega)⟩ (sP_3 h3 (fun n hn => ?_)) (by rw [h3]; exact h28)
  rw [h108 n hn]
  split
  · decide
  · assumption
theorem t168_140 {E : mEv} {R : mRn} {s N : Nat} {σ0 : mS} {i2 : Int32} (hF : eF E) (hs : s < (eSp E).length) (hgd : ∀ p, mt_gd (aWh (eSt E s) (eTo E s) (sV E R) p)) (hpts : aPts (eSt E s) (eTo E s) (sV E R) = true) (hN : aJobs (sMe (eSt E s)) (aOv (eSt E s) (eTo E s)) (aWh (eSt E s) (eTo E s) (sV E R)) = some N)
    (H : ∀ σ', yK s σ0 σ' → sO σ' s (aXg E R s) → sP σ' E s (aXg E R s) → σ'.1 28 = iB (gPh (aXg E R s) == 3) → Q none σ') : ∀ (m n : Nat) (σ : mS), n + m = N → yK s σ0 σ → sE σ E → σ.1 44 = 0 → σ.1 28 = 0 → σ.2.1 106 s = 1 → σ.2.1 107 s = nI N → (∀ p, p < 4 → aBit (aOv (eSt E s) (eTo E s)) p = true → σ.2.1 112 (4 * s + p) = nI (aLen (aWh (eSt E s) (eTo E s) (sV E R)) p)) → (∀ p, p < (eTo E s).2.length → mSlot σ (xA s) (129 + p) (mt_tk (aWh (eSt E s) (eTo E s) (sV E R) p) 0)) → (∀ i, i < n → xJ σ s (aJb E R s) i) → (∀ i, n ≤ i → i < 16 → σ.2.1 108 (16 * s + i) ≠ 1) →
    mM X (d + 11) 168 140 [some (.ref 86), some (.int (nI s)), some (.int i2), some (.int (nI (aOv (eSt E s) (eTo E s)))), some (.int (nI N)), some (.int (nI n))] [] σ Q := by
  obtain ⟨f1, f2, f3, f4, f5⟩ := id hF
  have hs6 : s < 6 := by omega
  have ht := f4 s hs
  have ht4 : sTl (eSt E s) < 4 := by omega
  have hso := f1.2.1 s hs
  have hto := (f1.1 _ ht).1
  have hnp4 : (eTo E s).2.length ≤ 4 := f5 (sTl (eSt E s))
  have h16 := (aJobs_pos hN).1
  have ho : aOv (eSt E s) (eTo E s) < 16 := aOv_lt hso.2.2.2.2.1 hnp4
  have hwh : ∀ p, (eTo E s).2.length ≤ p → aWh (eSt E s) (eTo E s) (sV E R) p = .leaf none := fun p hp => by unfold aWh; rw [if_neg (by omega)]
  have bad : ∀ n, n < N → aJb E R s n = none → gPh (aXg E R s) = 3 := by
    intro n hn hj
    have : aExp (eSt E s) (eTo E s) (sV E R) = none := by
      cases e : aExp (eSt E s) (eTo E s) (sV E R) with
      | none => rfl
      | some M =>
        obtain ⟨_, z2, z3⟩ := aExp_iff.mp e
        rw [hN] at z2
        cases z2
        exact absurd hj (z3 n hn)
    unfold aXg; rw [this]; rfl
  intro m
  induction m with
  | zero =>
    intro n σ hm K hE h44 h28 h106 h107 h112 SP hj h1
    have e : n = N := by omega
    subst e
    have hex : aExp (eSt E s) (eTo E s) (sV E R) = some n := aExp_iff.mpr ⟨hpts, hN, fun i hi => by rcases hj i hi with ⟨z, _⟩ | ⟨_, z, _⟩ <;> (show aJb E R s i ≠ none; rw [z]; exact fun z => nomatch z)⟩
    have exg : aXg E R s = gSe (aX1 E R s n) := by unfold aXg; rw [hex]
    rw [exg] at H
    have hrs : ∀ i, i < n → (gRs (aX1 E R s n) i = some (.leaf none) ∧ σ.2.1 108 (16 * s + i) = 3 ∧ mSlot σ mN1 (27 + (16 * s + i)) (mt_tk (.leaf none) 0)) ∨ (gRs (aX1 E R s n) i = none ∧ σ.2.1 108 (16 * s + i) = 1 ∧ ∃ ws, gCm (aX1 E R s n) i = some ws ∧ wdU σ (16 * s + i) ws) := by
      intro i hi
      rcases hj i hi with ⟨z1, z2, z3⟩ | ⟨ws, z1, z2, z3⟩
      · exact Or.inl ⟨by show (if i < n ∧ aJb E R s i = some none then some (Lean.RArray.leaf none : mT) else none) = _; rw [if_pos ⟨hi, z1⟩], z2, z3⟩
      · refine Or.inr ⟨by show (if i < n ∧ aJb E R s i = some none then some (Lean.RArray.leaf none : mT) else none) = _; rw [if_neg (by rw [z1]; exact fun z => nomatch z.2)], z2, ws, ?_, z3⟩
        show (aJb E R s i).getD none = _
        rw [z1]; rfl
    have hlf : ∀ i, (gRs (aX1 E R s n) i).getD (.leaf none) = (.leaf none : mT) := by
      intro i
      show ((if i < n ∧ aJb E R s i = some none then some (Lean.RArray.leaf none : mT) else none)).getD (.leaf none) = _
      split <;> rfl
    obtain ⟨l1, l2, l3⟩ := aLvs_ok hgd ho hN
    have hl8 : ∀ p, aLen (aWh (eSt E s) (eTo E s) (sV E R)) p ≤ 8 := by
      intro p
      by_cases hl : mt_isL (aWh (eSt E s) (eTo E s) (sV E R) p) = true
      · exact ((mt_gl_list hl).mp (hgd p)).2.1
      · unfold aLen
        have : mt_els (aWh (eSt E s) (eTo E s) (sV E R) p) = [] := by
          cases hw : aWh (eSt E s) (eTo E s) (sV E R) p with
          | leaf x => rfl
          | branch a b c => rw [hw] at hl; exact absurd rfl hl
        rw [this]; exact Nat.zero_le _
    refine u168_140 ⟨fun _ => t193 (d := d + 9) hs6 h16 h107 (fun hall => ⟨_, rfl, fun g => absurd g (by decide), fun _ => ?_⟩) (fun hall => ⟨_, rfl, fun _ => ?_, fun g => absurd rfl g⟩), fun g => absurd (Int32.le_refl _) g⟩
    · have hA : gAll (aX1 E R s n) = true := by
        unfold gAll
        rw [List.all_eq_true]
        intro i hi
        have hi' : i < n := List.mem_range.mp hi
        rcases hrs i hi' with ⟨z, _⟩ | ⟨_, z, _⟩
        · rw [z]; rfl
        · rw [hall i hi'] at z; exact absurd z (by decide)
      have ese : gSe (aX1 E R s n) = if okB (gTr (aX1 E R s n)) = true then (2, gLv (aX1 E R s n), gN (aX1 E R s n), gCm (aX1 E R s n), gRs (aX1 E R s n), gTk (aX1 E R s n), gTr (aX1 E R s n)) else (3, (aX1 E R s n).2) := if_pos ⟨rfl, hA⟩
      refine t194 (X := X) (d := d + 4) (A := aW s) (E := E) (N := n) (ln := aLen (aWh (eSt E s) (eTo E s) (sV E R))) (rs := fun i => (gRs (aX1 E R s n) i).getD (.leaf none)) hE hs6 hso ht4 hnp4 (fun p _ _ => hl8 p) h112 h107 h16 (fun i => by rw [hlf]; decide) (fun i => by rw [hlf]; decide) l1 (fun i hi => ?_) (fun hok σ2 K2 h2 S2 => ⟨rfl, ?_⟩) (fun hok σ2 K2 h2 h3 h4 => ⟨rfl, ?_⟩)
      · rw [hlf]
        rcases hrs i hi with ⟨_, _, z⟩ | ⟨_, z, _⟩
        · exact z.weak (fun _ h => h.elim)
        · rw [hall i hi] at z; exact absurd z (by decide)
      · have K2' : yK s σ σ2 := K2.mono (fun _ h => h.elim) (fun b j h => by unfold eB at h; unfold yB; omega) (fun _ h => h.elim) (fun x h => by unfold yW; omega)
        rw [ese, if_pos (show okB (gTr (aX1 E R s n)) = true from okB_iff.mpr hok)] at H
        refine H σ2 (K.tr K2') ⟨h2, fun _ => S2⟩ ⟨fun e => absurd e (by show ¬ 2 = 1; decide), fun i hi _ => ?_⟩ ?_
        · rw [K2.2.1 108 _ (by decide) (by unfold eB; omega)]
          by_cases hin : i < n
          · rw [hall i hin]; decide
          · exact h1 i (by omega) hi
        · rw [K2'.1 28 |> fun _ => K2.1 28 id, h28]; rfl
      · have K2' : yK s σ σ2 := K2.mono (fun k h => Or.inr h) (fun b j h => by unfold fB at h; unfold yB; omega) (fun _ h => h.elim) (fun x h => by unfold yW; omega)
        rw [ese, if_neg (show ¬ okB (gTr (aX1 E R s n)) = true from fun z => hok (okB_iff.mp z))] at H
        exact fail_end (E := E) (g := (3, (aX1 E R s n).2)) rfl K h2 h3 K2' h4 H
    · have hA : ¬ gAll (aX1 E R s n) = true := by
        intro hA
        apply hall
        intro i hi
        unfold gAll at hA
        rw [List.all_eq_true] at hA
        have := hA i (List.mem_range.mpr hi)
        rcases hrs i hi with ⟨_, z, _⟩ | ⟨z, _, _⟩
        · exact z
        · rw [z] at this; exact absurd this (by decide)
      have ese : gSe (aX1 E R s n) = aX1 E R s n := if_neg (fun z => hA z.2)
      rw [ese] at H
      refine H σ K ⟨h106, fun e => absurd e (by show ¬ 1 = 2; decide)⟩ ⟨fun _ => ⟨h107, ⟨aLen (aWh (eSt E s) (eTo E s) (sV E R)), rfl, fun p hp hb => ⟨hl8 p, h112 p hp hb⟩⟩, fun i hi => ?_⟩, fun i hi hg => h1 i (hg rfl) hi⟩ (by rw [h28]; rfl)
      have hi' : i < n := hi
      refine ⟨by omega, ?_⟩
      rcases hrs i hi' with ⟨z1, z2, z3⟩ | ⟨z1, z2, ws, z3, z4⟩
      · refine ⟨by rw [jS_some z1]; exact z2, fun t ht => ?_, fun ht => absurd (z1.symm.trans ht) (fun z => nomatch z)⟩
        have := Option.some.inj (z1.symm.trans ht)
        subst this
        exact z3.weak (fun _ h => h.elim)
      · refine ⟨by rw [jS_none z1]; exact z2, fun t ht => absurd (z1.symm.trans ht) (fun z => nomatch z), fun _ ws' hw => ?_⟩
        have := Option.some.inj (z3.symm.trans hw)
        subst this
        exact z4
  | succ m ih =>
    intro n σ hm K hE h44 h28 h106 h107 h112 SP hj h1
    refine u168_140 (pk_le N n (fun g => absurd g (by omega)) (fun _ => ?_))
    have next : ∀ σ2, xK (16 * s + n) σ σ2 → σ2.1 44 = 0 → xJ σ2 s (aJb E R s) n → mM X (d + 11) 168 140 [some (.ref 86), some (.int (nI s)), some (.int i2), some (.int (nI (aOv (eSt E s) (eTo E s)))), some (.int (nI N)), some (.int (nI n + 1))] [] σ2 Q := by
      intro σ2 K2 h44' hx
      rw [nI_1]
      refine ih (n + 1) σ2 (by omega) (K.tr (K2.y (by omega))) (hE.xk K2) h44' ((K2.1 28 (by unfold xF; omega)).trans h28) ((K2.2.1 106 _ (by decide) (by unfold xB wdB; omega)).trans h106) ((K2.2.1 107 _ (by decide) (by unfold xB wdB; omega)).trans h107) (fun p hp hb => (K2.2.1 112 _ (by decide) (by unfold xB wdB; omega)).trans (h112 p hp hb)) (fun p hp => (SP p hp).keep K2 (by unfold xW; omega) (fun q hq hP => ?_)) (fun i hi => ?_) (fun i hi h16' => ?_)
      · unfold xA aW at hq; unfold xP wA at hP; omega
      · by_cases e : i = n
        · subst e; exact hx
        · exact (hj i (by omega)).keep K2 (by omega) (by omega) hs6
      · rw [K2.2.1 108 _ (by decide) (by unfold xB wdB; omega)]
        exact h1 i (by omega) h16'
    refine t176 (X := X) (d := d) (A := xA s) (E := E) (N := N) (wh := aWh (eSt E s) (eTo E s) (sV E R)) hE h44 hs6 hso ht4 hto hnp4 hN (by omega) hgd hwh (fun p hp => ⟨hp.1, fun z => hp.2 (wA_aW (by omega) z)⟩) SP ?_ ?_ ?_
    · intro hn σ2 K2 h44'
      refine ⟨_, rfl, fun g => absurd rfl g, fun _ => ?_⟩
      refine t173 (d := d + 9) hs6 (fun σ3 F3 => ⟨rfl, ?_⟩)
      exact fail_end (E := E) (bad n (by omega) hn) (K.tr (K2.y (by omega))) F3.2.1 F3.2.2.1 F3.y F3.2.2.2 H
    · intro hn σ2 K2 h44' h3 S2
      exact ⟨_, rfl, fun _ => next σ2 K2 h44' (Or.inl ⟨hn, h3, S2⟩), fun g => absurd g (by decide)⟩
    · intro ws hn σ2 K2 h44' h3 T2 h8
      exact ⟨_, rfl, fun _ => next σ2 K2 h44' (Or.inr ⟨ws, hn, h3, h8, T2⟩), fun g => absurd g (by decide)⟩
end RXP
