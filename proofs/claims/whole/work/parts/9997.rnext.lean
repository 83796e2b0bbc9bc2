/-! THE REFERENCE: what a step needs, and the next step -/
section RND
variable {X : List Int32} {d : Nat} {σ : mS} {Q : Option Value → mS → Prop}
def iB (b : Bool) : Int32 := if b = true then 1 else 0
theorem iB_t : iB true = 1 := rfl
theorem iB_f : iB false = 0 := rfl
theorem iB_0 {b : Bool} : iB b = 0 ↔ b = false := by cases b <;> decide
theorem iB_01 (b : Bool) : iB b = 0 ∨ iB b = 1 := by cases b <;> decide
def eF (E : mEv) : Prop := eOk E ∧ (eTl E).length ≤ 4 ∧ (eSp E).length ≤ 6 ∧ (∀ s, s < (eSp E).length → sTl (eSt E s) < (eTl E).length) ∧ ∀ i, (eTi E i).2.length ≤ 4
theorem aNd_iff {E : mEv} {s o : Nat} : aNd E s o = true ↔ ∃ p, p < (eTo E s).2.length ∧ 10 + o ∈ sSr (eSt E s) p := by
  unfold aNd
  rw [List.any_eq_true]
  constructor
  · rintro ⟨p, h1, h2⟩; exact ⟨p, List.mem_range.mp h1, List.contains_iff_mem.mp h2⟩
  · rintro ⟨p, h1, h2⟩; exact ⟨p, List.mem_range.mpr h1, List.contains_iff_mem.mpr h2⟩
theorem t164_32 {E : mEv} {s o p : Nat} {Y : Bool} (hs : s < 6) (hp : p < 4) (ho : o < 100) (l : List Nat) (h99 : σ.2.1 99 (4 * s + p) = nI l.length) (h100 : ∀ k (h : k < l.length), σ.2.1 100 (3 * (4 * s + p) + k) = nI l[k]) (h3 : l.length ≤ 3) (hc : ∀ c ∈ l, c < 16)
    (H : ∀ o6, mM X (d + 1) 164 5 [some (.ref 86), some (.int (nI s)), some (.int (nI o)), some (.int (iB Y)), some (.int (nI (p + 1))), some (.int (nI (4 * s + p))), o6] [] σ Q) : ∀ (m k : Nat) (y : Bool), k + m = l.length → (Y = true ↔ y = true ∨ 10 + o ∈ l.drop k) →
    mM X (d + 1) 164 32 [some (.ref 86), some (.int (nI s)), some (.int (nI o)), some (.int (iB y)), some (.int (nI p)), some (.int (nI (4 * s + p))), some (.int (nI k))] [] σ Q := by
  intro m
  induction m with
  | zero =>
    intro k y h hY
    have e : k = l.length := by omega
    subst e
    have ey : Y = y := by
      rw [List.drop_length] at hY
      cases Y <;> cases y <;> simp at hY ⊢
    subst ey
    refine u164_32 ⟨m_ix (by omega) (by decide), ?_⟩
    rw [mGet_e (by omega), h99, nI_1]
    exact ⟨fun _ => H _, fun g => absurd (Int32.le_refl _) g⟩
  | succ m ih =>
    intro k y h hY
    have hk : k < l.length := by omega
    have hck := hc _ (List.getElem_mem hk)
    rw [List.drop_eq_getElem_cons hk, List.mem_cons] at hY
    refine u164_32 ⟨m_ix (by omega) (by decide), ?_⟩
    rw [mGet_e (by omega), h99, nI_1, nI_1]
    refine pk_le l.length k (fun g => absurd g (by omega)) (fun _ => ⟨fun g => ?_, fun g => ?_⟩)
    · have ey : y = true := by
        cases y
        · exact absurd rfl g
        · rfl
      exact ih (k + 1) true (by omega) ⟨fun _ => Or.inl rfl, fun _ => hY.mpr (Or.inl ey)⟩
    · have ey := iB_0.mp g
      subst ey
      rw [show (3 : Int32) = nI 3 from rfl, pk_mul, nI_add]
      refine ⟨m_ix (by omega) (by decide), ?_⟩
      rw [mGet_e (by omega), h100 k hk, show (10 : Int32) = nI 10 from rfl, nI_add]
      refine pk_ne l[k] (10 + o) (fun e => ih (k + 1) true (by omega) ⟨fun _ => Or.inl rfl, fun _ => hY.mpr (Or.inr (Or.inl e.symm))⟩) (fun e => ih (k + 1) false (by omega) ?_)
      constructor
      · intro hy
        rcases hY.mp hy with z | z | z
        · exact Or.inl z
        · exact absurd z.symm e
        · exact Or.inr z
      · rintro (z | z)
        · exact hY.mpr (Or.inl z)
        · exact hY.mpr (Or.inr (Or.inr z))
theorem t164 {E : mEv} {s o : Nat} (hE : sE σ E) (hF : eF E) (hs : s < (eSp E).length) (ho : o < 100) (H : Q (some (.int (iB (aNd E s o)))) σ) : mM X (d + 1) 164 0 (mm_L0 164 [.ref 86, .int (nI s), .int (nI o)]) [] σ Q := by
  obtain ⟨f1, f2, f3, f4, f5⟩ := hF
  obtain ⟨_, _, e3, e4, _⟩ := id hE
  have hs6 : s < 6 := by omega
  obtain ⟨a1, _, _, _, a5⟩ := e4 s hs6
  have ht := f4 s hs
  have ht4 : sTl (eSt E s) < 4 := by omega
  obtain ⟨_, b2, _⟩ := e3 _ ht4
  have hn4 : (eTo E s).2.length ≤ 4 := f5 (sTl (eSt E s))
  have hso := f1.2.1 s hs
  have key : ∀ (m p : Nat) (y : Bool) (o5 o6 : Option Value), p + m = (eTo E s).2.length → (aNd E s o = true ↔ y = true ∨ ∃ q, p ≤ q ∧ q < (eTo E s).2.length ∧ 10 + o ∈ sSr (eSt E s) q) → mM X (d + 1) 164 5 [some (.ref 86), some (.int (nI s)), some (.int (nI o)), some (.int (iB y)), some (.int (nI p)), o5, o6] [] σ Q := by
    intro m
    induction m with
    | zero =>
      intro p y o5 o6 h hY
      refine u164_5 ⟨m_ix hs6 (by decide), ?_⟩
      rw [mGet_e (by omega), a1]
      refine ⟨m_ix ht4 (by decide), ?_⟩
      rw [mGet_e (by omega), b2]
      refine pk_le (eTo E s).2.length p (fun _ => ⟨iB_01 y, ?_⟩) (fun g => absurd g (by omega))
      have ey : aNd E s o = y := by
        cases e : aNd E s o <;> cases y <;> rw [e] at hY
        · exact absurd (hY.mpr (Or.inl rfl)) (by decide)
        · rcases hY.mp rfl with z | ⟨q, z1, z2, _⟩
          · exact absurd z (by decide)
          · omega
      rw [← ey]; exact H
    | succ m ih =>
      intro p y o5 o6 h hY
      obtain ⟨c1, c2, _⟩ := a5 p (by omega)
      have hsp := hso.1 p
      refine u164_5 ⟨m_ix hs6 (by decide), ?_⟩
      rw [mGet_e (by omega), a1]
      refine ⟨m_ix ht4 (by decide), ?_⟩
      rw [mGet_e (by omega), b2]
      refine pk_le (eTo E s).2.length p (fun g => absurd g (by omega)) (fun _ => ?_)
      rw [show (4 : Int32) = nI 4 from rfl, pk_mul, nI_add]
      refine t164_32 (E := E) (X := X) (d := d) (Y := y || (sSr (eSt E s) p).contains (10 + o)) hs6 (by omega) ho (sSr (eSt E s) p) c1 c2 hsp.1 (fun c hc => by have := hsp.2 c hc; omega) (fun o6 => ?_) _ 0 y (Nat.zero_add _) (by rw [Bool.or_eq_true, List.contains_iff_mem, List.drop_zero])
      refine ih (p + 1) _ _ _ (by omega) ?_
      rw [hY, Bool.or_eq_true, List.contains_iff_mem]
      constructor
      · rintro (z | ⟨q, z1, z2, z3⟩)
        · exact Or.inl (Or.inl z)
        · by_cases e : q = p
          · subst e; exact Or.inl (Or.inr z3)
          · exact Or.inr ⟨q, by omega, z2, z3⟩
      · rintro ((z | z) | ⟨q, z1, z2, z3⟩)
        · exact Or.inl z
        · exact Or.inr ⟨p, by omega, by omega, z⟩
        · exact Or.inr ⟨q, by omega, z2, z3⟩
  refine u164_0 (key _ 0 false none none (Nat.zero_add _) ?_)
  rw [aNd_iff]
  constructor
  · rintro ⟨p, h1, h2⟩; exact Or.inr ⟨p, Nat.zero_le _, h1, h2⟩
  · rintro (z | ⟨q, _, z2, z3⟩)
    · exact absurd z (by decide)
    · exact ⟨q, z2, z3⟩
theorem aCan_iff {E : mEv} {R : mRn} {s : Nat} : aCan E R s = true ↔ gPh (nPg R s) = 0 ∧ ∀ o, o < nKn R → aNd E s o = true → gPh (nPg R o) = 2 := by
  unfold aCan
  rw [Bool.and_eq_true, beq_iff_eq, List.all_eq_true]
  refine and_congr_right (fun _ => ⟨fun h o ho hn => ?_, fun h o ho => ?_⟩)
  · have := h o (List.mem_range.mpr ho)
    rw [hn, Bool.not_true, Bool.false_or, beq_iff_eq] at this
    exact this
  · cases e : aNd E s o
    · rfl
    · rw [h o (List.mem_range.mp ho) e]; rfl
theorem t167_27 {E : mEv} {R : mRn} {s : Nat} (hE : sE σ E) (hF : eF E) (hk : nKn R ≤ (eSp E).length) (h25 : σ.1 25 = nI (nKn R)) (h106 : ∀ s, s < 6 → σ.2.1 106 s = nI (gPh (nPg R s))) (h3 : ∀ s, gPh (nPg R s) ≤ 3) (hs : s < nKn R)
    (H1 : aCan E R s = true → Q (some (.int (nI s))) σ) (H0 : aCan E R s = false → ∀ o2 o3, mM X (d + 2) 167 2 [some (.ref 86), some (.int (nI (s + 1))), o2, o3] [] σ Q) : ∀ (m o : Nat) (y : Bool), o + m = nKn R → (aCan E R s = true ↔ y = true ∧ ∀ q, o ≤ q → q < nKn R → aNd E s q = true → gPh (nPg R q) = 2) →
    mM X (d + 2) 167 27 [some (.ref 86), some (.int (nI s)), some (.int (iB y)), some (.int (nI o))] [] σ Q := by
  have h6 := hF.2.2.1
  intro m
  induction m with
  | zero =>
    intro o y h hY
    have e : o = nKn R := by omega
    subst e
    refine u167_27 ?_
    rw [h25, nI_1]
    refine ⟨fun _ => ⟨fun g => H0 ?_ _ _, fun g => H1 (hY.mpr ⟨?_, fun q h1 h2 => absurd h2 (by omega)⟩)⟩, fun g => absurd (Int32.le_refl _) g⟩
    · rw [Bool.eq_false_iff]
      intro z
      have := (hY.mp z).1
      rw [iB_0.mp g] at this
      exact absurd this (by decide)
    · cases y
      · exact absurd rfl g
      · rfl
  | succ m ih =>
    intro o y h hY
    refine u167_27 ?_
    rw [h25, nI_1, nI_1]
    refine pk_le (nKn R) o (fun g => absurd g (by omega)) (fun _ => ⟨fun g => ?_, fun g => ?_⟩)
    · have ey := iB_0.mp g
      subst ey
      exact ih (o + 1) false (by omega) ⟨fun z => absurd (hY.mp z).1 (by decide), fun z => absurd z.1 (by decide)⟩
    · have ey : y = true := by
        cases y
        · exact absurd rfl g
        · rfl
      subst ey
      refine t164 (X := X) (d := d) hE hF (by omega) (by omega) ⟨_, rfl, ?_⟩
      have no : ¬ (aNd E s o = true → gPh (nPg R o) = 2) → mM X (d + 2) 167 27 [some (.ref 86), some (.int (nI s)), some (.int (iB false)), some (.int (nI (o + 1)))] [] σ Q := fun hn => ih (o + 1) false (by omega) ⟨fun z => absurd ((hY.mp z).2 o (Nat.le_refl _) (by omega)) hn, fun z => absurd z.1 (by decide)⟩
      have yes : (aNd E s o = true → gPh (nPg R o) = 2) → mM X (d + 2) 167 27 [some (.ref 86), some (.int (nI s)), some (.int (iB true)), some (.int (nI (o + 1)))] [] σ Q := fun hn => by
        refine ih (o + 1) true (by omega) ?_
        rw [hY]
        refine and_congr_right (fun _ => ⟨fun z q h1 h2 => z q (by omega) h2, fun z q h1 h2 => ?_⟩)
        by_cases e : q = o
        · subst e; exact hn
        · exact z q (by omega) h2
      refine ⟨fun g2 => yes (fun z => ?_), fun g2 => ⟨m_ix (by omega) (by decide), ?_⟩⟩
      · rw [iB_0.mp g2] at z; exact absurd z (by decide)
      · have en : aNd E s o = true := by
          cases e : aNd E s o
          · rw [e] at g2; exact absurd rfl g2
          · rfl
        rw [mGet_e (by omega), h106 o (by omega)]
        have := h3 o
        exact pk_ne (gPh (nPg R o)) 2 (fun z => yes (fun _ => z)) (fun z => no (fun w => z (w en)))
theorem t167 {E : mEv} {R : mRn} (hE : sE σ E) (hF : eF E) (hk : nKn R ≤ (eSp E).length) (h25 : σ.1 25 = nI (nKn R)) (h106 : ∀ s, s < 6 → σ.2.1 106 s = nI (gPh (nPg R s))) (h3 : ∀ s, gPh (nPg R s) ≤ 3)
    (H : Q (some (.int (match aNx E R with | some s => nI s | none => -1))) σ) : mM X (d + 2) 167 0 (mm_L0 167 [.ref 86]) [] σ Q := by
  have h6 := hF.2.2.1
  have key : ∀ (m s : Nat) (o2 o3 : Option Value), s + m = nKn R → (∀ j, j < s → aCan E R j = false) → mM X (d + 2) 167 2 [some (.ref 86), some (.int (nI s)), o2, o3] [] σ Q := by
    intro m
    induction m with
    | zero =>
      intro s o2 o3 h hj
      have e : s = nKn R := by omega
      subst e
      refine u167_2 ?_
      rw [h25]
      refine ⟨fun _ => ?_, fun g => absurd (Int32.le_refl _) g⟩
      have en : aNx E R = none := by
        unfold aNx
        rw [List.find?_eq_none]
        intro x hx
        rw [hj x (List.mem_range.mp hx)]; decide
      rw [en] at H; exact H
    | succ m ih =>
      intro s o2 o3 h hj
      have hs3 := h3 s
      refine u167_2 ?_
      rw [h25]
      refine pk_le (nKn R) s (fun g => absurd g (by omega)) (fun _ => ⟨m_ix (by omega) (by decide), ?_⟩)
      rw [mGet_e (by omega), h106 s (by omega)]
      have go : ∀ y, (y = true ↔ gPh (nPg R s) = 0) → mM X (d + 2) 167 27 [some (.ref 86), some (.int (nI s)), some (.int (iB y)), some (.int (nI 0))] [] σ Q := by
        intro y hy
        refine t167_27 (X := X) (d := d) (E := E) (R := R) hE hF hk h25 h106 h3 (by omega) (fun hc => ?_) (fun hc o2 o3 => ?_) (nKn R) 0 y (Nat.zero_add _) ?_
        · have en : aNx E R = some s := by
            unfold aNx
            rw [List.find?_range_eq_some]
            refine ⟨hc, List.mem_range.mpr (by omega), fun j hj' => ?_⟩
            rw [hj j hj']; rfl
          rw [en] at H; exact H
        · refine ih (s + 1) o2 o3 (by omega) (fun j hj' => ?_)
          by_cases e : j = s
          · subst e; exact hc
          · exact hj j (by omega)
        · rw [aCan_iff, hy]
          exact and_congr_right (fun _ => ⟨fun z q _ => z q, fun z q => z q (Nat.zero_le _)⟩)
      exact pk_ne (gPh (nPg R s)) 0 (fun e => go true (by simp [e])) (fun e => go false (by simp [e]))
  exact u167_0 (key _ 0 none none (Nat.zero_add _) (fun j hj => absurd hj (Nat.not_lt_zero _)))
end RND
