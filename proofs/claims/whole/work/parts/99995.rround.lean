/-! THE REFERENCE: is there a round -/
section RRD
variable {X : List Int32} {d : Nat} {σ : mS} {Q : Option Value → mS → Prop}
theorem aFs_mono {E : mEv} {f : Nat → Bool} {s x : Nat} (h : f x = true) : aFs E f s x = true := by
  unfold aFs
  split
  · by_cases e : x = s
    · subst e; exact up_eq _ _ _
    · rw [up_ne e]; exact h
  · exact h
theorem aFs_out {E : mEv} {f : Nat → Bool} {s x : Nat} (h : x ≠ s) : aFs E f s x = f x := by
  unfold aFs
  split
  · exact up_ne h
  · rfl
theorem fold_mono {E : mEv} {x : Nat} : ∀ (l : List Nat) (f : Nat → Bool), f x = true → l.foldl (aFs E) f x = true
  | [], f, h => h
  | s :: l, f, h => fold_mono l _ (aFs_mono h)
theorem fold_out {E : mEv} {x : Nat} : ∀ (l : List Nat) (f : Nat → Bool), x ∉ l → l.foldl (aFs E) f x = f x
  | [], f, h => rfl
  | s :: l, f, h => (fold_out l _ (fun z => h (List.mem_cons_of_mem _ z))).trans (aFs_out (fun e => h (by rw [e]; exact List.mem_cons_self)))
theorem aFr_mono {E : mEv} {f : Nat → Bool} {x : Nat} (h : f x = true) : aFr E f x = true := fold_mono _ f h
theorem aFr_out {E : mEv} {f : Nat → Bool} {x : Nat} (h : (eSp E).length ≤ x) : aFr E f x = f x := fold_out _ f (fun z => by have := List.mem_range.mp z; omega)
theorem aFn_up {E : mEv} {x n : Nat} : ∀ k, aFn E n x = true → aFn E (n + k) x = true
  | 0, h => h
  | k + 1, h => aFr_mono (aFn_up k h)
theorem aFn_st {E : mEv} {n : Nat} (h : aFr E (aFn E n) = aFn E n) : ∀ k, aFn E (n + k) = aFn E n
  | 0 => rfl
  | k + 1 => by
    show aFr E (aFn E (n + k)) = _
    rw [aFn_st h k, h]
def fC (E : mEv) (f : Nat → Bool) : Nat := ((List.range (eSp E).length).filter f).length
theorem fC_lt {E : mEv} {f : Nat → Bool} (h : aFr E f ≠ f) : fC E f < fC E (aFr E f) := by
  have ex : ∃ s, s < (eSp E).length ∧ f s = false ∧ aFr E f s = true := by
    apply Classical.byContradiction
    intro hc
    apply h
    funext x
    by_cases hx : x < (eSp E).length
    · cases hf : f x
      · cases ha : aFr E f x
        · rfl
        · exact absurd ⟨x, hx, hf, ha⟩ hc
      · exact aFr_mono hf
    · exact aFr_out (by omega)
  obtain ⟨s, h1, h2, h3⟩ := ex
  exact (filter_lt (p := aFr E f) (q := f) (s := s) (fun x hx => aFr_mono hx) h3 h2 _).2 (List.mem_range.mpr h1)
theorem aFn_cnt {E : mEv} : ∀ n, (∃ i, i ≤ n ∧ aFr E (aFn E i) = aFn E i) ∨ n ≤ fC E (aFn E n)
  | 0 => Or.inr (Nat.zero_le _)
  | n + 1 => by
    rcases aFn_cnt (E := E) n with ⟨i, h1, h2⟩ | h
    · exact Or.inl ⟨i, by omega, h2⟩
    · by_cases e : aFr E (aFn E n) = aFn E n
      · exact Or.inl ⟨n, by omega, e⟩
      · right
        have := fC_lt e
        show n + 1 ≤ fC E (aFr E (aFn E n))
        omega
theorem aRound_6 {E : mEv} (h6 : (eSp E).length ≤ 6) : aRound E = false ↔ ∀ s, s < (eSp E).length → aFn E 6 s = true := by
  have e1 : aRound E = false ↔ ∀ s, s < (eSp E).length → aFn E (eSp E).length s = true := by
    unfold aRound
    rw [Bool.not_eq_false', List.all_eq_true]
    exact ⟨fun h s hs => h s (List.mem_range.mpr hs), fun h s hs => h s (List.mem_range.mp hs)⟩
  rw [e1]
  have up6 : ∀ s, aFn E (eSp E).length s = true → aFn E 6 s = true := fun s h => by
    have := aFn_up (6 - (eSp E).length) h
    rw [show (eSp E).length + (6 - (eSp E).length) = 6 by omega] at this
    exact this
  constructor
  · exact fun h s hs => up6 s (h s hs)
  · intro h s hs
    rcases aFn_cnt (E := E) (eSp E).length with ⟨i, h1, h2⟩ | h1
    · have a := aFn_st h2 ((eSp E).length - i)
      have b := aFn_st h2 (6 - i)
      rw [show i + ((eSp E).length - i) = (eSp E).length by omega] at a
      rw [show i + (6 - i) = 6 by omega] at b
      rw [a, ← b]; exact h s hs
    · have h2 : ((List.range (eSp E).length).filter (aFn E (eSp E).length)).length = (List.range (eSp E).length).length := by
        have := List.length_filter_le (aFn E (eSp E).length) (List.range (eSp E).length)
        unfold fC at h1
        rw [List.length_range] at this ⊢
        omega
      exact (List.length_filter_eq_length_iff.mp h2) s (List.mem_range.mpr hs)
theorem t165_26 {E : mEv} {s : Nat} {f : Nat → Bool} {i2 : Int32} (hE : sE σ E) (hF : eF E) (hm : ∀ o, o < 6 → aNd E s o = true → o < (eSp E).length) (hs : s < (eSp E).length)
    (H : ∀ o4 o5, mM X (d + 2) 165 12 [some (.ref 86), some (.int (nI (bM (aFs E f s)))), some (.int i2), some (.int (nI (s + 1))), o4, o5] [] σ Q) : ∀ (m o : Nat) (y : Bool), o + m = (eSp E).length → ((List.range 6).all (fun o => !aNd E s o || f o) = true ↔ y = true ∧ ∀ q, o ≤ q → q < (eSp E).length → aNd E s q = true → f q = true) →
    mM X (d + 2) 165 26 [some (.ref 86), some (.int (nI (bM f))), some (.int i2), some (.int (nI s)), some (.int (iB y)), some (.int (nI o))] [] σ Q := by
  have h6 := hF.2.2.1
  have h12 : σ.1 12 = nI (eSp E).length := hE.2.1
  intro m
  induction m with
  | zero =>
    intro o y h hY
    have e : o = (eSp E).length := by omega
    subst e
    have hy : (List.range 6).all (fun o => !aNd E s o || f o) = true ↔ y = true := hY.trans ⟨fun z => z.1, fun z => ⟨z, fun q h1 h2 => absurd h2 (by omega)⟩⟩
    refine u165_26 ?_
    rw [h12, nI_1]
    refine ⟨fun _ => ⟨fun g => ?_, fun g => ?_⟩, fun g => absurd (Int32.le_refl _) g⟩
    · have ey := iB_0.mp g
      have ef : aFs E f s = f := by unfold aFs; rw [if_neg (fun z => by have := hy.mp z; rw [ey] at this; exact absurd this (by decide))]
      rw [ef] at H; exact H _ _
    · have ey : y = true := by
        cases y
        · exact absurd rfl g
        · rfl
      have ef : aFs E f s = up f s true := by unfold aFs; rw [if_pos (hy.mpr ey)]
      rw [ef] at H
      rw [bM_or (by omega)]; exact H _ _
  | succ m ih =>
    intro o y h hY
    refine u165_26 ?_
    rw [h12]
    refine pk_le (eSp E).length o (fun g => absurd g (by omega)) (fun _ => ⟨fun g => ?_, fun g => ?_⟩)
    · have ey := iB_0.mp g
      subst ey
      rw [nI_1]
      exact ih (o + 1) false (by omega) ⟨fun z => absurd (hY.mp z).1 (by decide), fun z => absurd z.1 (by decide)⟩
    · have ey : y = true := by
        cases y
        · exact absurd rfl g
        · rfl
      subst ey
      have no : ¬ (aNd E s o = true → f o = true) → mM X (d + 2) 165 26 [some (.ref 86), some (.int (nI (bM f))), some (.int i2), some (.int (nI s)), some (.int (iB false)), some (.int (nI (o + 1)))] [] σ Q := fun hn => ih (o + 1) false (by omega) ⟨fun z => absurd ((hY.mp z).2 o (Nat.le_refl _) (by omega)) hn, fun z => absurd z.1 (by decide)⟩
      have yes : (aNd E s o = true → f o = true) → mM X (d + 2) 165 26 [some (.ref 86), some (.int (nI (bM f))), some (.int i2), some (.int (nI s)), some (.int (iB true)), some (.int (nI (o + 1)))] [] σ Q := fun hn => by
        refine ih (o + 1) true (by omega) ?_
        rw [hY]
        refine and_congr_right (fun _ => ⟨fun z q h1 h2 => z q (by omega) h2, fun z q h1 h2 => ?_⟩)
        by_cases e : q = o
        · subst e; exact hn
        · exact z q (by omega) h2
      refine t164 (X := X) (d := d) hE hF hs (by omega) ⟨_, rfl, ?_⟩
      rw [nI_1]
      refine ⟨fun g2 => yes (fun z => ?_), fun g2 => ?_⟩
      · rw [iB_0.mp g2] at z; exact absurd z (by decide)
      · have en : aNd E s o = true := by
          cases e : aNd E s o
          · rw [e] at g2; exact absurd rfl g2
          · rfl
        exact ⟨fun z => no (fun w => z ((bM_bit (by omega)).mpr (w en))), fun z => yes (fun _ => (bM_bit (by omega)).mp z)⟩
theorem t165 {E : mEv} (hE : sE σ E) (hF : eF E) (hm : aMiss E = false) (H : Q (some (.int (iB (aRound E)))) σ) : mM X (d + 2) 165 0 (mm_L0 165 [.ref 86]) [] σ Q := by
  have h6 := hF.2.2.1
  have h12 : σ.1 12 = nI (eSp E).length := hE.2.1
  have hm' : ∀ s o, s < (eSp E).length → o < 6 → aNd E s o = true → o < (eSp E).length := by
    intro s o hs ho hn
    apply Classical.byContradiction
    intro hc
    have : aMiss E = true := by
      unfold aMiss
      rw [List.any_eq_true]
      refine ⟨s, List.mem_range.mpr hs, ?_⟩
      rw [List.any_eq_true]
      refine ⟨o, List.mem_range.mpr ho, ?_⟩
      rw [hn, Bool.true_and, Nat.ble_eq]; omega
    rw [this] at hm; exact absurd hm (by decide)
  have inner : ∀ (f : Nat → Bool) (i2 : Int32) (H2 : ∀ o3 o4 o5, mM X (d + 2) 165 4 [some (.ref 86), some (.int (nI (bM (aFr E f)))), some (.int (i2 + 1)), o3, o4, o5] [] σ Q) (m s : Nat) (o4 o5 : Option Value), s + m = (eSp E).length → mM X (d + 2) 165 12 [some (.ref 86), some (.int (nI (bM ((List.range s).foldl (aFs E) f)))), some (.int i2), some (.int (nI s)), o4, o5] [] σ Q := by
    intro f i2 H2 m
    induction m with
    | zero =>
      intro s o4 o5 h
      have e : s = (eSp E).length := by omega
      subst e
      refine u165_12 ?_
      rw [h12]
      exact ⟨fun _ => H2 _ _ _, fun g => absurd (Int32.le_refl _) g⟩
    | succ m ih =>
      intro s o4 o5 h
      refine u165_12 ?_
      rw [h12]
      refine pk_le (eSp E).length s (fun g => absurd g (by omega)) (fun _ => ?_)
      refine t165_26 (X := X) (d := d) hE hF (fun o ho => hm' s o (by omega) ho) (by omega) (fun o4 o5 => ?_) (eSp E).length 0 true (Nat.zero_add _) ?_
      · have := ih (s + 1) o4 o5 (by omega)
        rw [List.range_succ, List.foldl_append] at this
        exact this
      · rw [List.all_eq_true]
        constructor
        · intro z
          refine ⟨rfl, fun q _ hq hn => ?_⟩
          have := z q (List.mem_range.mpr (by omega))
          rw [hn, Bool.not_true, Bool.false_or] at this
          exact this
        · rintro ⟨_, z⟩ q hq
          cases en : aNd E s q
          · rfl
          · rw [z q (Nat.zero_le _) (hm' s q (by omega) (List.mem_range.mp hq) en) en]; rfl
  have outer : ∀ (m r : Nat) (o3 o4 o5 : Option Value), r + m = 6 → mM X (d + 2) 165 4 [some (.ref 86), some (.int (nI (bM (aFn E r)))), some (.int (nI r)), o3, o4, o5] [] σ Q := by
    intro m
    induction m with
    | zero =>
      intro r o3 o4 o5 h
      have e : r = 6 := by omega
      subst e
      refine u165_4 ?_
      rw [h12, bM_all _ (by omega)]
      have key : nI (bM (aFn E 6)) = nI (bM (fun o => Nat.blt o (eSp E).length)) ↔ aRound E = false := by
        rw [bM_inj, aRound_6 h6]
        constructor
        · intro h s hs
          rw [h s (by omega), Nat.blt_eq]; exact hs
        · intro h o ho
          by_cases hl : o < (eSp E).length
          · rw [h o hl]; exact (Nat.blt_eq.mpr hl).symm
          · have e0 : ∀ n, aFn E n o = false := by
              intro n
              induction n with
              | zero => rfl
              | succ n ih => exact (aFr_out (by omega)).trans ih
            rw [e0]
            cases hb : Nat.blt o (eSp E).length
            · rfl
            · exact absurd (Nat.blt_eq.mp hb) hl
      refine ⟨fun _ => ⟨fun g => ?_, fun g => ?_⟩, fun g => absurd (by decide) g⟩
      · rw [key.mp g] at H; exact H
      · have : aRound E = true := by
          cases e : aRound E
          · exact absurd (key.mpr e) g
          · rfl
        rw [this] at H; exact H
    | succ m ih =>
      intro r o3 o4 o5 h
      refine u165_4 (pk_le 6 r (fun g => absurd g (by omega)) (fun _ => ?_))
      refine inner (aFn E r) (nI r) (fun o3 o4 o5 => ?_) (eSp E).length 0 _ _ (Nat.zero_add _)
      rw [nI_1]
      exact ih (r + 1) o3 o4 o5 (by omega)
  exact u165_0 (outer 6 0 none none none rfl)
end RRD
