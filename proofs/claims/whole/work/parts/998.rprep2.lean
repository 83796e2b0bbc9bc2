/-! THE REFERENCE: a job prepared; failing; all through -/
section RPS
variable {X : List Int32} {d : Nat} {σ : mS} {Q : Option Value → mS → Prop} {A : Nat → Prop}
theorem t176 {E : mEv} {s n N : Nat} {wh : Nat → mT} (hE : sE σ E) (h44 : σ.1 44 = 0) (hs : s < 6) (hso : sOk (eSt E s)) (ht4 : sTl (eSt E s) < 4) (hto : tOk (eTo E s)) (hnp4 : (eTo E s).2.length ≤ 4) (hN : aJobs (sMe (eSt E s)) (aOv (eSt E s) (eTo E s)) wh = some N) (hn : n < N) (hg : ∀ p, mt_gd (wh p)) (hwh : ∀ p, (eTo E s).2.length ≤ p → wh p = .leaf none) (hA : ∀ p, A p → p < 19032 ∧ ¬ wA (16 * s + n) p) (SP : ∀ p, p < (eTo E s).2.length → mSlot σ A (129 + p) (mt_tk (wh p) 0))
    (HF : aJob (eSt E s) (eTo E s) wh n = none → ∀ σ', xK (16 * s + n) σ σ' → σ'.1 44 = 0 → Q (some (.int 0)) σ')
    (HS : aJob (eSt E s) (eTo E s) wh n = some none → ∀ σ', xK (16 * s + n) σ σ' → σ'.1 44 = 0 → σ'.2.1 108 (16 * s + n) = 3 → mSlot σ' mN1 (27 + (16 * s + n)) (mt_tk (.leaf none) 0) → Q (some (.int 1)) σ')
    (HC : ∀ ws, aJob (eSt E s) (eTo E s) wh n = some (some ws) → ∀ σ', xK (16 * s + n) σ σ' → σ'.1 44 = 0 → σ'.2.1 108 (16 * s + n) = 1 → wdT σ' (16 * s + n) ws → ws.length ≤ 8 → Q (some (.int 1)) σ') : mM X (d + 10) 176 0 (mm_L0 176 [.ref 86, .int (nI s), .int (nI n), .int (nI (aOv (eSt E s) (eTo E s)))]) [] σ Q := by
  obtain ⟨_, _, e3, e4, _⟩ := id hE
  obtain ⟨a1, a2, a3, _⟩ := e4 s hs
  obtain ⟨b1, b2, _⟩ := e3 _ ht4
  have h16 := (aJobs_pos hN).1
  have ho := aOv_lt hso.2.2.2.2.1 hnp4
  refine u176_0 ⟨m_ix hs (by decide), ?_⟩
  rw [mGet_e (by omega), a1]
  refine ⟨m_ix ht4 (by decide), ?_⟩
  rw [mGet_e (by omega), b2]
  have eJ : aJob (eSt E s) (eTo E s) wh n = if aAll (eSt E s) (eTo E s).2.length (aBf (sMe (eSt E s)) (aOv (eSt E s) (eTo E s)) wh n) = true then (aCo (eSt E s) (aAo (eSt E s) (eTo E s).2.length (aBf (sMe (eSt E s)) (aOv (eSt E s) (eTo E s)) wh n))).bind (fun c => if aOff c = true then some none else (aCmd (eTo E s).2 (aAo (eSt E s) (eTo E s).2.length (aBf (sMe (eSt E s)) (aOv (eSt E s) (eTo E s)) wh n))).map some) else none := rfl
  rw [eJ] at HF HS HC
  refine t176_16 (X := X) (d := d + 5) (A := A) (me := sMe (eSt E s)) (N := N) (wh := wh) (np := (eTo E s).2.length) hs hso.2.2.2.2.2 ho hnp4 hN hn hg (fun p hp hb => aBit_ge hnp4 hp hb) hwh 4 0 σ none (by omega) a3 SP (fun i hi => absurd hi (Nat.not_lt_zero _)) (fun σ1 o6 K1 SJ => ?_)
  have K1x : xK (16 * s + n) σ σ1 := K1.mono (fun _ h => h.elim) (fun _ _ h => h.elim) (fun _ h => h.elim) (fun x h => Or.inl (by omega))
  refine t176_147 (X := X) (d := d) (σ := σ) (A := A) (np := (eTo E s).2.length) (bf := aBf (sMe (eSt E s)) (aOv (eSt E s) (eTo E s)) wh n) hs (by omega) hso ht4 hto rfl hnp4 (fun p => aBf_gd hg) hA ?_ ?_ ?_ 4 0 σ1 o6 (by omega) (hE.xk K1x) ?_ K1x SJ (fun i hi => absurd hi (Nat.not_lt_zero _))
  · intro h σ' K' h44'
    refine HF ?_ σ' K' h44'
    rcases h with ⟨p, hp, h⟩ | ⟨h1, h2⟩
    · rw [if_neg (fun g => (aAll_iff.mp g) p hp h)]
    · rw [if_pos (aAll_iff.mpr h1)]; exact h2
  · intro h1 h2 σ' K' h44' a b
    exact HS (by rw [if_pos (aAll_iff.mpr h1)]; exact h2) σ' K' h44' a b
  · intro h1 ws h2 σ' K' h44' a b c
    exact HC ws (by rw [if_pos (aAll_iff.mpr h1)]; exact h2) σ' K' h44' a b c
  · rw [K1.1 44 id]; exact h44
/-- fail -/
def fB (s b j : Nat) : Prop := b = 106 ∧ j = s ∨ b = 108 ∧ 16 * s ≤ j ∧ j < 16 * s + 16
def fF (σ σ' : mS) (s : Nat) : Prop := mKp (fun k => k = 28) (fB s) mN1 mN1 σ σ' ∧ σ'.1 28 = 1 ∧ σ'.2.1 106 s = 3 ∧ ∀ n, n < 16 → σ'.2.1 108 (16 * s + n) = if σ.2.1 108 (16 * s + n) = 1 then 0 else σ.2.1 108 (16 * s + n)
theorem uI_kp {σ : mS} {a i : Nat} {v : Int32} (ha : a ≠ 90) {F : Nat → Prop} {B : Nat → Nat → Prop} {P W : Nat → Prop} (hB : B a i) : mKp F B P W σ (uI σ a i v) := by
  refine ⟨fun _ _ => rfl, fun b j hb h => ?_, fun _ _ => rfl, fun s hs _ => ⟨?_, fun _ _ => rfl⟩⟩
  · show (if b = a ∧ j = i then v else σ.2.1 b j) = σ.2.1 b j
    rw [if_neg (fun e => by obtain ⟨rfl, rfl⟩ := e; exact h hB)]
  · show (if 90 = a ∧ s = i then v else σ.2.1 90 s) = σ.2.1 90 s
    rw [if_neg (fun e => ha e.1.symm)]
theorem uI_at {σ : mS} {a i b j : Nat} {v : Int32} : (uI σ a i v).2.1 b j = if b = a ∧ j = i then v else σ.2.1 b j := rfl
theorem t173_17 {s : Nat} (hs : s < 6) {σ0 : mS} (H : ∀ σ', mKp mN1 (fun b j => b = 108 ∧ 16 * s ≤ j ∧ j < 16 * s + 16) mN1 mN1 σ0 σ' → (∀ n, n < 16 → σ'.2.1 108 (16 * s + n) = if σ0.2.1 108 (16 * s + n) = 1 then 0 else σ0.2.1 108 (16 * s + n)) → Q none σ') : ∀ (m n : Nat) (σ : mS), n + m = 16 → mKp mN1 (fun b j => b = 108 ∧ 16 * s ≤ j ∧ j < 16 * s + 16) mN1 mN1 σ0 σ → (∀ i, i < 16 → σ.2.1 108 (16 * s + i) = if i < n ∧ σ0.2.1 108 (16 * s + i) = 1 then 0 else σ0.2.1 108 (16 * s + i)) →
    mM X (d + 1) 173 17 [some (.ref 86), some (.int (nI s)), some (.int (nI (16 * s + n)))] [] σ Q := by
  have e16 : ((16 : Int32) * nI s) + (16 : Int32) = nI (16 * s + 16) := by rw [show (16 : Int32) = nI 16 from rfl, pk_mul, nI_add]
  intro m
  induction m with
  | zero =>
    intro n σ hm K hx
    have e : n = 16 := by omega
    subst e
    refine u173_17 ?_
    rw [e16]
    refine ⟨fun _ => H σ K (fun i hi => ?_), fun g => absurd (Int32.le_refl _) g⟩
    rw [hx i hi]
    by_cases h : σ0.2.1 108 (16 * s + i) = 1
    · rw [if_pos ⟨hi, h⟩, if_pos h]
    · rw [if_neg (fun g => h g.2), if_neg h]
  | succ m ih =>
    intro n σ hm K hx
    have hx' := hx n (by omega)
    rw [if_neg (fun g => Nat.lt_irrefl _ g.1)] at hx'
    have put : ∀ v : Int32, v = (if σ0.2.1 108 (16 * s + n) = 1 then 0 else σ0.2.1 108 (16 * s + n)) → mM X (d + 1) 173 17 [some (.ref 86), some (.int (nI s)), some (.int (nI (16 * s + n) + 1))] [] (uI σ 108 (16 * s + n) v) Q := by
      intro v ev
      rw [nI_1]
      refine ih (n + 1) _ (by omega) (K.tr (uI_kp (by decide) ⟨rfl, by omega, by omega⟩)) (fun i hi => ?_)
      rw [uI_at]
      by_cases e : i = n
      · subst e
        rw [if_pos ⟨rfl, rfl⟩, ev]
        by_cases h : σ0.2.1 108 (16 * s + i) = 1
        · rw [if_pos h, if_pos ⟨by omega, h⟩]
        · rw [if_neg h, if_neg (fun g => h g.2)]
      · rw [if_neg (by omega), hx i hi]
        by_cases h : i < n ∧ σ0.2.1 108 (16 * s + i) = 1
        · rw [if_pos h, if_pos ⟨by omega, h.2⟩]
        · rw [if_neg h, if_neg (fun g => h ⟨by omega, g.2⟩)]
    refine u173_17 ?_
    rw [e16]
    refine pk_le (16 * s + 16) (16 * s + n) (fun g => absurd g (by omega)) (fun _ => ⟨m_ix (by omega) (by decide), ?_⟩)
    rw [mGet_e (by omega), hx']
    refine ⟨fun h => ⟨m_ix (by omega) (by decide), m_ix (by omega) (by decide), ?_⟩, fun h => ⟨m_ix (by omega) (by decide), ?_⟩⟩
    · rintro σ4 rfl
      rw [uI_e (by omega)]
      exact put _ (by rw [if_neg h])
    · rintro σ4 rfl
      rw [uI_e (by omega)]
      exact put _ (by rw [if_pos h])
theorem t173 {s : Nat} (hs : s < 6) (H : ∀ σ', fF σ σ' s → Q none σ') : mM X (d + 1) 173 0 (mm_L0 173 [.ref 86, .int (nI s)]) [] σ Q := by
  refine u173_0 ?_
  rintro σ1 rfl
  refine ⟨m_ix hs (by decide), ?_⟩
  rintro σ3 rfl
  rw [uI_e (by omega), show (16 : Int32) = nI 16 from rfl, pk_mul]
  refine t173_17 (σ0 := uI (mSet σ 28 1) 106 s 3) hs (fun σ' K h => H σ' ⟨?_, ?_, ?_, fun n hn => ?_⟩) 16 0 _ (by omega) mKp.rf (fun i hi => by rw [if_neg (fun g => Nat.not_lt_zero _ g.1)])
  · refine ((setK (k := 28) (v := 1)).mono (fun _ h => h) (fun _ _ h => h.elim) (fun _ h => h) (fun _ h => h)).tr ((uI_kp (by decide) (Or.inl ⟨rfl, rfl⟩)).tr (K.mono (fun _ h => h.elim) (fun b j h => Or.inr h) (fun _ h => h) (fun _ h => h)))
  · rw [K.1 28 id]; rfl
  · rw [K.2.1 106 s (by decide) (fun h => absurd h.1 (by decide)), uI_at, if_pos ⟨rfl, rfl⟩]
  · rw [h n hn]; rfl
/-- isThrough -/
theorem t193_4 {s N : Nat} (hs : s < 6) (hN : N ≤ 16) (h107 : σ.2.1 107 s = nI N) (H1 : (∀ n, n < N → σ.2.1 108 (16 * s + n) = 3) → Q (some (.int 1)) σ) (H0 : ¬ (∀ n, n < N → σ.2.1 108 (16 * s + n) = 3) → Q (some (.int 0)) σ) : ∀ (m n : Nat) (b : Int32), n + m = N → (b = 1 ∧ (∀ i, i < n → σ.2.1 108 (16 * s + i) = 3) ∨ b = 0 ∧ ¬ (∀ i, i < N → σ.2.1 108 (16 * s + i) = 3)) →
    mM X (d + 1) 193 4 [some (.ref 86), some (.int (nI s)), some (.int b), some (.int (nI n))] [] σ Q := by
  intro m
  induction m with
  | zero =>
    intro n b hm hb
    have e : n = N := by omega
    subst e
    refine u193_4 ⟨m_ix hs (by decide), ?_⟩
    rw [mGet_e (by omega), h107]
    refine ⟨fun _ => ?_, fun g => absurd (Int32.le_refl _) g⟩
    rcases hb with ⟨rfl, h⟩ | ⟨rfl, h⟩
    · exact ⟨Or.inr rfl, H1 h⟩
    · exact ⟨Or.inl rfl, H0 h⟩
  | succ m ih =>
    intro n b hm hb
    refine u193_4 ⟨m_ix hs (by decide), ?_⟩
    rw [mGet_e (by omega), h107]
    refine pk_le N n (fun g => absurd g (by omega)) (fun _ => ?_)
    rw [nI_1]
    rcases hb with ⟨rfl, h⟩ | ⟨rfl, h⟩
    · refine ⟨fun g => absurd g (by decide), fun _ => ?_⟩
      rw [show (16 : Int32) = nI 16 from rfl, pk_mul, nI_add]
      refine ⟨m_ix (by omega) (by decide), ?_⟩
      rw [mGet_e (by omega)]
      refine ⟨fun g => ih (n + 1) 0 (by omega) (Or.inr ⟨rfl, fun z => g (z n (by omega))⟩), fun g => ih (n + 1) 1 (by omega) (Or.inl ⟨rfl, fun i hi => ?_⟩)⟩
      by_cases e : i = n
      · subst e; exact g
      · exact h i (by omega)
    · exact ⟨fun _ => ih (n + 1) 0 (by omega) (Or.inr ⟨rfl, h⟩), fun g => absurd rfl g⟩
theorem t193 {s N : Nat} (hs : s < 6) (hN : N ≤ 16) (h107 : σ.2.1 107 s = nI N) (H1 : (∀ n, n < N → σ.2.1 108 (16 * s + n) = 3) → Q (some (.int 1)) σ) (H0 : ¬ (∀ n, n < N → σ.2.1 108 (16 * s + n) = 3) → Q (some (.int 0)) σ) : mM X (d + 1) 193 0 (mm_L0 193 [.ref 86, .int (nI s)]) [] σ Q :=
  u193_0 (t193_4 hs hN h107 H1 H0 N 0 1 (by omega) (Or.inl ⟨rfl, fun i hi => absurd hi (Nat.not_lt_zero _)⟩))
/-- result -/
theorem t197 {s n to deep : Nat} {us : List mTk} {t : mT} (hs : s < 6) (hn : n < 16) (S : mSlot σ A (27 + (16 * s + n)) (mt_tk t 0)) (D : mSlot σ A to us) (hto : 123 ≤ to) (hcap : us.length + (mt_tk t deep).length ≤ mcp to) (hdp : deep + mt_dp t < 64)
    (H : ∀ σ', mKp mN1 mN2 mN1 (· = to) σ σ' → mSlot σ' A to (us ++ mt_tk t deep) → Q none σ') : mM X (d + 4) 197 0 (mm_L0 197 [.ref 86, .int (nI s), .int (nI n), .int (nI to), .int (nI deep)]) [] σ Q := by
  have e : ((27 : Int32) + ((16 : Int32) * nI s)) + nI n = nI (27 + (16 * s + n)) := by
    rw [show (16 : Int32) = nI 16 from rfl, pk_mul, show (27 : Int32) = nI 27 from rfl, nI_add, nI_add, Nat.add_assoc]
  refine u197_0 ?_
  rw [e]
  refine s123 S.1 ⟨_, rfl, s143 S.1 S.2.2.1 ⟨_, rfl, t150 (t := t) (l := 0) (deep := deep) (pre := []) (rest := []) S (by simp) (mt_cl_nil 0) rfl rfl D (by omega) hcap hdp (fun σ' K D' => ⟨rfl, H σ' K D'⟩)⟩⟩
end RPS
