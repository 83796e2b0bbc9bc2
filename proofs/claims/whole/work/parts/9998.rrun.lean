/-! THE REFERENCE: how it holds a run -/
def aW (s p : Nat) : Prop := 600 + 3072 * s ≤ p ∧ p < 600 + 3072 * s + 3072
theorem wA_aW {s n p : Nat} (hn : n < 16) (h : wA (16 * s + n) p) : aW s p := by unfold wA at h; unfold aW; omega
def jS (g : mPg) (n : Nat) : Nat := match gRs g n with
  | some _ => 3
  | none => if gTk g n = true then 2 else 1
theorem jS_some {g : mPg} {n : Nat} {t : mT} (h : gRs g n = some t) : jS g n = 3 := by unfold jS; rw [h]
theorem jS_none {g : mPg} {n : Nat} (h : gRs g n = none) : jS g n = if gTk g n = true then 2 else 1 := by unfold jS; rw [h]
def wdU (σ : mS) (job : Nat) (ws : List (List Nat)) : Prop := ws.length ≤ 8 ∧ wdT σ job ws
theorem wdU.keep {F : Nat → Prop} {B : Nat → Nat → Prop} {P W : Nat → Prop} {σ σ' : mS} {job : Nat} {ws : List (List Nat)} (T : wdU σ job ws) (K : mKp F B P W σ σ') (hB : ∀ b j, wdB job b j → ¬ B b j) (hP : ∀ p, wA job p → ¬ P p) : wdU σ' job ws := by
  obtain ⟨h8, T1, T2⟩ := T
  refine ⟨h8, (K.2.1 109 _ (by decide) (hB _ _ (Or.inl ⟨rfl, rfl⟩))).trans T1, fun i hi => ?_⟩
  obtain ⟨x1, x2, x3⟩ := T2 i hi
  exact ⟨x1, (K.2.1 110 _ (by decide) (hB _ _ (Or.inr ⟨rfl, by omega, by omega⟩))).trans x2, fun k hk => (K.2.2.1 _ (hP _ (by unfold wA; omega))).trans (x3 k hk)⟩
def sLn (σ : mS) (E : mEv) (s : Nat) (g : mPg) : Prop := ∃ ln : Nat → Nat, gLv g = lvO (aOv (eSt E s) (eTo E s)) (sMe (eSt E s)) (gN g) ln ∧ ∀ p, p < 4 → aBit (aOv (eSt E s) (eTo E s)) p = true → ln p ≤ 8 ∧ σ.2.1 112 (4 * s + p) = nI (ln p)
def sP1 (σ : mS) (E : mEv) (s : Nat) (g : mPg) : Prop := σ.2.1 107 s = nI (gN g) ∧ sLn σ E s g ∧ ∀ n, n < gN g → n < 16 ∧ σ.2.1 108 (16 * s + n) = nI (jS g n) ∧ (∀ t, gRs g n = some t → mSlot σ (wA (16 * s + n)) (27 + (16 * s + n)) (mt_tk t 0)) ∧ (gRs g n = none → ∀ ws, gCm g n = some ws → wdU σ (16 * s + n) ws)
def sP (σ : mS) (E : mEv) (s : Nat) (g : mPg) : Prop := (gPh g = 1 → sP1 σ E s g) ∧ ∀ n, n < 16 → (gPh g = 1 → gN g ≤ n) → σ.2.1 108 (16 * s + n) ≠ 1
def sO (σ : mS) (s : Nat) (g : mPg) : Prop := σ.2.1 106 s = nI (gPh g) ∧ (gPh g = 2 → mSlot σ (aW s) (123 + s) (mt_tk (gOut g) 0))
def sSc (σ : mS) (R : mRn) : Prop := σ.1 23 = nI (nSt R) ∧ σ.1 24 = nI (nWk R) ∧ σ.1 25 = nI (nKn R) ∧ σ.1 26 = nI (nBg R) ∧ σ.1 27 = nI (nAc R).length ∧ σ.1 28 = iB (nFl R)
def sR0 (σ : mS) (R : mRn) : Prop := sSc σ R ∧ ∀ s, s < 6 → sO σ s (nPg R s)
def sQ (σ : mS) (R : mRn) : Prop := ∀ i (h : i < (nAc R).length), σ.2.1 111 i = nI (16 * (nAc R)[i].1 + (nAc R)[i].2) ∧ ∀ ws, gCm (nPg R (nAc R)[i].1) (nAc R)[i].2 = some ws → wdU σ (16 * (nAc R)[i].1 + (nAc R)[i].2) ws
def sR (σ : mS) (E : mEv) (R : mRn) : Prop := sE σ E ∧ σ.1 44 = 0 ∧ sR0 σ R ∧ sQ σ R ∧ ∀ s, s < 6 → sP σ E s (nPg R s)
/-- what a step may change -/
def yF (k : Nat) : Prop := xF k ∨ k = 28
def yB (s b j : Nat) : Prop := (b = 106 ∨ b = 107) ∧ j = s ∨ (b = 108 ∨ b = 109) ∧ 16 * s ≤ j ∧ j < 16 * s + 16 ∨ b = 110 ∧ 128 * s ≤ j ∧ j < 128 * s + 128 ∨ b = 112 ∧ 4 * s ≤ j ∧ j < 4 * s + 4
def yP (s p : Nat) : Prop := aW s p ∨ 19032 ≤ p ∧ p < 19128
def yW (s x : Nat) : Prop := 129 ≤ x ∨ x = 123 + s ∨ 27 + 16 * s ≤ x ∧ x < 27 + 16 * s + 16
def yK (s : Nat) (σ σ' : mS) : Prop := mKp yF (yB s) (yP s) (yW s) σ σ'
theorem yK.rf {s : Nat} {σ : mS} : yK s σ σ := mKp.rf
theorem yK.tr {s : Nat} {a b c : mS} (h : yK s a b) (k : yK s b c) : yK s a c := mKp.tr h k
theorem xK.y {s n : Nat} {σ σ' : mS} (hn : n < 16) (K : xK (16 * s + n) σ σ') : yK s σ σ' := K.mono (fun k h => Or.inl h) (fun b j h => by unfold xB wdB at h; unfold yB; omega) (fun p h => by unfold xP wA at h; unfold yP aW; omega) (fun x h => by unfold xW at h; unfold yW; omega)
theorem fF.y {s : Nat} {σ σ' : mS} (h : fF σ σ' s) : yK s σ σ' := h.1.mono (fun k h => Or.inr h) (fun b j h => by unfold fB at h; unfold yB; omega) (fun _ h => h.elim) (fun _ h => h.elim)
theorem sE.yk {σ σ' : mS} {E : mEv} {s : Nat} (h : sE σ E) (K : yK s σ σ') : sE σ' E := h.kp K ⟨by unfold yF xF; omega, by unfold yF xF; omega⟩ (fun b j h1 h2 hB => by unfold yB at hB; omega) (fun p hp hP => by unfold yP aW at hP; omega) (fun x hx hW => by unfold yW at hW; omega)
theorem sO.yk {σ σ' : mS} {s k : Nat} {g : mPg} (h : sO σ k g) (K : yK s σ σ') (hk : k < 6) (hs : s < 6) (hks : k ≠ s) : sO σ' k g :=
  ⟨(K.2.1 106 _ (by decide) (by unfold yB; omega)).trans h.1, fun e => (h.2 e).keep K (by unfold yW; omega) (fun p hp hP => by unfold yP at hP; unfold aW at hp hP; omega)⟩
theorem sP.yk {σ σ' : mS} {E : mEv} {s k : Nat} {g : mPg} (h : sP σ E k g) (K : yK s σ σ') (hk : k < 6) (hks : k ≠ s) : sP σ' E k g := by
  refine ⟨fun e => ?_, fun n hn hg => ?_⟩
  · obtain ⟨h1, ⟨ln, h2, h3⟩, h4⟩ := h.1 e
    refine ⟨(K.2.1 107 _ (by decide) (by unfold yB; omega)).trans h1, ⟨ln, h2, fun p hp hb => ⟨(h3 p hp hb).1, (K.2.1 112 _ (by decide) (by unfold yB; omega)).trans (h3 p hp hb).2⟩⟩, fun n hn => ?_⟩
    obtain ⟨a1, a2, a3, a4⟩ := h4 n hn
    refine ⟨a1, (K.2.1 108 _ (by decide) (by unfold yB; omega)).trans a2, fun t ht => (a3 t ht).keep K (by unfold yW; omega) (fun p hp hP => by unfold yP aW at hP; unfold wA at hp; omega), fun hr ws hw => (a4 hr ws hw).keep K (fun b j hb hB => by unfold wdB at hb; unfold yB at hB; omega) (fun p hp hP => by unfold yP aW at hP; unfold wA at hp; omega)⟩
  · rw [K.2.1 108 _ (by decide) (by unfold yB; omega)]; exact h.2 n hn hg
theorem sR.put {σ σ' : mS} {E : mEv} {R : mRn} {s : Nat} {g : mPg} (h : sR σ E R) (K : yK s σ σ') (hs : s < 6) (ha : ∀ k n, (k, n) ∈ nAc R → k < 6 ∧ n < 16 ∧ k ≠ s) (ho : sO σ' s g) (hp : sP σ' E s g) (h28 : σ'.1 28 = iB (nFl R || gPh g == 3)) : sR σ' E (rPg R s g) := by
  obtain ⟨h1, h2, ⟨⟨c1, c2, c3, c4, c5, c6⟩, h4⟩, h5, h6⟩ := h
  have kF : ∀ k, k = 23 ∨ k = 24 ∨ k = 25 ∨ k = 26 ∨ k = 27 ∨ k = 44 → σ'.1 k = σ.1 k := fun k hk => K.1 k (by unfold yF xF; omega)
  refine ⟨h1.yk K, (kF 44 (by omega)).trans h2, ⟨⟨(kF 23 (by omega)).trans c1, (kF 24 (by omega)).trans c2, (kF 25 (by omega)).trans c3, (kF 26 (by omega)).trans c4, (kF 27 (by omega)).trans c5, h28⟩, fun k hk => ?_⟩, fun i hi => ?_, fun k hk => ?_⟩
  · show sO σ' k (up (nPg R) s g k)
    by_cases e : k = s
    · subst e; rw [up_eq]; exact ho
    · rw [up_ne e]; exact (h4 k hk).yk K hk hs e
  · have hi' : i < (nAc R).length := hi
    obtain ⟨q1, q2⟩ := h5 i hi'
    obtain ⟨b1, b2, b3⟩ := ha (nAc R)[i].1 (nAc R)[i].2 (List.getElem_mem hi')
    refine ⟨(K.2.1 111 _ (by decide) (by unfold yB; omega)).trans q1, ?_⟩
    show ∀ ws, gCm (up (nPg R) s g (nAc R)[i].1) (nAc R)[i].2 = some ws → wdU σ' (16 * (nAc R)[i].1 + (nAc R)[i].2) ws
    rw [up_ne b3]
    intro ws hw
    refine (q2 ws hw).keep K (fun b j hb hB => ?_) (fun p hp hP => ?_)
    · unfold wdB at hb; unfold yB at hB; omega
    · unfold yP aW at hP; unfold wA at hp; omega
  · show sP σ' E k (up (nPg R) s g k)
    by_cases e : k = s
    · subst e; rw [up_eq]; exact hp
    · rw [up_ne e]; exact (h6 k hk).yk K hk e
