/-! BUILDING: link, gather, scatter -/
section BST
variable {X : List Int32} {t d : Nat} {hp : mm_H} {Q : Option Value → mm_H → Prop}
def noS (E : mEv) (y : Int32) : Prop := ∀ s : Nat, s < (eSp E).length → y ≠ nI s
def noP (y : Int32) : Prop := ∀ p : Nat, p < 4 → y ≠ nI p
theorem k23 {D : List Nat} {x : Int32} {E : mEv} {tr sr : Nat → Nat} {R : mRn} {JL : Nat → List Value} {y : Int32} (hC : CI hp D x E tr sr R JL) (hA : AI E tr sr R) (H1 : nSt R ≠ 1 → ∀ s : Nat, y = nI s → s < (eSp E).length → Q (some (.ref (sr s))) hp) (H0 : nSt R = 1 ∨ noS E y → Q (some .null) hp) : mm_R X (d + 2) 23 0 (mm_L0 23 [.ref 0, .int y]) [] hp Q := by
  have rn := hC.2.2.2.2.1
  obtain ⟨⟨s1, i1, r12, _⟩, _⟩ := id rn
  obtain ⟨_, ⟨_, _, n, c1, c2, c3, c4⟩, _⟩ := id hC.2.2
  refine w23_0 ⟨_, _, _, rfl, hC.1, rfl, ⟨_, _, rfl, r12⟩, k16 rn hA.2.2.2.1 ⟨_, rfl, ?_⟩⟩
  by_cases e : nSt R = 1
  · rw [if_pos e]; exact ⟨fun _ => H0 (Or.inl e), fun z => absurd z (by decide)⟩
  · rw [if_neg e]
    refine ⟨fun z => absurd rfl z, fun _ => ?_⟩
    rcases nI_arg y (L := (eSp E).length) (by omega) with ⟨s, rfl, hs⟩ | ⟨h, hno⟩
    · exact ⟨fun g => absurd g (nI_pos (by omega)), fun _ => ⟨_, _, _, rfl, hC.1, rfl, pk_lt s (eSp E).length (fun _ => ⟨_, _, _, rfl, hC.1, rfl, mw_avr c1 (by omega) rfl (c4 s hs).1 rfl (by omega) ⟨Or.inr ⟨_, rfl⟩, H1 e s rfl hs⟩⟩) (fun g => absurd g (by omega))⟩⟩
    · exact ⟨fun _ => H0 (Or.inr hno), fun g => ⟨_, _, _, rfl, hC.1, rfl, fun g2 => absurd (h.resolve_left g) (Int32.not_le.mpr g2), fun _ => H0 (Or.inr hno)⟩⟩
theorem k24 {y : Int32} (H1 : ∀ p : Nat, y = nI p → p < 4 → Q (some (.int 1)) hp) (H0 : noP y → Q (some (.int 0)) hp) : mm_R X (d + 1) 24 0 (mm_L0 24 [.int y]) [] hp Q := by
  rcases nI_arg y (L := 4) (by omega) with ⟨p, rfl, hp4⟩ | ⟨h, hno⟩
  · exact w24_0 ⟨fun g => absurd g (nI_pos (by omega)), fun _ => pk_le 4 p (fun g => absurd g (by omega)) (fun _ => H1 p rfl hp4)⟩
  · exact w24_0 ⟨fun _ => H0 hno, fun g => ⟨fun _ => H0 hno, fun g2 => absurd (h.resolve_left g) g2⟩⟩
theorem t127 {σ : mS} {Q : Option Value → mS → Prop} {v a b : Int32} {lo hi : Nat} (ha : a = nI lo) (hb : b = nI hi) (hh : hi < 1000) (hl : lo < 1000) (H1 : ∀ n : Nat, v = nI n → lo ≤ n → n ≤ hi → Q (some (.int 1)) σ) (H0 : (∀ n : Nat, lo ≤ n → n ≤ hi → v ≠ nI n) → Q (some (.int 0)) σ) : mM X (d + 1) 127 0 (mm_L0 127 [.int v, .int a, .int b]) [] σ Q := by
  subst ha; subst hb
  refine u127_0 ⟨fun g => H0 (fun n h1 h2 e => ?_), fun g => ⟨fun g2 => H0 (fun n h1 h2 e => ?_), fun g2 => ?_⟩⟩
  · rw [e] at g; exact nI_nlt h1 (by omega) g
  · rw [e] at g2; exact nI_nlt h2 (by omega) g2
  · have g0 : ¬ v < 0 := fun z => g (Int32.lt_of_lt_of_le z (nI_pos' (by omega)))
    obtain ⟨n, hn, rfl⟩ := nI_of g0
    exact H1 n rfl (by
      apply Classical.byContradiction; intro z; exact g (nI_lt (by omega) (by omega))) (by
      apply Classical.byContradiction; intro z; exact g2 (nI_lt (by omega) (by omega)))
theorem t126 {σ : mS} {Q : Option Value → mS → Prop} {R : mRn} (h : σ.1 23 = nI (nSt R)) (h3 : nSt R ≤ 3) (H1 : nSt R ≠ 1 → Q (some (.int 1)) σ) (H0 : nSt R = 1 → Q (some (.int 0)) σ) : mM X (d + 1) 126 0 (mm_L0 126 [.ref 86]) [] σ Q := by
  refine u126_0 ?_
  rw [h]
  exact pk_eq (nSt R) 1 H0 H1
theorem row4_st {α : Type} (f : Nat → α) (v : α) : ∀ {p : Nat}, p < 4 → (row4 f).set p v = row4 (up f p v)
  | 0, _ => rfl
  | 1, _ => rfl
  | 2, _ => rfl
  | 3, _ => rfl
theorem row4_ge {α : Type} (f : Nat → α) : ∀ {p : Nat}, p < 4 → (row4 f)[p]? = some (f p)
  | 0, _ => rfl
  | 1, _ => rfl
  | 2, _ => rfl
  | 3, _ => rfl
theorem row4_len {α : Type} (f : Nat → α) : (row4 f).length = 4 := rfl
theorem row4_ext {α : Type} {f g : Nat → α} (h : ∀ p, p < 4 → f p = g p) : row4 f = row4 g := by
  unfold row4
  rw [h 0 (by omega), h 1 (by omega), h 2 (by omega), h 3 (by omega)]
/-- building calls that came to nothing -/
theorem ob_same {t : Nat} {km : Nat} {as : List Value} {D : List Nat} {x : Int32} {E : mEv} {tr sr : Nat → Nat} {R : mRn} {JL : Nat → List Value} {σ : mS} {v : Int32} (hC : CI hp D x E tr sr R JL) (M : mR hp σ) (hS : SI σ D E R) (hA : AI E tr sr R) (hP : PC σ D E t) (hG : GI hp JL t) (H : ∀ Q : Option Value → mS → Prop, Q (some (.int v)) σ → mM X 999 km 0 (mm_L0 km (.ref 86 :: as)) [] σ Q) : ∃ y, some (Value.int v) = some (.int y) ∧ ∃ D x E tr sr R JL σ, CI hp D x E tr sr R JL ∧ mR hp σ ∧ AI E tr sr R ∧ GI hp JL (t + 1) ∧ mM X 999 km 0 (mm_L0 km (.ref 86 :: as)) [] σ (fun r2 σ' => r2 = some (.int y) ∧ SI σ' D E R ∧ PC σ' D E (t + 1)) := ⟨v, rfl, D, x, E, tr, sr, R, JL, σ, hC, M, hA, hG.up, H _ ⟨rfl, hS, hP.up⟩⟩
theorem sEs1.k {F : Nat → Prop} {B : Nat → Nat → Prop} {P W : Nat → Prop} {σ σ' : mS} {s : Nat} {st : mStp} (h : sEs1 σ s st) (h3 : ∀ p, (sSr st p).length ≤ 3) (K : mKp F B P W σ σ') (hB : ∀ b j, sB s b j → ¬ B b j) (hP : ∀ p, p < 600 → ¬ P p) (hW : ∀ p, p < 4 → ¬ W (3 + (4 * s + p))) : sEs1 σ' s st := by
  obtain ⟨a1, a2, a3, a4, a5⟩ := h
  refine ⟨(K.2.1 96 _ (by decide) (hB _ _ (by unfold sB; omega))).trans a1, (K.2.1 97 _ (by decide) (hB _ _ (by unfold sB; omega))).trans a2, (K.2.1 98 _ (by decide) (hB _ _ (by unfold sB; omega))).trans a3, a4.k K (hB _ _ (by unfold sB; omega)) (fun j h1 h2 => hB _ _ (by unfold sB; omega)), fun p hp4 => ?_⟩
  obtain ⟨b1, b2, b3, b4, b5, b6⟩ := a5 p hp4
  have h3' := h3 p
  refine ⟨(K.2.1 99 _ (by decide) (hB _ _ (by unfold sB; omega))).trans b1, fun i hi => (K.2.1 100 _ (by decide) (hB _ _ (by unfold sB; omega))).trans (b2 i hi), (K.2.1 101 _ (by decide) (hB _ _ (by unfold sB; omega))).trans b3, (K.2.1 102 _ (by decide) (hB _ _ (by unfold sB; omega))).trans b4, b5.k K (hB _ _ (by unfold sB; omega)) (fun j h1 h2 => hB _ _ (by unfold sB; omega)), ?_⟩
  rcases b6 with ⟨g1, g2⟩ | ⟨t, g1, g2, g3⟩
  · exact Or.inl ⟨g1, (K.2.1 103 _ (by decide) (hB _ _ (by unfold sB; omega))).trans g2⟩
  · exact Or.inr ⟨t, g1, (K.2.1 103 _ (by decide) (hB _ _ (by unfold sB; omega))).trans g2, g3.keep K (hW p hp4) hP⟩
/-- a step has changed in both -/
theorem ob_step {t : Nat} {km : Nat} {as : List Value} {hp' : mm_H} {D : List Nat} {x : Int32} {E : mEv} {tr sr : Nat → Nat} {R : mRn} {JL : Nat → List Value} {σ : mS} {s : Nat} {st : mStp} (hC : CI hp D x E tr sr R JL) (M : mR hp σ) (hS : SI σ D E R) (hA : AI E tr sr R) (hP : PC σ D E t) (hG : GI hp JL t) (ht : t < 512) (h1 : nSt R ≠ 1) (hs : s < (eSp E).length) (e : sTl st = sTl (eSt E s)) (hpr : sPr st = sPr (eSt E s)) (hso : sOk st) (F : cE (wSt (sr s)) hp hp') (hH : cH 0 0 hp hp') (C : cSt hp' (sr s) (tr (sTl (eSt E s))) st)
    (H : ∀ Q : Option Value → mS → Prop, (∀ σ', mKp mN1 (sB s) mN1 mN1 σ σ' → sEs1 σ' s st → Q (some (.int 1)) σ') → mM X 999 km 0 (mm_L0 km (.ref 86 :: as)) [] σ Q) : ∃ y, some (Value.int 1) = some (.int y) ∧ ∃ D x E tr sr R JL σ, CI hp' D x E tr sr R JL ∧ mR hp' σ ∧ AI E tr sr R ∧ GI hp' JL (t + 1) ∧ mM X 999 km 0 (mm_L0 km (.ref 86 :: as)) [] σ (fun r2 σ' => r2 = some (.int y) ∧ SI σ' D E R ∧ PC σ' D E (t + 1)) := by
  obtain ⟨hC', M'⟩ := hC.setS M hA hs F e C
  refine ⟨1, rfl, D, x, eSet E s st, tr, sr, R, JL, σ, hC', M', hA.set h1 hs e hso, hG.h ht hH (by omega) (by omega), H _ (fun σ' K C' => ?_)⟩
  obtain ⟨p0, q1, q2, q3⟩ := hP.up
  have h6 := hA.1.2.2.1
  have hso3 : ∀ k, k < 6 → ∀ p, (sSr (eSt E k) p).length ≤ 3 := fun k hk p => by
    by_cases g : k < (eSp E).length
    · exact ((hA.1.1.2.1 k g).1 p).1
    · have : eSt E k = s0 := by show (eSp E).getD k s0 = s0; rw [List.getD_eq_getElem?_getD, List.getElem?_eq_none (by omega)]; rfl
      rw [this]; exact Nat.zero_le _
  have h512 := Nat.min_le_right (t + 1) 512
  obtain ⟨g1, g2, g3⟩ := hS.2.1.setS q3 (by omega) hs h6 hso3 K ⟨id, id⟩ (fun b j _ _ h => h) (fun _ _ h => h) (fun _ _ h => h.elim) C'
  have Kb : bK σ σ' := K.mono (fun _ h => h.elim) (fun b j h => by unfold sB at h; omega) (fun _ h => h.elim) (fun _ h => h.elim)
  refine ⟨rfl, ⟨hS.1.keep K id (fun j h => by unfold sB at h; omega), g1, (K.1 44 id).trans hS.2.2.1, hS.2.2.2.1.bk Kb, fun z => absurd z h1⟩, p0, (K.1 1 id).trans q1, q2, g2, fun k p t' hk hp4 e' => ?_⟩
  rw [eSt_set hs] at e'
  by_cases ek : k = s
  · subst ek
    rw [if_pos rfl, hpr] at e'
    exact (q3.2 k p t' hk hp4 e').keep K id (fun _ _ h => h)
  · rw [if_neg ek] at e'
    exact g3 k p t' hk hp4 ek e'
end BST
