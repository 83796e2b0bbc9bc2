/-! THE REFERENCE'S CELLS as a state of numbers: its 45 fields (by their numbers), its arrays (by their cells) -/
abbrev mS : Type := (Nat → Int32) × (Nat → Nat → Int32) × (Nat → Nat → Int64)
def mO (s : Nat → Int32) : List Value := [.ref 87, .int (s 1), .ref 88, .int (s 3), .ref 89, .ref 90, .int (s 6), .ref 91, .ref 92, .ref 93, .ref 94, .ref 95, .int (s 12), .ref 96, .ref 97, .ref 98, .ref 99, .ref 100, .ref 101, .ref 102, .ref 103, .ref 104, .ref 105, .int (s 23), .int (s 24), .int (s 25), .int (s 26), .int (s 27), .int (s 28), .ref 106, .ref 107, .ref 108, .ref 109, .ref 110, .ref 111, .int (s 35), .int (s 36), .ref 112, .int (s 38), .int (s 39), .int (s 40), .int (s 41), .int (s 42), .int (s 43), .int (s 44)]
def mAi : List (Nat × Nat × Nat) := [(88, 1001, 60), (90, 1000, 142), (91, 1000, 4), (92, 1000, 4), (93, 1000, 16), (94, 1000, 16), (95, 1000, 16), (96, 1000, 6), (97, 1000, 6), (98, 1000, 6), (99, 1000, 24), (100, 1000, 72), (101, 1000, 24), (102, 1000, 24), (103, 1002, 24), (104, 1001, 1800), (105, 1000, 30), (106, 1000, 6), (107, 1000, 6), (108, 1000, 96), (109, 1000, 96), (110, 1000, 768), (111, 1000, 3), (112, 1000, 24)]
def mAl : List (Nat × Nat) := [(87, 2400), (89, 9856)]
def mR (hp : mm_H) (σ : mS) : Prop := hp[86]? = some (10, mO σ.1) ∧ (∀ e ∈ mAi, hp[e.1]? = some (e.2.1, (List.range e.2.2).map (fun i => .int (σ.2.1 e.1 i)))) ∧ ∀ e ∈ mAl, hp[e.1]? = some (1004, (List.range e.2).map (fun i => .long (σ.2.2 e.1 i)))
/-- nothing but the reference's cells has changed -/
def mF (hp hp' : mm_H) : Prop := hp'.length = hp.length ∧ ∀ a, (a < 86 ∨ 112 < a) → hp'[a]? = hp[a]?
theorem mF.rf {hp : mm_H} : mF hp hp := ⟨rfl, fun _ _ => rfl⟩
theorem mF.tr {a b c : mm_H} (h : mF a b) (k : mF b c) : mF a c := ⟨k.1.trans h.1, fun x hx => (k.2 x hx).trans (h.2 x hx)⟩
theorem mF.set {hp hp' : mm_H} {x : Nat} {c : mm_C} (h : mF hp hp') (hx : 86 ≤ x ∧ x ≤ 112) : mF hp (hp'.set x c) := ⟨by rw [List.length_set]; exact h.1, fun a ha => by rw [List.getElem?_set_ne (by omega)]; exact h.2 a ha⟩
def mQ (hp : mm_H) (Q : Option Value → mS → Prop) : Option Value → mm_H → Prop := fun r hp' => ∃ σ', mR hp' σ' ∧ mF hp hp' ∧ Q r σ'
/-- a run of the reference's code, over its state alone -/
def mM (X : List Int32) (d k pc : Nat) (L : mm_L) (st : List Value) (σ : mS) (Q : Option Value → mS → Prop) : Prop := ∀ hp, mR hp σ → mm_R X d k pc L st hp (mQ hp Q)
theorem mM.use {X : List Int32} {d k pc : Nat} {L : mm_L} {st : List Value} {σ : mS} {Q : Option Value → mS → Prop} {hp0 hp : mm_H} (H : mM X d k pc L st σ Q) (R : mR hp σ) (F : mF hp0 hp) : mm_R X d k pc L st hp (mQ hp0 Q) :=
  (H hp R).mono (fun r hp' h => by obtain ⟨σ', h1, h2, h3⟩ := h; exact ⟨σ', h1, F.tr h2, h3⟩)
theorem mM.mono {X : List Int32} {d k pc : Nat} {L : mm_L} {st : List Value} {σ : mS} {Q Q' : Option Value → mS → Prop} (H : mM X d k pc L st σ Q) (f : ∀ r σ', Q r σ' → Q' r σ') : mM X d k pc L st σ Q' := fun hp R => (H hp R).mono (fun r hp' h => by obtain ⟨σ', h1, h2, h3⟩ := h; exact ⟨σ', h1, h2, f r σ' h3⟩)
def mi_K (K : Int32 → mS → Prop) : Option Value → mS → Prop := fun r σ => ∃ x, r = some (.int x) ∧ K x σ
def m0_K (K : mS → Prop) : Option Value → mS → Prop := fun r σ => r = none ∧ K σ
/-- field k becomes v; place i of array a becomes v -/
def mSet (σ : mS) (k : Nat) (v : Int32) : mS := (fun j => if j = k then v else σ.1 j, σ.2)
def mPut (σ : mS) (a : Nat) (i v : Int32) : mS := (σ.1, fun b j => if b = a ∧ j = i.toNatClampNeg then v else σ.2.1 b j, σ.2.2)
def mPuL (σ : mS) (a : Nat) (i : Int32) (v : Int64) : mS := (σ.1, σ.2.1, fun b j => if b = a ∧ j = i.toNatClampNeg then v else σ.2.2 b j)
def mGet (σ : mS) (a : Nat) (i : Int32) : Int32 := σ.2.1 a i.toNatClampNeg
def mGeL (σ : mS) (a : Nat) (i : Int32) : Int64 := σ.2.2 a i.toNatClampNeg

theorem mA_ne : ∀ e ∈ mAi, 86 ≠ e.1 := by decide
theorem mL_ne : ∀ e ∈ mAl, 86 ≠ e.1 := by decide
theorem mA_in : ∀ e ∈ mAi, 86 ≤ e.1 ∧ e.1 ≤ 112 := by decide
theorem mL_in : ∀ e ∈ mAl, 86 ≤ e.1 ∧ e.1 ≤ 112 := by decide
theorem mA_nd : ∀ e ∈ mAi, ∀ f ∈ mAi, e.1 = f.1 → e = f := by decide
theorem mL_nd : ∀ e ∈ mAl, ∀ f ∈ mAl, e.1 = f.1 → e = f := by decide
theorem mAL_ne : ∀ e ∈ mAi, ∀ f ∈ mAl, e.1 ≠ f.1 := by decide
theorem m_gi {hp : mm_H} {σ : mS} {k : Nat} {K : Int32 → Prop} (R : mR hp σ) (hk : (mO σ.1)[k]? = some (.int (σ.1 k))) (H : K (σ.1 k)) : mw_gi 10 k (.ref 86) hp K := ⟨_, _, _, rfl, R.1, hk, H⟩
theorem m_gv {hp : mm_H} {σ : mS} {k a : Nat} {K : Value → Prop} (R : mR hp σ) (hk : (mO σ.1)[k]? = some (.ref a)) (H : K (.ref a)) : mw_gv 10 k (.ref 86) hp K := ⟨_, _, _, rfl, R.1, hk, H⟩
theorem m_pt {hp hp0 : mm_H} {σ : mS} {k : Nat} {v : Int32} {K : mm_H → Prop} (R : mR hp σ) (F : mF hp0 hp) (hl : Nat.blt k 45 = true) (hs : (mO σ.1).set k (.int v) = mO (mSet σ k v).1) (hf : mm_fv (mm_ft 10 k) (.int v) = true) (H : ∀ hp', mR hp' (mSet σ k v) → mF hp0 hp' → K hp') : mw_pt 10 k (.ref 86) (.int v) hp K := by
  refine ⟨_, _, rfl, R.1, Nat.le_of_ble_eq_true hl, hf, H _ ⟨?_, fun e he => ?_, fun e he => ?_⟩ (F.set ⟨Nat.le_of_ble_eq_true rfl, Nat.le_of_ble_eq_true rfl⟩)⟩
  · rw [List.getElem?_set_self (List.getElem?_eq_some_iff.mp R.1).1, hs]
  · rw [List.getElem?_set_ne (mA_ne e he)]
    exact R.2.1 e he
  · rw [List.getElem?_set_ne (mL_ne e he)]
    exact R.2.2 e he
theorem m_rg {α : Type} {n i : Nat} {f : Nat → α} (h : i < n) : ((List.range n).map f)[i]? = some (f i) := by
  rw [List.getElem?_map, List.getElem?_range h]; rfl
theorem m_rs {n i : Nat} {f : Nat → Value} {v : Value} : ((List.range n).map f).set i v = (List.range n).map (fun j => if j = i then v else f j) := by
  apply List.ext_getElem?
  intro j
  by_cases hj : j < n
  · by_cases e : j = i
    · subst e
      rw [List.getElem?_set_self (by simpa using hj), m_rg hj, if_pos rfl]
    · rw [List.getElem?_set_ne (Ne.symm e), m_rg hj, m_rg hj, if_neg e]
  · rw [List.getElem?_eq_none (by simpa using hj), List.getElem?_eq_none (by simpa using hj)]
theorem m_ai {hp : mm_H} {σ : mS} {t a n : Nat} {i : Int32} {K : Int32 → Prop} (R : mR hp σ) (he : (a, t, n) ∈ mAi) (hi : 0 ≤ i ∧ i.toNatClampNeg < n) (H : K (mGet σ a i)) : mw_ai t (.ref a) i hp K := ⟨_, _, _, rfl, R.2.1 _ he, hi.1, m_rg hi.2, H⟩
theorem m_al {hp : mm_H} {σ : mS} {a n : Nat} {i : Int32} {K : Int64 → Prop} (R : mR hp σ) (he : (a, n) ∈ mAl) (hi : 0 ≤ i ∧ i.toNatClampNeg < n) (H : K (mGeL σ a i)) : mw_al 1004 (.ref a) i hp K := ⟨_, _, _, rfl, R.2.2 _ he, hi.1, m_rg hi.2, H⟩
theorem m_si {hp hp0 : mm_H} {σ : mS} {t a n : Nat} {ty : FieldType} {i v : Int32} {K : mm_H → Prop} (R : mR hp σ) (F : mF hp0 hp) (he : (a, t, n) ∈ mAi) (hi : 0 ≤ i ∧ i.toNatClampNeg < n) (hf : mm_fv ty (.int v) = true) (H : ∀ hp', mR hp' (mPut σ a i v) → mF hp0 hp' → K hp') : mw_si t ty (.ref a) i v hp K := by
  refine ⟨_, _, rfl, R.2.1 _ he, hi.1, by simpa using hi.2, hf, H _ ⟨?_, fun e hm => ?_, fun e hm => ?_⟩ (F.set (mA_in _ he))⟩
  · rw [List.getElem?_set_ne (fun z => mA_ne _ he z.symm)]
    exact R.1
  · by_cases ea : e.1 = a
    · obtain rfl : e = (a, t, n) := mA_nd e hm _ he ea
      rw [List.getElem?_set_self (List.getElem?_eq_some_iff.mp (R.2.1 _ he)).1, m_rs]
      congr 2
      apply List.map_congr_left
      intro j _
      by_cases hj : j = i.toNatClampNeg
      · rw [if_pos hj]; simp [mPut, hj]
      · rw [if_neg hj]; simp [mPut, hj]
    · rw [List.getElem?_set_ne (fun z => ea z.symm), R.2.1 e hm]
      congr 2
      apply List.map_congr_left
      intro j _
      simp [mPut, ea]
  · rw [List.getElem?_set_ne (fun z => mAL_ne _ he e hm z)]
    exact R.2.2 e hm
theorem m_sl {hp hp0 : mm_H} {σ : mS} {a n : Nat} {i : Int32} {v : Int64} {K : mm_H → Prop} (R : mR hp σ) (F : mF hp0 hp) (he : (a, n) ∈ mAl) (hi : 0 ≤ i ∧ i.toNatClampNeg < n) (H : ∀ hp', mR hp' (mPuL σ a i v) → mF hp0 hp' → K hp') : mw_sl (.ref a) i v hp K := by
  refine ⟨_, _, rfl, R.2.2 _ he, hi.1, by simpa using hi.2, H _ ⟨?_, fun e hm => ?_, fun e hm => ?_⟩ (F.set (mL_in _ he))⟩
  · rw [List.getElem?_set_ne (fun z => mL_ne _ he z.symm)]
    exact R.1
  · rw [List.getElem?_set_ne (fun z => mAL_ne e hm _ he z.symm)]
    exact R.2.1 e hm
  · by_cases ea : e.1 = a
    · obtain rfl : e = (a, n) := mL_nd e hm _ he ea
      rw [List.getElem?_set_self (List.getElem?_eq_some_iff.mp (R.2.2 _ he)).1, m_rs]
      congr 2
      apply List.map_congr_left
      intro j _
      by_cases hj : j = i.toNatClampNeg
      · rw [if_pos hj]; simp [mPuL, hj]
      · rw [if_neg hj]; simp [mPuL, hj]
    · rw [List.getElem?_set_ne (fun z => ea z.symm), R.2.2 e hm]
      congr 2
      apply List.map_congr_left
      intro j _
      simp [mPuL, ea]
theorem m_rc {hp : mm_H} {σ : mS} {k : Nat} (R : mR hp σ) (hk : mm_mc k = 10) : mw_rc (.ref 86) k hp := ⟨_, _, rfl, by rw [hk]; exact R.1⟩
