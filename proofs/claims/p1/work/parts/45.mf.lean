/-- cells of the same lengths fill the same room -/
theorem mm_sz_len : ∀ {hp hp' : mm_H}, (∀ a : Nat, (hp'[a]?).map (fun c => c.2.length) = (hp[a]?).map (fun c => c.2.length)) → mm_sz hp' = mm_sz hp := by
  intro hp
  induction hp with
  | nil =>
    intro hp' h
    cases hp' with
    | nil => rfl
    | cons c l => have := h 0; simp at this
  | cons c l ih =>
    intro hp' h
    cases hp' with
    | nil => have := h 0; simp at this
    | cons c' l' =>
      have h0 := h 0
      have h1 := ih (hp' := l') (fun a => by have := h (a + 1); simpa using this)
      simp only [List.getElem?_cons_zero, Option.map_some, Option.some.injEq] at h0
      simp only [mm_sz, List.map_cons, List.sum_cons] at h1 ⊢
      omega
theorem mA_all : ∀ a : Nat, 86 < a → a ≤ 112 → (∃ e ∈ mAi, e.1 = a) ∨ ∃ e ∈ mAl, e.1 = a := by
  intro a h1 h2
  have : ∀ b : Fin 26, (∃ e ∈ mAi, e.1 = 87 + b.val) ∨ ∃ e ∈ mAl, e.1 = 87 + b.val := by decide
  have h := this ⟨a - 87, by omega⟩
  rw [show 87 + (a - 87) = a by omega] at h
  exact h
/-- the reference's cells keep their lengths -/
theorem mR_sz {hp hp' : mm_H} {σ σ' : mS} (R : mR hp σ) (R' : mR hp' σ') (F : mF hp hp') : mm_sz hp' = mm_sz hp := by
  apply mm_sz_len
  intro a
  by_cases ha : a < 86 ∨ 112 < a
  · rw [F.2 a ha]
  · by_cases h6 : a = 86
    · subst h6
      rw [R.1, R'.1]; rfl
    · rcases mA_all a (by omega) (by omega) with ⟨e, he, rfl⟩ | ⟨e, he, rfl⟩
      · rw [R.2.1 e he, R'.2.1 e he]; simp
      · rw [R.2.2 e he, R'.2.2 e he]; simp
theorem mR_eq {hp hp' : mm_H} {σ : mS} (R : mR hp σ) (h : ∀ a, 86 ≤ a → a ≤ 112 → hp'[a]? = hp[a]?) : mR hp' σ := by
  refine ⟨?_, fun e he => ?_, fun e he => ?_⟩
  · rw [h 86 (by omega) (by omega)]; exact R.1
  · rw [h e.1 (mA_in e he).1 (mA_in e he).2]; exact R.2.1 e he
  · rw [h e.1 (mL_in e he).1 (mL_in e he).2]; exact R.2.2 e he
theorem mR_set {hp : mm_H} {σ : mS} {x : Nat} {c : mm_C} (R : mR hp σ) (hx : x < 86 ∨ 112 < x) : mR (hp.set x c) σ := mR_eq R (fun a h1 h2 => List.getElem?_set_ne (by omega))
theorem mR_app {hp l : mm_H} {σ : mS} (R : mR hp σ) (hl : 112 < hp.length) : mR (hp ++ l) σ := mR_eq R (fun a h1 h2 => List.getElem?_append_left (by omega))
