def mm_ws (k : Nat) : List Cond := .code (mm_y k) (mm_by k) (mm_ml k) (mm_rt k) :: mm_gd
def mm_room (d c s : Nat) : Room := { frames := d, cells := c, slots := s, locals := 64 * d }
theorem mm_sp_inv {na : Nat} {st : List Value} {q : List Value × List Value} (h : mm_sp na st = some q) : st = q.1.reverse ++ q.2 ∧ q.1.length = na ∧ (q.2.map Value.category).sum ≤ 8 ∧ ∀ v ∈ q.1, mm_c1 v = true := by
  unfold mm_sp at h
  split at h
  · rename_i e
    cases h
    refine ⟨by rw [List.reverse_reverse]; exact (List.take_append_drop _ _).symm, by simp; omega, e.2.1, fun v hv => ?_⟩
    exact List.all_eq_true.mp e.2.2 v (List.mem_reverse.mp hv)
  · cases h
theorem mm_cats (B : Nat) (ad : Nat → Nat) (vs : List Value) : ((vs.map (mm_tr B ad)).map fun v => v.category).sum = (vs.map Value.category).sum := by
  rw [List.map_map]
  congr 1
  apply List.map_congr_left
  intro v _
  exact mm_tr_cat B ad v
theorem mm_sl1 {vs : List Value} (h : ∀ v ∈ vs, v.category = 1) : (lg_sl vs).length = vs.length := by
  induction vs with
  | nil => rfl
  | cons v vs ih =>
    have h1 := h v List.mem_cons_self
    have e : lg_sl (v :: vs) = .val v :: lg_sl vs := by
      show (if v.category = 2 then [Slot.val v, Slot.second] else [Slot.val v]) ++ lg_sl vs = _
      rw [if_neg (by omega)]
      rfl
    rw [e, List.length_cons, List.length_cons, ih (fun w hw => h w (List.mem_cons_of_mem _ hw))]
theorem mm_args {vs : List Value} (h : ∀ v ∈ vs, v.category = 1) : ∀ (j i : Nat) (v : Value), vs[i]? = some v → (j + i, v) ∈ lv_args j vs := by
  induction vs with
  | nil => intro j i v hv; simp at hv
  | cons w vs ih =>
    intro j i v hv
    have h1 := h w List.mem_cons_self
    show (j + i, v) ∈ (j, w) :: lv_args (if w.category = 2 then j + 2 else j + 1) vs
    rw [if_neg (by omega)]
    cases i with
    | zero =>
      have : w = v := by simpa using hv
      subst this
      exact List.mem_cons_self
    | succ i =>
      have h2 := ih (fun w hw => h w (List.mem_cons_of_mem _ hw)) (j + 1) i v (by simpa using hv)
      rw [show j + (i + 1) = j + 1 + i by omega]
      exact List.mem_cons_of_mem _ h2
theorem mm_L0_lr {B : Nat} {ad : Nat → Nat} {k : Nat} {as : List Value} (hc : ∀ v ∈ as, mm_c1 v = true) (hl : as.length ≤ mm_ml k) : mm_lr B ad (mm_L0 k as) ((lg_sl (as.map (mm_tr B ad)) ++ List.replicate (mm_ml k - (lg_sl (as.map (mm_tr B ad))).length) Slot.unset).toArray) := by
  have hcat : ∀ v ∈ as.map (mm_tr B ad), v.category = 1 := by
    intro v hv
    obtain ⟨w, hw, rfl⟩ := List.mem_map.mp hv
    rw [mm_tr_cat]
    exact mm_c1_cat (hc w hw)
  have hE := lv_entry (as.map (mm_tr B ad)) (n := mm_ml k) (by rw [mm_sl1 hcat, List.length_map]; exact hl)
  refine ⟨by rw [hE.1]; simp [mm_L0]; omega, hE.2.1, fun i v hv => ?_⟩
  have hi : i < as.length := by
    rcases Nat.lt_or_ge i as.length with g | g
    · exact g
    · unfold mm_L0 at hv
      rw [List.getElem?_append_right (by simpa using g)] at hv
      have := List.mem_of_getElem? hv
      rw [List.mem_replicate] at this
      exact absurd this.2 (by simp)
  have hv2 : as[i]? = some v := by
    unfold mm_L0 at hv
    rw [List.getElem?_append_left (by simpa using hi), List.getElem?_map] at hv
    cases ha : as[i]? with
    | none => rw [ha] at hv; cases hv
    | some w => rw [ha] at hv; simpa using hv
  refine ⟨mm_c1_cat (hc v (List.mem_of_getElem? hv2)), ?_⟩
  have h3 := hE.2.2 (0 + i, mm_tr B ad v) (mm_args hcat 0 i _ (by rw [List.getElem?_map, hv2]; rfl))
  simpa using h3
theorem mm_rv_inv {i : Instr} {rt : Option FieldType} {st : List Value} {r : Option Value} (h : mm_rv i rt st = some r) : (∃ v ty, i = .ireturn ∧ st = [.int v] ∧ rt = some ty ∧ mm_fv ty (.int v) = true ∧ r = some (.int v)) ∨ (∃ v ty, i = .areturn ∧ st = [v] ∧ (v = .null ∨ ∃ x, v = .ref x) ∧ rt = some ty ∧ ((∃ n, ty = .object n) ∨ ∃ t, ty = .array t) ∧ r = some v) ∨ (i = .return_ ∧ st = [] ∧ rt = none ∧ r = none) := by
  cases i
  case ireturn =>
    unfold mm_rv at h
    dsimp only at h
    split at h
    · rename_i v
      split at h
      · rename_i ty
        cases hf : mm_fv ty (.int v) with
        | true => rw [hf] at h; cases h; exact Or.inl ⟨v, ty, rfl, rfl, rfl, hf, rfl⟩
        | false => rw [hf] at h; cases h
      · cases h
    · cases h
  case areturn =>
    unfold mm_rv at h
    dsimp only at h
    split at h
    · split at h
      · rename_i ty
        cases hf : mm_fv ty .null with
        | true =>
          rw [hf] at h; cases h
          refine Or.inr (Or.inl ⟨.null, ty, rfl, rfl, Or.inl rfl, rfl, ?_, rfl⟩)
          cases ty with
          | object n => exact Or.inl ⟨n, rfl⟩
          | array t => exact Or.inr ⟨t, rfl⟩
          | _ => exact nomatch (show false = true from hf)
        | false => rw [hf] at h; cases h
      · cases h
    · rename_i x
      split at h
      · rename_i ty
        cases hf : mm_fv ty (.ref x) with
        | true =>
          rw [hf] at h; cases h
          refine Or.inr (Or.inl ⟨.ref x, ty, rfl, rfl, Or.inr ⟨x, rfl⟩, rfl, ?_, rfl⟩)
          cases ty with
          | object n => exact Or.inl ⟨n, rfl⟩
          | array t => exact Or.inr ⟨t, rfl⟩
          | _ => exact nomatch (show false = true from hf)
        | false => rw [hf] at h; cases h
      · cases h
    · cases h
  case return_ =>
    unfold mm_rv at h
    dsimp only at h
    split at h
    · split at h
      · cases h
      · cases h; exact Or.inr (Or.inr ⟨rfl, rfl, rfl, rfl⟩)
    · cases h
  all_goals exact nomatch (show (none : Option (Option Value)) = some _ from h)
