theorem mm_sb_ok (hA : ∀ k, k < 209 → mm_mb k = true ∧ Cond.code (mm_y k) (mm_by k) (mm_ml k) (mm_rt k) ∈ mm_gd) {mi : Nat} {i : Instr} {a : mm_A} (h : mm_sb mi i a = true) : mm_stk mi i a := by
  cases i
  case getfield idx =>
    have h : (match mm_cl[a.1]? with
    | some q => decide (a.2.1 < q.2.2) && (mm_f1 mi idx q a.2.1 a.2.2.toNat || mm_f2 mi idx q a.2.1 a.2.2.toNat)
    | none => false) = true := h
    split at h
    · rename_i q hq
      simp only [Bool.and_eq_true, Bool.or_eq_true, decide_eq_true_eq] at h
      exact ⟨q, hq, h.1, h.2.elim (fun z => Or.inl (mm_f1_ok z)) (fun z => Or.inr (mm_f2_ok z))⟩
    · cases h
  case putfield idx =>
    have h : (match mm_cl[a.1]? with
    | some q => decide (a.2.1 < q.2.2) && (bif (q.2.1 a.2.1).2.2.2 then decide ((mm_y mi).name = "<init>") && decide ((q.2.1 a.2.1).1 = (mm_y mi).cls) && mm_f1 mi idx q a.2.1 a.2.2.toNat else mm_f1 mi idx q a.2.1 a.2.2.toNat || mm_f2 mi idx q a.2.1 a.2.2.toNat)
    | none => false) = true := h
    split at h
    · rename_i q hq
      rw [Bool.and_eq_true] at h
      refine ⟨q, hq, of_decide_eq_true h.1, ?_⟩
      have h2 := h.2
      cases hf : (q.2.1 a.2.1).2.2.2 with
      | true =>
        rw [hf] at h2
        simp only [cond_true, Bool.and_eq_true, decide_eq_true_eq] at h2
        exact Or.inr ⟨rfl, h2.1.1, h2.1.2, mm_f1_ok h2.2⟩
      | false =>
        rw [hf] at h2
        simp only [cond_false, Bool.or_eq_true] at h2
        exact Or.inl ⟨rfl, h2.elim (fun z => Or.inl (mm_f1_ok z)) (fun z => Or.inr (mm_f2_ok z))⟩
    · cases h
  case new idx =>
    have h : (match mm_cl[a.1]? with
    | some q => mm_cb mi idx q.1 a.2.2.toNat
    | none => false) = true := h
    split at h
    · rename_i q hq
      exact ⟨q, hq, mm_cb_ok h⟩
    · cases h
  case newarray ty =>
    have h : (((decide (ty = .int) && decide (a.1 = 1000)) || (decide (ty = .char) && decide (a.1 = 1001)) || (decide (ty = .boolean) && decide (a.1 = 1002)) || (decide (ty = .long) && decide (a.1 = 1004))) && decide (lw_tbl[a.2.1]? = some (.arrayClass (newarray.typeOf ty)))) = true := h
    simp only [Bool.and_eq_true, Bool.or_eq_true, decide_eq_true_eq] at h
    refine ⟨?_, mm_in _ h.2 rfl⟩
    rcases h.1 with ((h1 | h1) | h1) | h1
    · exact Or.inl h1
    · exact Or.inr (Or.inl h1)
    · exact Or.inr (Or.inr (Or.inl h1))
    · exact Or.inr (Or.inr (Or.inr h1))
  case anewarray idx =>
    have h : (decide (1000 ≤ a.1) && (match mm_at a.1 with
    | some (.object C) => mm_cb mi idx C a.2.2.toNat
    | _ => false)) = true := h
    rw [Bool.and_eq_true] at h
    refine ⟨of_decide_eq_true h.1, ?_⟩
    have h2 := h.2
    split at h2
    · rename_i C hC
      exact ⟨C, hC, mm_cb_ok h2⟩
    · cases h2
  case ldc idx =>
    have h : (if a.1 = 0 then mm_ki mi idx (Int32.ofInt a.2.2) a.2.1 else decide (((mm_y mi).cls, idx, a.2.1) ∈ mm_sr)) = true := h
    by_cases ha : a.1 = 0
    · rw [if_pos ha] at h
      exact ⟨fun _ => mm_ki_ok h, fun z => absurd ha z⟩
    · rw [if_neg ha] at h
      exact ⟨fun z => absurd z ha, fun _ => of_decide_eq_true h⟩
  case ldc_w idx => exact mm_ki_ok h
  case ldc2_w idx => exact mm_kl_ok h
  case invokestatic idx =>
    have h : (if a.1 < 9000 then mm_wl mi idx (mm_y a.1) a.2.2.toNat && decide (a.1 < 209) && decide (a.2.1 = mm_na a.1) && decide (mm_kd a.1 = 0) else decide (a.1 = 9001 ∨ a.1 = 9002) && mm_wp mi idx (mm_yp a.1) a.2.2.toNat) = true := h
    by_cases ha : a.1 < 9000
    · rw [if_pos ha] at h
      simp only [Bool.and_eq_true, decide_eq_true_eq] at h
      obtain ⟨f, s, -, -⟩ := mm_mb_ok (hA _ h.1.1.2)
      exact ⟨fun _ => ⟨mm_wl_ok h.1.1.1, f, h.1.2, s h.2⟩, fun z => absurd ha (by omega)⟩
    · rw [if_neg ha] at h
      simp only [Bool.and_eq_true, decide_eq_true_eq] at h
      exact ⟨fun z => absurd z ha, fun _ => ⟨h.1, mm_wp_ok h.2⟩⟩
  case invokespecial idx =>
    have h : (if a.1 < 9000 then mm_wl mi idx (mm_y a.1) a.2.2.toNat && decide (a.1 < 209) && decide (a.2.1 = mm_na a.1 + 1) && decide (mm_kd a.1 = 1) else decide (a.1 = 9000) && mm_wp mi idx (mm_yp a.1) a.2.2.toNat) = true := h
    by_cases ha : a.1 < 9000
    · rw [if_pos ha] at h
      simp only [Bool.and_eq_true, decide_eq_true_eq] at h
      obtain ⟨f, -, s, -⟩ := mm_mb_ok (hA _ h.1.1.2)
      exact ⟨fun _ => ⟨mm_wl_ok h.1.1.1, f, h.1.2, s h.2⟩, fun z => absurd ha (by omega)⟩
    · rw [if_neg ha] at h
      simp only [Bool.and_eq_true, decide_eq_true_eq] at h
      exact ⟨fun z => absurd z ha, fun _ => ⟨h.1, mm_wp_ok h.2⟩⟩
  case invokevirtual idx =>
    have h : (if a.1 < 9000 then mm_wl mi idx (mm_y a.1) a.2.2.toNat && decide (a.1 < 209) && decide (a.2.1 = mm_na a.1 + 1) && decide (mm_kd a.1 = 2) else decide (a.1 = 9003 ∨ a.1 = 9004) && mm_wp mi idx (mm_yp a.1) a.2.2.toNat) = true := h
    by_cases ha : a.1 < 9000
    · rw [if_pos ha] at h
      simp only [Bool.and_eq_true, decide_eq_true_eq] at h
      obtain ⟨f, -, -, s⟩ := mm_mb_ok (hA _ h.1.1.2)
      exact ⟨fun _ => ⟨mm_wl_ok h.1.1.1, f, h.1.2, s h.2⟩, fun z => absurd ha (by omega)⟩
    · rw [if_neg ha] at h
      simp only [Bool.and_eq_true, decide_eq_true_eq] at h
      exact ⟨fun z => absurd z ha, fun _ => ⟨h.1, mm_wp_ok h.2⟩⟩
  all_goals exact trivial
def mm_eb (mi : Nat) (e : mm_I) : Bool := decide (decode (mm_by mi) e.1 = .ok (e.2.1, e.2.2.1)) && mm_pk e.2.1 e.2.2.1 e.2.2.2 e.1 && mm_sb mi e.2.1 e.2.2.2
theorem mm_lookup_mem {pc : Nat} {v : Instr × Nat × mm_A} : ∀ {l : List mm_I}, l.lookup pc = some v → (pc, v) ∈ l := by
  intro l
  induction l with
  | nil => intro h; cases h
  | cons e l ih =>
    intro h
    rw [List.lookup_cons] at h
    split at h
    · rename_i he
      have e1 : pc = e.1 := beq_iff_eq.mp he
      cases h
      rw [e1]
      exact List.mem_cons_self
    · exact List.mem_cons_of_mem _ (ih h)
