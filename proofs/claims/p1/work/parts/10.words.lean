/-! the tables' words, and what they say of each instruction -/
def mm_gd : List Cond := lw_tbl.filter goodWord
theorem mm_gd_good : ∀ w ∈ mm_gd, (w.onTables && w.keeps) = true ∨ ∃ ty, w = .arrayClass ty := fun _ hw => good_of_word (List.mem_filter.mp hw).2
def mm_isn (w : Cond) : Bool := match w with
  | .fieldLinkNest _ _ _ _ _ _ => true
  | .methodLinkNest _ _ _ _ => true
  | _ => false
def mm_nw : List Cond := lw_tbl.filter mm_isn
theorem mm_nw_warm {w : Cond} {s U : State} (hw : w ∈ mm_nw) (hW : s.WarmedH U.vm) (h : va_Nw w s) : va_Nw w U := by
  have h2 := (List.mem_filter.mp hw).2
  cases w
  case fieldLinkNest => exact va_Nw.warmF hW h
  case methodLinkNest => exact va_Nw.warmM hW h
  all_goals exact nomatch (show false = true from h2)
theorem mm_nw_tab {w : Cond} (hw : w ∈ mm_nw) : w.onTables = true := by
  have h2 := (List.mem_filter.mp hw).2
  cases w
  case fieldLinkNest => rfl
  case methodLinkNest => rfl
  all_goals exact nomatch (show false = true from h2)
theorem mm_nw_same {w : Cond} {s U : State} (hw : w ∈ mm_nw) (hv : s.vm = U.vm) (h : va_Nw w s) : va_Nw w U := va_Nw.same (mm_nw_tab hw) hv h
theorem mm_in {w : Cond} (p : Nat) (h : lw_tbl[p]? = some w) (hg : goodWord w = true) : w ∈ mm_gd := List.mem_filter.mpr ⟨List.mem_of_getElem? h, hg⟩
theorem mm_inn {w : Cond} (p : Nat) (h : lw_tbl[p]? = some w) (hg : mm_isn w = true) : w ∈ mm_nw := List.mem_filter.mpr ⟨List.mem_of_getElem? h, hg⟩
def mm_lkM (mi idx : Nat) (y : MethodName) : Prop := Cond.methodLink (mm_y mi).cls idx y ∈ mm_gd ∨ ∃ host, Cond.methodLinkNest (mm_y mi).cls idx y host ∈ mm_nw
def mm_wl (mi idx : Nat) (y : MethodName) (p : Nat) : Bool := match lw_tbl[p]? with
  | some (.methodLink o j z) => decide (o = (mm_y mi).cls) && decide (j = idx) && decide (z = y)
  | some (.methodLinkNest o j z _) => decide (o = (mm_y mi).cls) && decide (j = idx) && decide (z = y)
  | _ => false
theorem mm_wl_ok {mi idx : Nat} {y : MethodName} {p : Nat} (h : mm_wl mi idx y p = true) : mm_lkM mi idx y := by
  unfold mm_wl at h
  split at h
  · rename_i o j z hw
    simp only [Bool.and_eq_true, decide_eq_true_eq] at h
    obtain ⟨⟨rfl, rfl⟩, rfl⟩ := h
    exact Or.inl (mm_in p hw rfl)
  · rename_i o j z ho hw
    simp only [Bool.and_eq_true, decide_eq_true_eq] at h
    obtain ⟨⟨rfl, rfl⟩, rfl⟩ := h
    exact Or.inr ⟨_, mm_inn p hw rfl⟩
  · cases h
/-- a plain method link alone -/
def mm_wp (mi idx : Nat) (y : MethodName) (p : Nat) : Bool := match lw_tbl[p]? with
  | some (.methodLink o j z) => decide (o = (mm_y mi).cls) && decide (j = idx) && decide (z = y)
  | _ => false
theorem mm_wp_ok {mi idx : Nat} {y : MethodName} {p : Nat} (h : mm_wp mi idx y p = true) : Cond.methodLink (mm_y mi).cls idx y ∈ mm_gd := by
  unfold mm_wp at h
  split at h
  · rename_i o j z hw
    simp only [Bool.and_eq_true, decide_eq_true_eq] at h
    obtain ⟨⟨rfl, rfl⟩, rfl⟩ := h
    exact mm_in p hw rfl
  · cases h
def mm_f1 (mi idx : Nat) (q : vw_C) (k p : Nat) : Bool := match lw_tbl[p]? with
  | some (.fieldLink o j r n d) => decide (o = (mm_y mi).cls) && decide (j = idx) && decide (r = (q.2.1 k).1) && decide (n = (q.2.1 k).2.1) && decide (d = (q.2.1 k).2.2.1)
  | _ => false
def mm_f2 (mi idx : Nat) (q : vw_C) (k p : Nat) : Bool := match lw_tbl[p]? with
  | some (.fieldLinkNest o j r n d _) => decide (o = (mm_y mi).cls) && decide (j = idx) && decide (r = (q.2.1 k).1) && decide (n = (q.2.1 k).2.1) && decide (d = (q.2.1 k).2.2.1)
  | _ => false
theorem mm_f1_ok {mi idx : Nat} {q : vw_C} {k p : Nat} (h : mm_f1 mi idx q k p = true) : Cond.fieldLink (mm_y mi).cls idx (q.2.1 k).1 (q.2.1 k).2.1 (q.2.1 k).2.2.1 ∈ mm_gd := by
  unfold mm_f1 at h
  split at h
  · rename_i o j r n d hw
    simp only [Bool.and_eq_true, decide_eq_true_eq] at h
    obtain ⟨⟨⟨⟨rfl, rfl⟩, rfl⟩, rfl⟩, rfl⟩ := h
    exact mm_in p hw rfl
  · cases h
theorem mm_f2_ok {mi idx : Nat} {q : vw_C} {k p : Nat} (h : mm_f2 mi idx q k p = true) : ∃ host, Cond.fieldLinkNest (mm_y mi).cls idx (q.2.1 k).1 (q.2.1 k).2.1 (q.2.1 k).2.2.1 host ∈ mm_nw := by
  unfold mm_f2 at h
  split at h
  · rename_i o j r n d ho hw
    simp only [Bool.and_eq_true, decide_eq_true_eq] at h
    obtain ⟨⟨⟨⟨rfl, rfl⟩, rfl⟩, rfl⟩, rfl⟩ := h
    exact ⟨_, mm_inn p hw rfl⟩
  · cases h
def mm_cb (mi idx : Nat) (C : String) (p : Nat) : Bool := match lw_tbl[p]? with
  | some (.classLink o j z) => decide (o = (mm_y mi).cls) && decide (j = idx) && decide (z = C)
  | _ => false
theorem mm_cb_ok {mi idx : Nat} {C : String} {p : Nat} (h : mm_cb mi idx C p = true) : Cond.classLink (mm_y mi).cls idx C ∈ mm_gd := by
  unfold mm_cb at h
  split at h
  · rename_i o j z hw
    simp only [Bool.and_eq_true, decide_eq_true_eq] at h
    obtain ⟨⟨rfl, rfl⟩, rfl⟩ := h
    exact mm_in p hw rfl
  · cases h
def mm_ki (mi idx : Nat) (v : Int32) (p : Nat) : Bool := match lw_tbl[p]? with
  | some (.constant o j z) => decide (o = (mm_y mi).cls) && decide (j = idx) && decide (z = v)
  | _ => false
theorem mm_ki_ok {mi idx : Nat} {v : Int32} {p : Nat} (h : mm_ki mi idx v p = true) : Cond.constant (mm_y mi).cls idx v ∈ mm_gd := by
  unfold mm_ki at h
  split at h
  · rename_i o j z hw
    simp only [Bool.and_eq_true, decide_eq_true_eq] at h
    obtain ⟨⟨rfl, rfl⟩, rfl⟩ := h
    exact mm_in p hw rfl
  · cases h
def mm_kl (mi idx : Nat) (v : Int64) (p : Nat) : Bool := match lw_tbl[p]? with
  | some (.constantLong o j z) => decide (o = (mm_y mi).cls) && decide (j = idx) && decide (z = v)
  | _ => false
theorem mm_kl_ok {mi idx : Nat} {v : Int64} {p : Nat} (h : mm_kl mi idx v p = true) : Cond.constantLong (mm_y mi).cls idx v ∈ mm_gd := by
  unfold mm_kl at h
  split at h
  · rename_i o j z hw
    simp only [Bool.and_eq_true, decide_eq_true_eq] at h
    obtain ⟨⟨rfl, rfl⟩, rfl⟩ := h
    exact mm_in p hw rfl
  · cases h
/-- the text constants: class, entry, which text -/
def mm_sr : List (String × Nat × Nat) := [("StepRunner$Value", 19, 0), ("StepRunner$Draft", 68, 0), ("StepRunner$Rule", 27, 1), ("StepRunner$Rule", 57, 2), ("StepRunner$Rule", 59, 3), ("StepRunner$Rule", 67, 4)]
def mm_yp (k : Nat) : MethodName := if k = 9000 then Jvm.Lib.objectInit else if k = 9001 then Jvm.Lib.Math.min.name else if k = 9002 then Jvm.Lib.Math.max.name else if k = 9003 then ⟨"java/lang/String", "length", "()I"⟩ else ⟨"java/lang/String", "charAt", "(I)C"⟩
/-- a method's own words -/
def mm_mF (k : Nat) : Prop := plainName (mm_y k).cls = true ∧ Cond.code (mm_y k) (mm_by k) (mm_ml k) (mm_rt k) ∈ mm_gd ∧ Cond.initialized (mm_y k).cls ∈ mm_gd ∧ ((mm_y k).cls ≠ "java/lang/invoke/MethodHandle" ∧ (mm_y k).cls ≠ "java/lang/invoke/VarHandle" ∧ (parseMethodDescriptor (mm_y k).desc).map (fun d => d.parameters.length) = some (mm_na k)) ∧ mm_ml k ≤ 45
def mm_mS (k : Nat) : Prop := Cond.static (mm_y k) ∈ mm_gd
def mm_mI (k : Nat) : Prop := Cond.instanceMethod (mm_y k) ∈ mm_gd ∧ (mm_y k).name = "<init>" ∧ mm_rt k = none
def mm_mV (k : Nat) : Prop := Cond.instanceMethod (mm_y k) ∈ mm_gd ∧ Cond.selects (mm_y k).cls (mm_y k) (mm_y k) ∈ mm_gd ∧ ∃ q, mm_cl[mm_mc k]? = some q ∧ q.1 = (mm_y k).cls
def mm_mb (k : Nat) : Bool := plainName (mm_y k).cls && decide (lw_tbl[mm_pz k]? = some (.initialized (mm_y k).cls)) && (decide ((mm_y k).cls ≠ "java/lang/invoke/MethodHandle") && decide ((mm_y k).cls ≠ "java/lang/invoke/VarHandle") && decide ((parseMethodDescriptor (mm_y k).desc).map (fun d => d.parameters.length) = some (mm_na k))) && decide (mm_ml k ≤ 45) &&
  (if mm_kd k = 0 then decide (lw_tbl[mm_pi k]? = some (.static (mm_y k)))
   else if mm_kd k = 1 then decide (lw_tbl[mm_pi k]? = some (.instanceMethod (mm_y k))) && decide ((mm_y k).name = "<init>") && decide (mm_rt k = none)
   else decide (lw_tbl[mm_pi k]? = some (.instanceMethod (mm_y k))) && decide (lw_tbl[mm_pe k]? = some (.selects (mm_y k).cls (mm_y k) (mm_y k))) && decide ((mm_cl[mm_mc k]?).map (fun q => q.1) = some (mm_y k).cls))
theorem mm_mb_ok {k : Nat} (hh : mm_mb k = true ∧ Cond.code (mm_y k) (mm_by k) (mm_ml k) (mm_rt k) ∈ mm_gd) : mm_mF k ∧ (mm_kd k = 0 → mm_mS k) ∧ (mm_kd k = 1 → mm_mI k) ∧ (mm_kd k = 2 → mm_mV k) := by
  obtain ⟨h, hc⟩ := hh
  unfold mm_mb at h
  rw [Bool.and_eq_true] at h
  obtain ⟨h1, h2⟩ := h
  simp only [Bool.and_eq_true, decide_eq_true_eq] at h1
  obtain ⟨⟨⟨g1, g3⟩, ⟨g4, g5⟩, g6⟩, g7⟩ := h1
  refine ⟨⟨g1, hc, mm_in _ g3 rfl, ⟨g4, g5, g6⟩, g7⟩, fun e => ?_, fun e => ?_, fun e => ?_⟩
  · rw [if_pos e] at h2
    exact mm_in _ (of_decide_eq_true h2) rfl
  · rw [if_neg (by omega), if_pos e] at h2
    simp only [Bool.and_eq_true, decide_eq_true_eq] at h2
    exact ⟨mm_in _ h2.1.1 rfl, h2.1.2, h2.2⟩
  · rw [if_neg (by omega), if_neg (by omega)] at h2
    simp only [Bool.and_eq_true, decide_eq_true_eq] at h2
    refine ⟨mm_in _ h2.1.1 rfl, mm_in _ h2.1.2 rfl, ?_⟩
    cases hq : mm_cl[mm_mc k]? with
    | none => rw [hq] at h2; exact nomatch h2.2
    | some q => rw [hq] at h2; exact ⟨q, rfl, Option.some.inj h2.2⟩
/-- what an instruction wants of the tables -/
def mm_stk (mi : Nat) (i : Instr) (a : mm_A) : Prop := match i with
  | .getfield idx => ∃ q, mm_cl[a.1]? = some q ∧ a.2.1 < q.2.2 ∧ (Cond.fieldLink (mm_y mi).cls idx (q.2.1 a.2.1).1 (q.2.1 a.2.1).2.1 (q.2.1 a.2.1).2.2.1 ∈ mm_gd ∨ ∃ host, Cond.fieldLinkNest (mm_y mi).cls idx (q.2.1 a.2.1).1 (q.2.1 a.2.1).2.1 (q.2.1 a.2.1).2.2.1 host ∈ mm_nw)
  | .putfield idx => ∃ q, mm_cl[a.1]? = some q ∧ a.2.1 < q.2.2 ∧ (((q.2.1 a.2.1).2.2.2 = false ∧ (Cond.fieldLink (mm_y mi).cls idx (q.2.1 a.2.1).1 (q.2.1 a.2.1).2.1 (q.2.1 a.2.1).2.2.1 ∈ mm_gd ∨ ∃ host, Cond.fieldLinkNest (mm_y mi).cls idx (q.2.1 a.2.1).1 (q.2.1 a.2.1).2.1 (q.2.1 a.2.1).2.2.1 host ∈ mm_nw)) ∨ ((q.2.1 a.2.1).2.2.2 = true ∧ (mm_y mi).name = "<init>" ∧ (q.2.1 a.2.1).1 = (mm_y mi).cls ∧ Cond.fieldLink (mm_y mi).cls idx (q.2.1 a.2.1).1 (q.2.1 a.2.1).2.1 (q.2.1 a.2.1).2.2.1 ∈ mm_gd))
  | .new idx => ∃ q, mm_cl[a.1]? = some q ∧ Cond.classLink (mm_y mi).cls idx q.1 ∈ mm_gd
  | .newarray ty => ((ty = .int ∧ a.1 = 1000) ∨ (ty = .char ∧ a.1 = 1001) ∨ (ty = .boolean ∧ a.1 = 1002) ∨ (ty = .long ∧ a.1 = 1004)) ∧ Cond.arrayClass (newarray.typeOf ty) ∈ mm_gd
  | .anewarray idx => 1000 ≤ a.1 ∧ ∃ C, mm_at a.1 = some (.object C) ∧ Cond.classLink (mm_y mi).cls idx C ∈ mm_gd
  | .ldc idx => (a.1 = 0 → Cond.constant (mm_y mi).cls idx (Int32.ofInt a.2.2) ∈ mm_gd) ∧ (¬ a.1 = 0 → ((mm_y mi).cls, idx, a.2.1) ∈ mm_sr)
  | .ldc_w idx => Cond.constant (mm_y mi).cls idx (Int32.ofInt a.2.2) ∈ mm_gd
  | .ldc2_w idx => Cond.constantLong (mm_y mi).cls idx (Int64.ofInt a.2.2) ∈ mm_gd
  | .invokestatic idx => (a.1 < 9000 → mm_lkM mi idx (mm_y a.1) ∧ mm_mF a.1 ∧ a.2.1 = mm_na a.1 ∧ mm_mS a.1) ∧ (9000 ≤ a.1 → (a.1 = 9001 ∨ a.1 = 9002) ∧ Cond.methodLink (mm_y mi).cls idx (mm_yp a.1) ∈ mm_gd)
  | .invokespecial idx => (a.1 < 9000 → mm_lkM mi idx (mm_y a.1) ∧ mm_mF a.1 ∧ a.2.1 = mm_na a.1 + 1 ∧ mm_mI a.1) ∧ (9000 ≤ a.1 → a.1 = 9000 ∧ Cond.methodLink (mm_y mi).cls idx (mm_yp a.1) ∈ mm_gd)
  | .invokevirtual idx => (a.1 < 9000 → mm_lkM mi idx (mm_y a.1) ∧ mm_mF a.1 ∧ a.2.1 = mm_na a.1 + 1 ∧ mm_mV a.1) ∧ (9000 ≤ a.1 → (a.1 = 9003 ∨ a.1 = 9004) ∧ Cond.methodLink (mm_y mi).cls idx (mm_yp a.1) ∈ mm_gd)
  | _ => True
def mm_sb (mi : Nat) (i : Instr) (a : mm_A) : Bool := match i with
  | .getfield idx => (match mm_cl[a.1]? with
    | some q => decide (a.2.1 < q.2.2) && (mm_f1 mi idx q a.2.1 a.2.2.toNat || mm_f2 mi idx q a.2.1 a.2.2.toNat)
    | none => false)
  | .putfield idx => (match mm_cl[a.1]? with
    | some q => decide (a.2.1 < q.2.2) && (bif (q.2.1 a.2.1).2.2.2 then decide ((mm_y mi).name = "<init>") && decide ((q.2.1 a.2.1).1 = (mm_y mi).cls) && mm_f1 mi idx q a.2.1 a.2.2.toNat else mm_f1 mi idx q a.2.1 a.2.2.toNat || mm_f2 mi idx q a.2.1 a.2.2.toNat)
    | none => false)
  | .new idx => (match mm_cl[a.1]? with
    | some q => mm_cb mi idx q.1 a.2.2.toNat
    | none => false)
  | .newarray ty => ((decide (ty = .int) && decide (a.1 = 1000)) || (decide (ty = .char) && decide (a.1 = 1001)) || (decide (ty = .boolean) && decide (a.1 = 1002)) || (decide (ty = .long) && decide (a.1 = 1004))) && decide (lw_tbl[a.2.1]? = some (.arrayClass (newarray.typeOf ty)))
  | .anewarray idx => decide (1000 ≤ a.1) && (match mm_at a.1 with
    | some (.object C) => mm_cb mi idx C a.2.2.toNat
    | _ => false)
  | .ldc idx => if a.1 = 0 then mm_ki mi idx (Int32.ofInt a.2.2) a.2.1 else decide (((mm_y mi).cls, idx, a.2.1) ∈ mm_sr)
  | .ldc_w idx => mm_ki mi idx (Int32.ofInt a.2.2) a.2.1
  | .ldc2_w idx => mm_kl mi idx (Int64.ofInt a.2.2) a.2.1
  | .invokestatic idx => if a.1 < 9000 then mm_wl mi idx (mm_y a.1) a.2.2.toNat && decide (a.1 < 209) && decide (a.2.1 = mm_na a.1) && decide (mm_kd a.1 = 0) else decide (a.1 = 9001 ∨ a.1 = 9002) && mm_wp mi idx (mm_yp a.1) a.2.2.toNat
  | .invokespecial idx => if a.1 < 9000 then mm_wl mi idx (mm_y a.1) a.2.2.toNat && decide (a.1 < 209) && decide (a.2.1 = mm_na a.1 + 1) && decide (mm_kd a.1 = 1) else decide (a.1 = 9000) && mm_wp mi idx (mm_yp a.1) a.2.2.toNat
  | .invokevirtual idx => if a.1 < 9000 then mm_wl mi idx (mm_y a.1) a.2.2.toNat && decide (a.1 < 209) && decide (a.2.1 = mm_na a.1 + 1) && decide (mm_kd a.1 = 2) else decide (a.1 = 9003 ∨ a.1 = 9004) && mm_wp mi idx (mm_yp a.1) a.2.2.toNat
  | _ => true
