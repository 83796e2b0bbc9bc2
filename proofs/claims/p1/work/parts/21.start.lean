/-! THE CLAIM OUT OF ONE WALK OF THE LAW'S BODY (the skeleton's words), and the law's start out of the small machine -/
def R_law : String := "StepRunnerLaw"
def lw_P (b : Addr) (xs : List Int32) (args : Array Value) (s : State) : Prop := args = #[.ref b] ∧ s.IntsAt b xs ∧ xs.length ≤ 5 ∧ (Jvm.Cond.and given_1 narrow_1).before args s = true
def lw_Q (_ : Array Value) (s : State) (o : Outcome) (t : State) : Prop := o = .returned (some (.int 1)) ∧ Framed s o t [] 600000 7302250
def lw_Z (below : List Frame) (a : Array Value) (s : State) : State → Prop := fun t => ∃ o, t.status = .running ∧ Ended t below o ∧ lw_Q a s o t
/-- the law's own end, with 1 on the stack, nothing written that was there before, its room as the claim has it -/
theorem lw_ret {p : Program} {l : Launch} {e : Env} {s : State} {m : MethodId} {below : List Frame} {meth : Method} {c : Code} {b : Nat} (hx : p.tables.exec = Jvm.exec) (hb : c.code = code) (hr : meth.sig.returnType = ret) (hlocks : meth.locks = false) {pc : Nat} {H : Heap} {ls : Array Slot} (hdg : decode code pc = .ok (.ireturn, 1)) : W p l e room_1 s m #[Value.ref b] below meth c H [] 600000 7302250 (lw_Z below #[Value.ref b] s) (F0 m pc ls [.int 1]) := by
  intro T hT X
  obtain ⟨fs, hret, hrun, hended, hW, hframe⟩ := X.leave (v := some (.int 1)) (hlocks := hlocks) (fun h => by rw [hr] at h; cases h)
  have hmeth' : T.vm.method? m = some meth := X.method'
  refine ⟨T.setFrames fs, ?_, .returned (some (.int 1)), hrun, hended, rfl, ⟨_, rfl⟩, hW, hframe⟩
  jvm_step X.here [X.here.top, hx, hb, hdg, hmeth', hr, ret, narrow_b1]
  (try refine ⟨rfl, ?_⟩); (try refine ⟨rfl, ?_⟩)
  first | (intro acts; rw [hret _ acts rfl rfl rfl]) | rw [hret _ _ rfl rfl rfl]
  exact Steps.refl _
/-- what holds at the law's entry: the machine, the code, the tables' words (any of lw_tbl by 'hts w (by decide +kernel)'), the script of L ints xs at the cell b, what the Statement gives of the start (any of its parts by flat_of_before) -/
def lw_At (p : Program) (s : State) (m : MethodId) (meth : Method) (c : Code) (b L : Nat) (xs : Nat → Int32) : Prop :=
  p.tables.exec = Jvm.exec ∧ c.code = code ∧ meth.sig.returnType = ret ∧ c.maxLocals = 4 ∧ s.vm.findClass R_law = some m.cls ∧ (∀ w ∈ lw_tbl, w.before #[Value.ref b] s = true) ∧ va_X b L xs s s.heap ∧ b < s.heap.size ∧ meth.locks = false ∧ (Jvm.Cond.and given_1 narrow_1).before #[Value.ref b] s = true
theorem mm_lookup2 {t : Nat} {ty : FieldType} : ∀ {l : List (Nat × FieldType)}, l.lookup t = some ty → (t, ty) ∈ l := by
  intro l
  induction l with
  | nil => intro h; cases h
  | cons e l ih =>
    intro h
    rw [List.lookup_cons] at h
    split at h
    · rename_i he
      have e1 : t = e.1 := beq_iff_eq.mp he
      cases h
      rw [e1]
      exact List.mem_cons_self
    · exact List.mem_cons_of_mem _ (ih h)
theorem mm_str1 {args : Array Value} {s : State} {own : String} {idx : Nat} (t : List Nat) (ht : t.length < 2 ^ 31) (hex : (Cond.exactly (.string own idx) "java/lang/String").before args s = true) (hco : (Cond.eq (.field (.string own idx) "java/lang/String" "coder" "B") (.int 0)).before args s = true) (har : (Cond.arrayOf (.field (.string own idx) "java/lang/String" "value" "[B") .byte).before args s = true) (hle : (Cond.eq (.length (.field (.string own idx) "java/lang/String" "value" "[B")) (.int (Int32.ofNat t.length))).before args s = true)
    (hel : ∀ j : Nat, j < t.length → (Cond.eq (.elem (.field (.string own idx) "java/lang/String" "value" "[B") (.int (Int32.ofNat j))) (.int (nI (t.getD j 0)))).before args s = true) :
    ∃ q vq, (Term.string own idx).eval args s none [] s = some (.ref q) ∧ va_O "java/lang/String" q (fun a => s.heap.size ≤ a) s s.heap ∧ va_OF "java/lang/String" "coder" "B" (.int 0) q (fun a => s.heap.size ≤ a) s s.heap ∧ va_OF "java/lang/String" "value" "[B" (.ref vq) q (fun a => s.heap.size ≤ a) s s.heap ∧ va_T .byte vq t.length (fun j => .int (nI (t.getD j 0))) (fun a => s.heap.size ≤ a) s s.heap := by
  have hA : ∀ a : Nat, a < s.heap.size → ¬ s.heap.size ≤ a := fun a h => Nat.not_le.mpr h
  obtain ⟨a, c, cA, kA, q1, q2, q3, q4, q5, q6, -⟩ := Cond.exactly_spec (args := args) (first := s) (o := none) (s := s) (idx := []) (t := .string own idx) (cls := "java/lang/String") hex
  obtain ⟨tq, ht1, hT⟩ := va_Tof (f := fun j => .int (nI (t.getD j 0))) (A := fun a => s.heap.size ≤ a) ht har (va_eqt hle) (fun j hj => va_eqt (hel j hj)) hA
  exact ⟨a, tq, q1, ⟨cA, q3, q5, by rw [q6]; exact q2, hA a (Array.getElem?_eq_some_iff.mp q3).1⟩, vk_OFof q1 (va_eqt hco) hA, vk_OFof q1 ht1 hA, hT⟩
set_option maxHeartbeats 4000000 in
set_option maxRecDepth 100000 in
theorem mm_env {s : State} {b L : Nat} {xs : Nat → Int32} (hts : ∀ w ∈ lw_tbl, w.before #[Value.ref b] s = true) (hX : va_X b L xs s s.heap) (hbl : b < s.heap.size) (hgv : (Jvm.Cond.and given_1 narrow_1).before #[Value.ref b] s = true) : ∃ (D : va_G) (dA : Nat → ClassId) (ad : Nat → Nat), ad 100 = b ∧ mm_Es D dA s.heap ad ((List.range L).map xs) s := by
  have hA : ∀ a : Nat, a < s.heap.size → ¬ s.heap.size ≤ a := fun a h => Nat.not_le.mpr h
  have hs := flat_of_before _ hgv
  have tb : ∀ (w : Cond) (p : Nat), lw_tbl[p]? = some w → w.before #[Value.ref b] s = true := fun w p h => hts w (List.mem_of_getElem? h)
  obtain ⟨c0, i0, k0⟩ := u_known (C := "StepRunner") (T := mm_T0) (N := 7) (n := 7) hts (fun w hw => (List.mem_filter.mp ((mm_tk 0 _ rfl).1 w hw)).1) (hts _ (List.mem_filter.mp (mm_tk 0 _ rfl).2.2.2.1).1)
  obtain ⟨c1, i1, k1⟩ := u_known (C := "StepRunner$Draft") (T := mm_T1) (N := 3) (n := 3) hts (fun w hw => (List.mem_filter.mp ((mm_tk 1 _ rfl).1 w hw)).1) (hts _ (List.mem_filter.mp (mm_tk 1 _ rfl).2.2.2.1).1)
  obtain ⟨c2, i2, k2⟩ := u_known (C := "StepRunner$Value") (T := mm_T2) (N := 7) (n := 7) hts (fun w hw => (List.mem_filter.mp ((mm_tk 2 _ rfl).1 w hw)).1) (hts _ (List.mem_filter.mp (mm_tk 2 _ rfl).2.2.2.1).1)
  obtain ⟨c3, i3, k3⟩ := u_known (C := "StepRunner$Run") (T := mm_T3) (N := 11) (n := 11) hts (fun w hw => (List.mem_filter.mp ((mm_tk 3 _ rfl).1 w hw)).1) (hts _ (List.mem_filter.mp (mm_tk 3 _ rfl).2.2.2.1).1)
  obtain ⟨c4, i4, k4⟩ := u_known (C := "StepRunner$Expander") (T := mm_T4) (N := 10) (n := 10) hts (fun w hw => (List.mem_filter.mp ((mm_tk 4 _ rfl).1 w hw)).1) (hts _ (List.mem_filter.mp (mm_tk 4 _ rfl).2.2.2.1).1)
  obtain ⟨c5, i5, k5⟩ := u_known (C := "StepRunner$Progress") (T := mm_T5) (N := 12) (n := 12) hts (fun w hw => (List.mem_filter.mp ((mm_tk 5 _ rfl).1 w hw)).1) (hts _ (List.mem_filter.mp (mm_tk 5 _ rfl).2.2.2.1).1)
  obtain ⟨c6, i6, k6⟩ := u_known (C := "StepRunner$Tool") (T := mm_T6) (N := 6) (n := 6) hts (fun w hw => (List.mem_filter.mp ((mm_tk 6 _ rfl).1 w hw)).1) (hts _ (List.mem_filter.mp (mm_tk 6 _ rfl).2.2.2.1).1)
  obtain ⟨c7, i7, k7⟩ := u_known (C := "StepRunner$Step") (T := mm_T7) (N := 10) (n := 10) hts (fun w hw => (List.mem_filter.mp ((mm_tk 7 _ rfl).1 w hw)).1) (hts _ (List.mem_filter.mp (mm_tk 7 _ rfl).2.2.2.1).1)
  obtain ⟨c8, i8, k8⟩ := u_known (C := "StepRunner$Rule") (T := mm_T8) (N := 4) (n := 4) hts (fun w hw => (List.mem_filter.mp ((mm_tk 8 _ rfl).1 w hw)).1) (hts _ (List.mem_filter.mp (mm_tk 8 _ rfl).2.2.2.1).1)
  obtain ⟨c9, i9, k9⟩ := u_known (C := "StepRunner$Job") (T := mm_T9) (N := 7) (n := 7) hts (fun w hw => (List.mem_filter.mp ((mm_tk 9 _ rfl).1 w hw)).1) (hts _ (List.mem_filter.mp (mm_tk 9 _ rfl).2.2.2.1).1)
  obtain ⟨c10, i10, k10⟩ := u_known (C := "StepRunnerModel") (T := mm_T10) (N := 45) (n := 45) hts (fun w hw => (List.mem_filter.mp ((mm_tk 10 _ rfl).1 w hw)).1) (hts _ (List.mem_filter.mp (mm_tk 10 _ rfl).2.2.2.1).1)
  obtain ⟨a1000, x1000, y1000, f1000, g1000, h1000⟩ := Cond.arrayClass_spec (tb (.arrayClass .int) 356 rfl)
  obtain ⟨a1001, x1001, y1001, f1001, g1001, h1001⟩ := Cond.arrayClass_spec (tb (.arrayClass .char) 140 rfl)
  obtain ⟨a1002, x1002, y1002, f1002, g1002, h1002⟩ := Cond.arrayClass_spec (tb (.arrayClass .boolean) 1159 rfl)
  obtain ⟨a1004, x1004, y1004, f1004, g1004, h1004⟩ := Cond.arrayClass_spec (tb (.arrayClass .long) 1158 rfl)
  have o2002 := tb (.arrayOver (.object "StepRunner$Value")) 142 rfl
  obtain ⟨y2002, a2002, x2002, f2002, -, g2002, h2002, z2002⟩ := Cond.arrayOver_spec o2002
  have o2006 := tb (.arrayOver (.object "StepRunner$Tool")) 232 rfl
  obtain ⟨y2006, a2006, x2006, f2006, -, g2006, h2006, z2006⟩ := Cond.arrayOver_spec o2006
  have o2007 := tb (.arrayOver (.object "StepRunner$Step")) 234 rfl
  obtain ⟨y2007, a2007, x2007, f2007, -, g2007, h2007, z2007⟩ := Cond.arrayOver_spec o2007
  have o2005 := tb (.arrayOver (.object "StepRunner$Progress")) 301 rfl
  obtain ⟨y2005, a2005, x2005, f2005, -, g2005, h2005, z2005⟩ := Cond.arrayOver_spec o2005
  have o2009 := tb (.arrayOver (.object "StepRunner$Job")) 303 rfl
  obtain ⟨y2009, a2009, x2009, f2009, -, g2009, h2009, z2009⟩ := Cond.arrayOver_spec o2009
  have o2008 := tb (.arrayOver (.object "StepRunner$Rule")) 485 rfl
  obtain ⟨y2008, a2008, x2008, f2008, -, g2008, h2008, z2008⟩ := Cond.arrayOver_spec o2008
  obtain ⟨q0, v0, s0, s0a, s0b, s0c, s0d⟩ := mm_str1 (own := "StepRunner$Value") (idx := 19) [110, 117, 108, 108] (by decide) (hs _ (by decide +kernel)) (hs _ (by decide +kernel)) (hs _ (by decide +kernel)) (hs _ (by decide +kernel)) (fun j hj => by
    match j, hj with
    | 0, _ => exact hs _ (by decide +kernel)
    | 1, _ => exact hs _ (by decide +kernel)
    | 2, _ => exact hs _ (by decide +kernel)
    | 3, _ => exact hs _ (by decide +kernel)
    )
  obtain ⟨q1, v1, s1, s1a, s1b, s1c, s1d⟩ := mm_str1 (own := "StepRunner$Rule") (idx := 27) [36, 40] (by decide) (hs _ (by decide +kernel)) (hs _ (by decide +kernel)) (hs _ (by decide +kernel)) (hs _ (by decide +kernel)) (fun j hj => by
    match j, hj with
    | 0, _ => exact hs _ (by decide +kernel)
    | 1, _ => exact hs _ (by decide +kernel)
    )
  obtain ⟨q2, v2, s2, s2a, s2b, s2c, s2d⟩ := mm_str1 (own := "StepRunner$Rule") (idx := 57) [115, 101, 108, 102] (by decide) (hs _ (by decide +kernel)) (hs _ (by decide +kernel)) (hs _ (by decide +kernel)) (hs _ (by decide +kernel)) (fun j hj => by
    match j, hj with
    | 0, _ => exact hs _ (by decide +kernel)
    | 1, _ => exact hs _ (by decide +kernel)
    | 2, _ => exact hs _ (by decide +kernel)
    | 3, _ => exact hs _ (by decide +kernel)
    )
  obtain ⟨q3, v3, s3, s3a, s3b, s3c, s3d⟩ := mm_str1 (own := "StepRunner$Rule") (idx := 59) [105, 110, 112, 117, 116, 115, 46] (by decide) (hs _ (by decide +kernel)) (hs _ (by decide +kernel)) (hs _ (by decide +kernel)) (hs _ (by decide +kernel)) (fun j hj => by
    match j, hj with
    | 0, _ => exact hs _ (by decide +kernel)
    | 1, _ => exact hs _ (by decide +kernel)
    | 2, _ => exact hs _ (by decide +kernel)
    | 3, _ => exact hs _ (by decide +kernel)
    | 4, _ => exact hs _ (by decide +kernel)
    | 5, _ => exact hs _ (by decide +kernel)
    | 6, _ => exact hs _ (by decide +kernel)
    )
  obtain ⟨q4, v4, s4, s4a, s4b, s4c, s4d⟩ := mm_str1 (own := "StepRunner$Rule") (idx := 67) [46, 108, 101, 110, 103, 116, 104] (by decide) (hs _ (by decide +kernel)) (hs _ (by decide +kernel)) (hs _ (by decide +kernel)) (hs _ (by decide +kernel)) (fun j hj => by
    match j, hj with
    | 0, _ => exact hs _ (by decide +kernel)
    | 1, _ => exact hs _ (by decide +kernel)
    | 2, _ => exact hs _ (by decide +kernel)
    | 3, _ => exact hs _ (by decide +kernel)
    | 4, _ => exact hs _ (by decide +kernel)
    | 5, _ => exact hs _ (by decide +kernel)
    | 6, _ => exact hs _ (by decide +kernel)
    )
  have e0 : (Term.string "StepRunner$Draft" 68).eval #[Value.ref b] s none [] s = some (.ref q0) := by
    have h1 : (Cond.eq (.string "StepRunner$Value" 19) (.string "StepRunner$Draft" 68)).before #[Value.ref b] s = true := hs _ (by decide +kernel)
    cases hv : (Term.string "StepRunner$Draft" 68).eval #[Value.ref b] s none [] s with
    | none => simp [Cond.before, Cond.holds, Cond.value, hv, s0] at h1
    | some w =>
      simp only [Cond.before, Cond.holds, Cond.value, hv, s0] at h1
      cases w <;> simp_all
  have zC := va_Zof (C := "java/lang/String") (n := "COMPACT_STRINGS") (d := "Z") (A := fun a => s.heap.size ≤ a) (tb _ 158 rfl) (tb _ 103 rfl) (va_eqi (z := 1) (hs _ (by decide +kernel))) hA
  obtain ⟨fv, hfv, zF⟩ : ∃ fv : Value, (fv = .null ∨ ∃ a, fv = .ref a) ∧ va_Z "jdk/internal/util/Preconditions" "SIOOBE_FORMATTER" "Ljava/util/function/BiFunction;" fv (fun a => s.heap.size ≤ a) s s.heap := by
    have h1 : (Cond.isRef (.static "jdk/internal/util/Preconditions" "SIOOBE_FORMATTER" "Ljava/util/function/BiFunction;")).before #[Value.ref b] s = true := hs _ (by decide +kernel)
    cases hv : (Term.static "jdk/internal/util/Preconditions" "SIOOBE_FORMATTER" "Ljava/util/function/BiFunction;").eval #[Value.ref b] s none [] s with
    | none => simp [Cond.before, Cond.holds, Cond.value, hv] at h1
    | some w =>
      refine ⟨w, ?_, va_Zof (tb _ 208 rfl) (tb _ 105 rfl) hv hA⟩
      cases w <;> simp_all [Cond.before, Cond.holds, Cond.value, Value.isRef]
  refine ⟨(fun k => if k = 0 then c0 else if k = 1 then c1 else if k = 2 then c2 else if k = 3 then c3 else if k = 4 then c4 else if k = 5 then c5 else if k = 6 then c6 else if k = 7 then c7 else if k = 8 then c8 else if k = 9 then c9 else c10, fun k => if k = 0 then i0 else if k = 1 then i1 else if k = 2 then i2 else if k = 3 then i3 else if k = 4 then i4 else if k = 5 then i5 else if k = 6 then i6 else if k = 7 then i7 else if k = 8 then i8 else if k = 9 then i9 else i10), fun k => if k = 1000 then a1000 else if k = 1001 then a1001 else if k = 1002 then a1002 else if k = 1004 then a1004 else if k = 2002 then a2002 else if k = 2006 then a2006 else if k = 2007 then a2007 else if k = 2005 then a2005 else if k = 2009 then a2009 else a2008, fun k => if k = 0 then q0 else if k = 1 then q1 else if k = 2 then q2 else if k = 3 then q3 else if k = 4 then q4 else b, rfl, ⟨⟨?_, fun k q h => by simp at h⟩, ?_, hbl, ?_⟩, fun w hw => va_Nw.of (mm_nw_tab hw) (hts w (List.mem_filter.mp hw).1), ?_, zC, ⟨fv, hfv, zF⟩, ?_⟩
  · intro ci q hq
    have hci : ci < 11 := (List.getElem?_eq_some_iff.mp hq).1
    match ci, hci, hq with
    | 0, _, hq => cases hq; exact k0
    | 1, _, hq => cases hq; exact k1
    | 2, _, hq => cases hq; exact k2
    | 3, _, hq => cases hq; exact k3
    | 4, _, hq => cases hq; exact k4
    | 5, _, hq => cases hq; exact k5
    | 6, _, hq => cases hq; exact k6
    | 7, _, hq => cases hq; exact k7
    | 8, _, hq => cases hq; exact k8
    | 9, _, hq => cases hq; exact k9
    | 10, _, hq => cases hq; exact k10
  · intro t ty h
    have hm := mm_lookup2 h
    simp only [mm_arrs, List.mem_cons, List.not_mem_nil, or_false, Prod.mk.injEq] at hm
    rcases hm with ⟨rfl, rfl⟩ | ⟨rfl, rfl⟩ | ⟨rfl, rfl⟩ | ⟨rfl, rfl⟩ | ⟨rfl, rfl⟩ | ⟨rfl, rfl⟩ | ⟨rfl, rfl⟩ | ⟨rfl, rfl⟩ | ⟨rfl, rfl⟩ | ⟨rfl, rfl⟩
    · exact ⟨fun n z => ⟨fun k h => (by cases h), x1000, g1000, y1000, h1000⟩, f1000, fun C hC => by cases hC⟩
    · exact ⟨fun n z => ⟨fun k h => (by cases h), x1001, g1001, y1001, h1001⟩, f1001, fun C hC => by cases hC⟩
    · exact ⟨fun n z => ⟨fun k h => (by cases h), x1002, g1002, y1002, h1002⟩, f1002, fun C hC => by cases hC⟩
    · exact ⟨fun n z => ⟨fun k h => (by cases h), x1004, g1004, y1004, h1004⟩, f1004, fun C hC => by cases hC⟩
    · exact ⟨fun n z => ⟨fun k h => (by cases h), x2002, g2002, y2002, h2002⟩, ⟨x2002, y2002, g2002, h2002, f2002, z2002⟩, fun C hC => by cases hC; exact va_AO.of o2002⟩
    · exact ⟨fun n z => ⟨fun k h => (by cases h), x2006, g2006, y2006, h2006⟩, ⟨x2006, y2006, g2006, h2006, f2006, z2006⟩, fun C hC => by cases hC; exact va_AO.of o2006⟩
    · exact ⟨fun n z => ⟨fun k h => (by cases h), x2007, g2007, y2007, h2007⟩, ⟨x2007, y2007, g2007, h2007, f2007, z2007⟩, fun C hC => by cases hC; exact va_AO.of o2007⟩
    · exact ⟨fun n z => ⟨fun k h => (by cases h), x2005, g2005, y2005, h2005⟩, ⟨x2005, y2005, g2005, h2005, f2005, z2005⟩, fun C hC => by cases hC; exact va_AO.of o2005⟩
    · exact ⟨fun n z => ⟨fun k h => (by cases h), x2009, g2009, y2009, h2009⟩, ⟨x2009, y2009, g2009, h2009, f2009, z2009⟩, fun C hC => by cases hC; exact va_AO.of o2009⟩
    · exact ⟨fun n z => ⟨fun k h => (by cases h), x2008, g2008, y2008, h2008⟩, ⟨x2008, y2008, g2008, h2008, f2008, z2008⟩, fun C hC => by cases hC; exact va_AO.of o2008⟩
  · obtain ⟨scr, g1, g2, g3, g4, g5⟩ := hX
    refine ⟨scr, g1, g2, g3, by rw [g4]; simp, fun j v hv => ?_⟩
    have hj : j < L := by have := (List.getElem?_eq_some_iff.mp hv).1; simpa using this
    rw [g5 j hj]
    rw [List.getElem?_map, List.getElem?_range hj] at hv
    cases hv
    rfl
  · intro e he
    simp only [mm_sr, List.mem_cons, List.not_mem_nil, or_false] at he
    rcases he with rfl | rfl | rfl | rfl | rfl | rfl
    · exact ⟨"null", vk_R.of (tb _ 148 rfl) s0⟩
    · exact ⟨"null", vk_R.of (tb _ 590 rfl) e0⟩
    · exact ⟨"$(", vk_R.of (tb _ 648 rfl) s1⟩
    · exact ⟨"self", vk_R.of (tb _ 658 rfl) s2⟩
    · exact ⟨"inputs.", vk_R.of (tb _ 663 rfl) s3⟩
    · exact ⟨".length", vk_R.of (tb _ 668 rfl) s4⟩
  · intro i t ht
    have hi : i < 5 := (List.getElem?_eq_some_iff.mp ht).1
    match i, hi, ht with
    | 0, _, ht => cases ht; exact ⟨v0, s0a, s0b, s0c, s0d⟩
    | 1, _, ht => cases ht; exact ⟨v1, s1a, s1b, s1c, s1d⟩
    | 2, _, ht => cases ht; exact ⟨v2, s2a, s2b, s2c, s2d⟩
    | 3, _, ht => cases ht; exact ⟨v3, s3a, s3b, s3c, s3d⟩
    | 4, _, ht => cases ht; exact ⟨v4, s4a, s4b, s4c, s4d⟩
/-- what is left: the small machine, on the law -/
def mm_Law (N : Nat) : Prop := ∀ X : List Int32, X.length ≤ N → ∃ n hp', mm_ev X n 1000 209 0 (mm_L0 209 [.retAddr 100]) [] [] = some (some (.int 1), hp') ∧ hp'.length ≤ 600000 ∧ mm_sz hp' ≤ 7302250
set_option maxHeartbeats 4000000 in
set_option maxRecDepth 100000 in
theorem mm_start (hrun : mm_Law 5) {p : Program} {e : Env} {s : State} {m : MethodId} {below : List Frame} {meth : Method} {c : Code} (l : Launch) {b L : Nat} {xs : Nat → Int32} (hL : L ≤ 5) (C0 : lw_At p s m meth c b L xs) : W p l e room_1 s m #[Value.ref b] below meth c s.heap [] 0 0 (lw_Z below #[Value.ref b] s) (entryFrame m ([Value.ref b] : List Value).toArray 4) := by
  obtain ⟨hx, hb, hr, hml, hown, hts, hX, hbl, hlocks, hgv⟩ := C0
  obtain ⟨D, dA, ad, had, hE⟩ := mm_env hts hX hbl hgv
  obtain ⟨n, hp', hev, hz1, hz2⟩ := hrun ((List.range L).map xs) (by simpa using hL)
  rw [lg_entry_eq]
  have hlr := mm_L0_lr (B := s.heap.size) (ad := ad) (k := 209) (as := [.retAddr 100]) (by intro v hv; rw [List.mem_singleton.mp hv]; rfl) (by decide)
  have e0 : [Value.retAddr 100].map (mm_tr s.heap.size ad) = [Value.ref b] := by
    show [Value.ref (ad 100)] = _
    rw [had]
  rw [e0] at hlr
  refine mm_snd (l := l) n 1000 209 0 (mm_L0 209 [.retAddr 100]) [] [] hp' _ hev p e room_1 s m _ below meth c s.heap [] 0 0 _ _ 0 0 ⟨hx, hb, hml, hown, fun w hw => hts w (List.mem_filter.mp hw).1, hE, ?_, by decide, by decide⟩ ⟨rfl, fun _ _ => rfl, fun k c h => by simp at h⟩ hlr ?_ (fun q hq => by cases hq) rfl rfl (by show _ ≤ 0 + 600000; omega) (by show _ ≤ 0 + 7302250; omega) ?_
  · exact fun h => absurd h (by decide)
  · exact hlr.1
  · intro H' locs' cells' slots' pc' ls' i st' hrp' hlo' hc' hs' hd hrv
    rcases mm_rv_inv hrv with ⟨v, ty, rfl, rfl, hrt, hfv, hv⟩ | ⟨v, ty, rfl, rfl, hv, hrt, hty, hvv⟩ | ⟨rfl, rfl, hrt, hv⟩
    · cases hv
      refine va_forget hlo' ?_
      refine W.widen (k := 600000) (n := 7302250) (by omega) (by omega) ?_
      exact lw_ret hx hb hr hlocks hd
    · rcases hty with ⟨n, rfl⟩ | ⟨t, rfl⟩ <;> exact nomatch (show (some FieldType.boolean) = some _ from hrt)
    · cases hv
