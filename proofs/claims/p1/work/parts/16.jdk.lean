/-! the library's String.length and String.charAt on text constants -/
abbrev mj_N : Nat → Prop := fun _ => False
def mj_F (q vq : Nat) (t : List Nat) (U : State) : Prop :=
  va_Z "java/lang/String" "COMPACT_STRINGS" "Z" (.int 1) mj_N U U.heap ∧ (∃ fv : Value, (fv = .null ∨ ∃ a, fv = .ref a) ∧ va_Z "jdk/internal/util/Preconditions" "SIOOBE_FORMATTER" "Ljava/util/function/BiFunction;" fv mj_N U U.heap) ∧
  va_O "java/lang/String" q mj_N U U.heap ∧ va_OF "java/lang/String" "coder" "B" (.int 0) q mj_N U U.heap ∧ va_OF "java/lang/String" "value" "[B" (.ref vq) q mj_N U U.heap ∧ va_T .byte vq t.length (fun j => .int (nI (t.getD j 0))) mj_N U U.heap ∧ t.length < 1000 ∧ ∀ j, j < t.length → t.getD j 0 < 128
theorem mj_F.moved {q vq : Nat} {t : List Nat} {u U : State} (hvm : u.vm.Alike U.vm) (hh : U.heap = u.heap) (h : mj_F q vq t u) : mj_F q vq t U := by
  obtain ⟨h1, ⟨fv, h2, h3⟩, h4, h5, h6, h7, h8⟩ := h
  unfold mj_F
  rw [hh]
  exact ⟨va_Z.moved hvm h1, ⟨fv, h2, va_Z.moved hvm h3⟩, va_O.moved hvm h4, va_OF.moved hvm h5, va_OF.moved hvm h6, va_T.moved hvm h7, h8⟩
abbrev mj_P (as : List Value) (q vq : Nat) (t : List Nat) : Array Value → State → Prop := va_Pc as (mj_F q vq t)
abbrev mj_Q (r : Option Value) : Array Value → State → Outcome → State → Prop := fun _ st o t => o = .returned r ∧ t.heap = st.heap
theorem mj_blind {as : List Value} {q vq : Nat} {t : List Nat} : FrameBlind (mj_P as q vq t) := fun _ U _ _ h => ⟨h.1, mj_F.moved (u := U) (Vm.Alike.refl U.vm) rfl h.2⟩
def mj_ws (y : MethodName) (b : ByteArray) (n : Nat) (r : Option FieldType) : List Cond := .code y b n r :: mm_gd
theorem mj_good {y : MethodName} {b : ByteArray} {n : Nat} {r : Option FieldType} (p : Nat) (h : lw_tbl[p]? = some (.code y b n r)) : GoodIn mm_gd (mj_ws y b n r) := by
  intro w hw
  rcases List.mem_cons.mp hw with rfl | hw
  · exact ⟨mm_in p h rfl, mm_gd_good _ (mm_in p h rfl)⟩
  · exact ⟨hw, mm_gd_good _ hw⟩
section MJC
variable {p : Program} {l : Launch} {e : Env} {R : Room} {s : State} {m : MethodId} {args : Array Value} {below : List Frame} {meth : Method} {c : Code} {H : Heap} {locs : List Loc} {cells slots : Nat} {Q : State → Prop}
theorem mj_call {pc : Nat} {ls : Array Slot} {st0 rest : List Value} {r : Option Value} {aa : Array Value} (hr : va_Run p l e R s m args below meth c H locs cells slots 0 0 (F0 m pc ls st0) rest (mj_Q r aa) (fun _ => False))
    (kk : W p l e R s m args below meth c H locs cells slots Q (F0 m (pc + 3) ls (r.toList ++ rest))) : W p l e R s m args below meth c H locs cells slots Q (F0 m pc ls st0) := by
  intro T hT X
  obtain ⟨v, st₀, t, T', L, h0, X', hL, e1, e2, ⟨hq1, hq2⟩, st⟩ := hr T hT X
  obtain rfl : v = r := Outcome.returned.inj hq1
  have hLe : L = [] := List.eq_nil_iff_forall_not_mem.mpr (fun q hq => hL q hq)
  subst hLe
  rw [List.append_nil] at X'
  obtain ⟨t2, a1, b1⟩ := kk T' (by rw [e1, hq2, h0]) X'
  exact ⟨t2, st t2 a1, b1⟩
end MJC
abbrev mj_yco : MethodName := ⟨"java/lang/String", "coder", "()B"⟩
abbrev mj_yil : MethodName := ⟨"java/lang/String", "isLatin1", "()Z"⟩
abbrev mj_yle : MethodName := ⟨"java/lang/String", "length", "()I"⟩
abbrev mj_yca : MethodName := ⟨"java/lang/String", "charAt", "(I)C"⟩
abbrev mj_ylc : MethodName := ⟨"java/lang/StringLatin1", "charAt", "([BI)C"⟩
abbrev mj_yci : MethodName := ⟨"java/lang/String", "checkIndex", "(II)V"⟩
abbrev mj_ypc : MethodName := ⟨"jdk/internal/util/Preconditions", "checkIndex", "(IILjava/util/function/BiFunction;)I"⟩
set_option maxRecDepth 100000 in
theorem mj_coder (l : Launch) (q vq : Nat) (t : List Nat) : Met l mj_yco (mj_ws mj_yco prog_14_method_152_code 1 (some .byte)) (mm_room 0 0 0) (mj_P [.ref q] q vq t) (mj_Q (some (.int 0))) 0 0 (fun _ => False) := by
  refine Met.ofW (cc := prog_14_method_152_code) (maxL := 1) (ret := some .byte) (by decide +kernel) rfl ?_
  intro p e s m args below meth c s₁ B hml hv
  obtain ⟨rfl, hF⟩ := hv
  obtain ⟨z1, z2, z3, z4, z5, z6, z7, z8⟩ := id hF
  have hx := B.exec
  have hb := B.bytes
  have hts := atoms_spec (ws := mj_ws mj_yco prog_14_method_152_code 1 (some .byte)) B.pre
  have hts : ∀ w ∈ mm_gd, w.before _ s = true := fun w hw => hts w (List.mem_cons_of_mem _ hw)
  have hown : s.vm.findClass "java/lang/String" = some m.cls := findClass_of_methodNamed B.named
  have hS : va_S mj_N s.heap s.heap [] := va_S.rf
  have hl := lv_entry ([.ref q]) (n := 1) (Nat.le_of_ble_eq_true rfl)
  rw [lg_entry_eq]
  generalize (lg_sl ([.ref q]) ++ List.replicate (1 - (lg_sl ([.ref q])).length) Slot.unset).toArray = ls at hl ⊢
  have hl : lv_has ls 1 [(0, .ref q)] := hl
  refine va_gets hx hb z1 hS hown (hts (.fieldLink "java/lang/String" 38 "java/lang/String" "COMPACT_STRINGS" "Z") (mm_in 157 rfl rfl)) (fun _ h => h) (by decide +kernel) ?_
  refine lv_if_eq (tgt := 13) (off := 10) hx hb (by decide +kernel) (by decide) (fun h => absurd h (by decide)) (fun _ => ?_)
  refine lv_aload_n (k := 0) hx hb (by decide +kernel) rfl (lv_at hl 0 rfl) ?_
  refine vk_getf hx hb z4 hS hown (hts (.fieldLink "java/lang/String" 15 "java/lang/String" "coder" "B") (mm_in 1509 rfl rfl)) (fun _ h => h) (by decide +kernel) ?_
  refine lv_goto (off := 4) (tgt := 14) hx hb (by decide +kernel) (by decide) ?_
  exact W.zret (ty := .byte) hx hb B.returns (by decide) (fun t ht _ => ⟨rfl, ht⟩) (fun _ h => by cases h) (by decide +kernel) B.notSynchronized
set_option maxRecDepth 100000 in
theorem mj_latin (l : Launch) (q vq : Nat) (t : List Nat) : Met l mj_yil (mj_ws mj_yil prog_14_method_154_code 1 (some .boolean)) (mm_room 0 0 0) (mj_P [.ref q] q vq t) (mj_Q (some (.int 1))) 0 0 (fun _ => False) := by
  refine Met.ofW (cc := prog_14_method_154_code) (maxL := 1) (ret := some .boolean) (by decide +kernel) rfl ?_
  intro p e s m args below meth c s₁ B hml hv
  obtain ⟨rfl, hF⟩ := hv
  obtain ⟨z1, z2, z3, z4, z5, z6, z7, z8⟩ := id hF
  have hx := B.exec
  have hb := B.bytes
  have hts := atoms_spec (ws := mj_ws mj_yil prog_14_method_154_code 1 (some .boolean)) B.pre
  have hts : ∀ w ∈ mm_gd, w.before _ s = true := fun w hw => hts w (List.mem_cons_of_mem _ hw)
  have hown : s.vm.findClass "java/lang/String" = some m.cls := findClass_of_methodNamed B.named
  have hS : va_S mj_N s.heap s.heap [] := va_S.rf
  have hl := lv_entry ([.ref q]) (n := 1) (Nat.le_of_ble_eq_true rfl)
  rw [lg_entry_eq]
  generalize (lg_sl ([.ref q]) ++ List.replicate (1 - (lg_sl ([.ref q])).length) Slot.unset).toArray = ls at hl ⊢
  have hl : lv_has ls 1 [(0, .ref q)] := hl
  refine va_gets hx hb z1 hS hown (hts (.fieldLink "java/lang/String" 38 "java/lang/String" "COMPACT_STRINGS" "Z") (mm_in 157 rfl rfl)) (fun _ h => h) (by decide +kernel) ?_
  refine lv_if_eq (tgt := 17) (off := 14) hx hb (by decide +kernel) (by decide) (fun h => absurd h (by decide)) (fun _ => ?_)
  refine lv_aload_n (k := 0) hx hb (by decide +kernel) rfl (lv_at hl 0 rfl) ?_
  refine vk_getf hx hb z4 hS hown (hts (.fieldLink "java/lang/String" 15 "java/lang/String" "coder" "B") (mm_in 1509 rfl rfl)) (fun _ h => h) (by decide +kernel) ?_
  refine lv_if_ne (tgt := 17) (off := 7) hx hb (by decide +kernel) (by decide) (fun h => absurd rfl h) (fun _ => ?_)
  refine lv_iconst (n := 1) (v := 1) hx hb (by decide +kernel) (by decide) ?_
  refine lv_goto (off := 4) (tgt := 18) hx hb (by decide +kernel) (by decide) ?_
  exact W.zret (ty := .boolean) hx hb B.returns (by decide) (fun t ht _ => ⟨rfl, ht⟩) (fun _ h => by cases h) (by decide +kernel) B.notSynchronized
set_option maxRecDepth 100000 in
theorem mj_pre (l : Launch) (q vq : Nat) (t : List Nat) (j n : Int32) (fv : Value) (hfv : fv = .null ∨ ∃ a, fv = .ref a) (h0 : ¬ j < 0) (h1 : j < n) : Met l mj_ypc (mj_ws mj_ypc prog_17_method_11_code 3 (some .int)) (mm_room 0 0 0) (mj_P [.int j, .int n, fv] q vq t) (mj_Q (some (.int j))) 0 0 (fun _ => False) := by
  refine Met.ofW (cc := prog_17_method_11_code) (maxL := 3) (ret := some .int) (by decide +kernel) rfl ?_
  intro p e s m args below meth c s₁ B hml hv
  obtain ⟨rfl, hF⟩ := hv
  have hx := B.exec
  have hb := B.bytes
  have hcat : fv.category = 1 := by rcases hfv with rfl | ⟨a, rfl⟩ <;> rfl
  have hl := lv_entry ([.int j, .int n, fv]) (n := 3) (by rw [mm_sl1 (by intro v hv; rcases List.mem_cons.mp hv with rfl | hv; rfl; rcases List.mem_cons.mp hv with rfl | hv; rfl; rw [List.mem_singleton.mp hv]; exact hcat)]; exact Nat.le_refl 3)
  rw [lg_entry_eq]
  generalize (lg_sl ([.int j, .int n, fv]) ++ List.replicate (3 - (lg_sl ([.int j, .int n, fv])).length) Slot.unset).toArray = ls at hl ⊢
  have g0 : ls[0]? = some (.val (.int j)) := lv_at hl 0 rfl
  have g1 : ls[1]? = some (.val (.int n)) := lv_at hl 1 rfl
  refine lv_iload_n (k := 0) hx hb (by decide +kernel) rfl g0 ?_
  refine lv_if_lt (tgt := 9) (off := 8) hx hb (by decide +kernel) (by decide) (fun h => absurd h h0) (fun _ => ?_)
  refine lv_iload_n (k := 0) hx hb (by decide +kernel) rfl g0 ?_
  refine lv_iload_n (k := 1) hx hb (by decide +kernel) rfl g1 ?_
  refine lv_icmp_lt (tgt := 16) (off := 10) hx hb (by decide +kernel) (by decide) (fun _ => ?_) (fun h => absurd h1 h)
  refine lv_iload_n (k := 0) hx hb (by decide +kernel) rfl g0 ?_
  exact W.zret (ty := .int) hx hb B.returns rfl (fun t ht _ => ⟨rfl, ht⟩) (fun _ h => by cases h) (by decide +kernel) B.notSynchronized
set_option maxRecDepth 100000 in
theorem mj_chk (l : Launch) (q vq : Nat) (t : List Nat) (j n : Int32) (h0 : ¬ j < 0) (h1 : j < n) : Met l mj_yci (mj_ws mj_yci prog_14_method_155_code 2 none) (mm_room 1 0 0) (mj_P [.int j, .int n] q vq t) (mj_Q none) 0 0 (fun _ => False) := by
  refine Met.ofW (cc := prog_14_method_155_code) (maxL := 2) (ret := none) (by decide +kernel) rfl ?_
  intro p e s m args below meth c s₁ B hml hv
  obtain ⟨rfl, hF⟩ := hv
  obtain ⟨z1, ⟨fv, hfv, z2⟩, z3, z4, z5, z6, z7, z8⟩ := id hF
  have hx := B.exec
  have hb := B.bytes
  have hts := atoms_spec (ws := mj_ws mj_yci prog_14_method_155_code 2 none) B.pre
  have hts : ∀ w ∈ mm_gd, w.before _ s = true := fun w hw => hts w (List.mem_cons_of_mem _ hw)
  have hown : s.vm.findClass "java/lang/String" = some m.cls := findClass_of_methodNamed B.named
  have hS : va_S mj_N s.heap s.heap [] := va_S.rf
  have hl := lv_entry ([.int j, .int n]) (n := 2) (Nat.le_of_ble_eq_true rfl)
  rw [lg_entry_eq]
  generalize (lg_sl ([.int j, .int n]) ++ List.replicate (2 - (lg_sl ([.int j, .int n])).length) Slot.unset).toArray = ls at hl ⊢
  have hl : lv_has ls 2 [(0, .int j), (1, .int n)] := hl
  refine lv_iload_n (k := 0) hx hb (by decide +kernel) rfl (lv_at hl 0 rfl) ?_
  refine lv_iload_n (k := 1) hx hb (by decide +kernel) rfl (lv_at hl 1 rfl) ?_
  refine va_gets hx hb z2 hS hown (hts (.fieldLink "java/lang/String" 1053 "jdk/internal/util/Preconditions" "SIOOBE_FORMATTER" "Ljava/util/function/BiFunction;") (mm_in 207 rfl rfl)) (fun _ h => h) (by decide +kernel) ?_
  have cw := callB_of (own := "java/lang/String") (index := 1059) (y := mj_ypc) (R := (headSpec (mj_ws mj_yci prog_14_method_155_code 2 none) (mm_room 1 0 0)).room) (rm := mm_room 0 0 0) (mc := 0) (ms := 0) (bytes := prog_17_method_11_code) (maxL := 3) (ret := some .int) 3 hts (mj_good 211 rfl) rfl rfl rfl (hts _ (mm_in (w := .initialized "jdk/internal/util/Preconditions") 105 rfl rfl)) (hts (.methodLink "java/lang/String" 1059 mj_ypc) (mm_in 209 rfl rfl)) (by decide +kernel) ⟨Nat.le_of_ble_eq_true rfl, Nat.le_of_ble_eq_true rfl⟩
  refine mj_call (va_runS (As := [.int j, .int n, fv]) (rest := []) ⟨hx, hb, hml, hown, hts⟩ (mj_pre l q vq t j n fv hfv h0 h1) ⟨cw, hts (.static mj_ypc) (mm_in 210 rfl rfl)⟩ ⟨mj_blind, fun U hU hW => ⟨rfl, hF.moved hW.alike hU⟩⟩ rfl rfl hl.1 rfl (lv_room (Nat.le_of_ble_eq_true rfl)) (show decode prog_14_method_155_code 5 = .ok (.invokestatic 1059, 3) by decide +kernel) ⟨Nat.zero_le _, Nat.zero_le _⟩) ?_
  refine lv_pop (va := .int j) hx hb (by decide +kernel) rfl ?_
  exact W.vret hx hb B.returns (fun t ht _ => ⟨rfl, ht⟩) (fun _ h => by cases h) (by decide +kernel) B.notSynchronized
theorem mj_c128 : ∀ ch, ch < 128 → ((nI ch &&& 255).toUInt32 % 65536).toInt32 = nI ch := by decide +kernel
set_option maxRecDepth 100000 in
theorem mj_lat (l : Launch) (q vq : Nat) (t : List Nat) (j : Nat) (hj : j < t.length) : Met l mj_ylc (mj_ws mj_ylc prog_15_method_2_code 2 (some .char)) (mm_room 2 0 0) (mj_P [.ref vq, .int (nI j)] q vq t) (mj_Q (some (.int (nI (t.getD j 0))))) 0 0 (fun _ => False) := by
  refine Met.ofW (cc := prog_15_method_2_code) (maxL := 2) (ret := some .char) (by decide +kernel) rfl ?_
  intro p e s m args below meth c s₁ B hml hv
  obtain ⟨rfl, hF⟩ := hv
  obtain ⟨z1, z2, z3, z4, z5, z6, z7, z8⟩ := id hF
  have hx := B.exec
  have hb := B.bytes
  have hts := atoms_spec (ws := mj_ws mj_ylc prog_15_method_2_code 2 (some .char)) B.pre
  have hts : ∀ w ∈ mm_gd, w.before _ s = true := fun w hw => hts w (List.mem_cons_of_mem _ hw)
  have hown : s.vm.findClass "java/lang/StringLatin1" = some m.cls := findClass_of_methodNamed B.named
  have hS : va_S mj_N s.heap s.heap [] := va_S.rf
  have hl := lv_entry ([.ref vq, .int (nI j)]) (n := 2) (Nat.le_of_ble_eq_true rfl)
  rw [lg_entry_eq]
  generalize (lg_sl ([.ref vq, .int (nI j)]) ++ List.replicate (2 - (lg_sl ([.ref vq, .int (nI j)])).length) Slot.unset).toArray = ls at hl ⊢
  have hl : lv_has ls 2 [(0, .ref vq), (1, .int (nI j))] := hl
  refine lv_iload_n (k := 1) hx hb (by decide +kernel) rfl (lv_at hl 1 rfl) ?_
  refine lv_aload_n (k := 0) hx hb (by decide +kernel) rfl (lv_at hl 0 rfl) ?_
  refine va_tlen (v := nI t.length) hx hb z6 hS rfl (by decide +kernel) ?_
  have cw := callB_of (own := "java/lang/StringLatin1") (index := 9) (y := mj_yci) (R := (headSpec (mj_ws mj_ylc prog_15_method_2_code 2 (some .char)) (mm_room 2 0 0)).room) (rm := mm_room 1 0 0) (mc := 0) (ms := 0) (bytes := prog_14_method_155_code) (maxL := 2) (ret := none) 2 hts (mj_good 206 rfl) rfl rfl rfl (hts _ (mm_in (w := .initialized "java/lang/String") 103 rfl rfl)) (hts (.methodLink "java/lang/StringLatin1" 9 mj_yci) (mm_in 204 rfl rfl)) (by decide +kernel) ⟨Nat.le_of_ble_eq_true rfl, Nat.le_of_ble_eq_true rfl⟩
  refine mj_call (va_runS (As := [.int (nI j), .int (nI t.length)]) (rest := []) ⟨hx, hb, hml, hown, hts⟩ (mj_chk l q vq t (nI j) (nI t.length) (nI_pos (by omega)) (nI_lt hj (by omega))) ⟨cw, hts (.static mj_yci) (mm_in 205 rfl rfl)⟩ ⟨mj_blind, fun U hU hW => ⟨rfl, hF.moved hW.alike hU⟩⟩ rfl rfl hl.1 rfl (lv_room (Nat.le_of_ble_eq_true rfl)) (show decode prog_15_method_2_code 3 = .ok (.invokestatic 9, 3) by decide +kernel) ⟨Nat.zero_le _, Nat.zero_le _⟩) ?_
  refine lv_aload_n (k := 0) hx hb (by decide +kernel) rfl (lv_at hl 0 rfl) ?_
  refine lv_iload_n (k := 1) hx hb (by decide +kernel) rfl (lv_at hl 1 rfl) ?_
  refine va_tb (v := .int (nI (t.getD j 0))) hx hb z6 hS (vp_in_nI hj (by omega)) (by rw [nI_clamp (by omega)]) (by decide +kernel) ?_
  refine lv_sipush (n := 255) (v := 255) hx hb (by decide +kernel) (by decide) ?_
  refine lv_iand hx hb (by decide +kernel) ?_
  refine lv_i2c (v := nI (t.getD j 0)) hx hb (by decide +kernel) (mj_c128 _ (z8 j hj)) ?_
  exact W.zret (ty := .char) hx hb B.returns (pk_charN (by have := z8 j hj; omega)).1 (fun t ht _ => ⟨rfl, ht⟩) (fun _ h => by cases h) (by decide +kernel) B.notSynchronized
set_option maxRecDepth 100000 in
theorem mj_chr (l : Launch) (q vq : Nat) (t : List Nat) (j : Nat) (hj : j < t.length) : Met l mj_yca (mj_ws mj_yca prog_14_method_56_code 2 (some .char)) (mm_room 3 0 0) (mj_P [.ref q, .int (nI j)] q vq t) (mj_Q (some (.int (nI (t.getD j 0))))) 0 0 (fun _ => False) := by
  refine Met.ofW (cc := prog_14_method_56_code) (maxL := 2) (ret := some .char) (by decide +kernel) rfl ?_
  intro p e s m args below meth c s₁ B hml hv
  obtain ⟨rfl, hF⟩ := hv
  obtain ⟨z1, z2, z3, z4, z5, z6, z7, z8⟩ := id hF
  have hx := B.exec
  have hb := B.bytes
  have hts := atoms_spec (ws := mj_ws mj_yca prog_14_method_56_code 2 (some .char)) B.pre
  have hts : ∀ w ∈ mm_gd, w.before _ s = true := fun w hw => hts w (List.mem_cons_of_mem _ hw)
  have hown : s.vm.findClass "java/lang/String" = some m.cls := findClass_of_methodNamed B.named
  have hS : va_S mj_N s.heap s.heap [] := va_S.rf
  obtain ⟨cq, r1, r2, r3, -⟩ := z3
  have hl := lv_entry ([.ref q, .int (nI j)]) (n := 2) (Nat.le_of_ble_eq_true rfl)
  rw [lg_entry_eq]
  generalize (lg_sl ([.ref q, .int (nI j)]) ++ List.replicate (2 - (lg_sl ([.ref q, .int (nI j)])).length) Slot.unset).toArray = ls at hl ⊢
  have hl : lv_has ls 2 [(0, .ref q), (1, .int (nI j))] := hl
  refine lv_aload_n (k := 0) hx hb (by decide +kernel) rfl (lv_at hl 0 rfl) ?_
  have cw := callB_of (own := "java/lang/String") (index := 492) (y := mj_yil) (R := (headSpec (mj_ws mj_yca prog_14_method_56_code 2 (some .char)) (mm_room 3 0 0)).room) (rm := mm_room 0 0 0) (mc := 0) (ms := 0) (bytes := prog_14_method_154_code) (maxL := 1) (ret := some .boolean) 0 hts (mj_good 200 rfl) rfl rfl rfl (hts _ (mm_in (w := .initialized "java/lang/String") 103 rfl rfl)) (hts (.methodLink "java/lang/String" 492 mj_yil) (mm_in 197 rfl rfl)) (by decide +kernel) ⟨Nat.le_of_ble_eq_true rfl, Nat.le_of_ble_eq_true rfl⟩
  refine mj_call (va_runV (C := "java/lang/String") (As := []) (rest := []) ⟨hx, hb, hml, hown, hts⟩ (mj_latin l q vq t) ⟨cw, hts (.instanceMethod mj_yil) (mm_in 198 rfl rfl), hts (.selects "java/lang/String" mj_yil mj_yil) (mm_in 199 rfl rfl)⟩ ⟨mj_blind, ⟨cq, r1, r2, r3⟩, fun U hU hW => ⟨rfl, hF.moved hW.alike hU⟩⟩ rfl rfl hl.1 rfl (lv_room (Nat.le_of_ble_eq_true rfl)) (show decode prog_14_method_56_code 1 = .ok (.invokevirtual 492, 3) by decide +kernel) ⟨Nat.zero_le _, Nat.zero_le _⟩) ?_
  refine lv_if_eq (x := 1) (tgt := 16) (off := 12) hx hb (by decide +kernel) (by decide) (fun h => absurd h (by decide)) (fun _ => ?_)
  refine lv_aload_n (k := 0) hx hb (by decide +kernel) rfl (lv_at hl 0 rfl) ?_
  refine vk_getf hx hb z5 hS hown (hts (.fieldLink "java/lang/String" 9 "java/lang/String" "value" "[B") (mm_in 1508 rfl rfl)) (fun _ h => h) (by decide +kernel) ?_
  refine lv_iload_n (k := 1) hx hb (by decide +kernel) rfl (lv_at hl 1 rfl) ?_
  have cw2 := callB_of (own := "java/lang/String") (index := 495) (y := mj_ylc) (R := (headSpec (mj_ws mj_yca prog_14_method_56_code 2 (some .char)) (mm_room 3 0 0)).room) (rm := mm_room 2 0 0) (mc := 0) (ms := 0) (bytes := prog_15_method_2_code) (maxL := 2) (ret := some .char) 2 hts (mj_good 203 rfl) rfl rfl rfl (hts _ (mm_in (w := .initialized "java/lang/StringLatin1") 104 rfl rfl)) (hts (.methodLink "java/lang/String" 495 mj_ylc) (mm_in 201 rfl rfl)) (by decide +kernel) ⟨Nat.le_of_ble_eq_true rfl, Nat.le_of_ble_eq_true rfl⟩
  refine mj_call (va_runS (As := [.ref vq, .int (nI j)]) (rest := []) ⟨hx, hb, hml, hown, hts⟩ (mj_lat l q vq t j hj) ⟨cw2, hts (.static mj_ylc) (mm_in 202 rfl rfl)⟩ ⟨mj_blind, fun U hU hW => ⟨rfl, hF.moved hW.alike hU⟩⟩ rfl rfl hl.1 rfl (lv_room (Nat.le_of_ble_eq_true rfl)) (show decode prog_14_method_56_code 12 = .ok (.invokestatic 495, 3) by decide +kernel) ⟨Nat.zero_le _, Nat.zero_le _⟩) ?_
  exact W.zret (ty := .char) hx hb B.returns (pk_charN (by have := z8 j hj; omega)).1 (fun t ht _ => ⟨rfl, ht⟩) (fun _ h => by cases h) (by decide +kernel) B.notSynchronized
set_option maxRecDepth 100000 in
theorem mj_len (l : Launch) (q vq : Nat) (t : List Nat) : Met l mj_yle (mj_ws mj_yle prog_14_method_54_code 1 (some .int)) (mm_room 1 0 0) (mj_P [.ref q] q vq t) (mj_Q (some (.int (nI t.length)))) 0 0 (fun _ => False) := by
  refine Met.ofW (cc := prog_14_method_54_code) (maxL := 1) (ret := some .int) (by decide +kernel) rfl ?_
  intro p e s m args below meth c s₁ B hml hv
  obtain ⟨rfl, hF⟩ := hv
  obtain ⟨z1, z2, z3, z4, z5, z6, z7, z8⟩ := id hF
  have hx := B.exec
  have hb := B.bytes
  have hts := atoms_spec (ws := mj_ws mj_yle prog_14_method_54_code 1 (some .int)) B.pre
  have hts : ∀ w ∈ mm_gd, w.before _ s = true := fun w hw => hts w (List.mem_cons_of_mem _ hw)
  have hown : s.vm.findClass "java/lang/String" = some m.cls := findClass_of_methodNamed B.named
  have hS : va_S mj_N s.heap s.heap [] := va_S.rf
  obtain ⟨cq, r1, r2, r3, -⟩ := z3
  have hl := lv_entry ([.ref q]) (n := 1) (Nat.le_of_ble_eq_true rfl)
  rw [lg_entry_eq]
  generalize (lg_sl ([.ref q]) ++ List.replicate (1 - (lg_sl ([.ref q])).length) Slot.unset).toArray = ls at hl ⊢
  have hl : lv_has ls 1 [(0, .ref q)] := hl
  refine lv_aload_n (k := 0) hx hb (by decide +kernel) rfl (lv_at hl 0 rfl) ?_
  refine vk_getf hx hb z5 hS hown (hts (.fieldLink "java/lang/String" 9 "java/lang/String" "value" "[B") (mm_in 1508 rfl rfl)) (fun _ h => h) (by decide +kernel) ?_
  refine va_tlen (v := nI t.length) hx hb z6 hS rfl (by decide +kernel) ?_
  refine lv_aload_n (k := 0) hx hb (by decide +kernel) rfl (lv_at hl 0 rfl) ?_
  have cw := callB_of (own := "java/lang/String") (index := 335) (y := mj_yco) (R := (headSpec (mj_ws mj_yle prog_14_method_54_code 1 (some .int)) (mm_room 1 0 0)).room) (rm := mm_room 0 0 0) (mc := 0) (ms := 0) (bytes := prog_14_method_152_code) (maxL := 1) (ret := some .byte) 0 hts (mj_good 156 rfl) rfl rfl rfl (hts _ (mm_in (w := .initialized "java/lang/String") 103 rfl rfl)) (hts (.methodLink "java/lang/String" 335 mj_yco) (mm_in 153 rfl rfl)) (by decide +kernel) ⟨Nat.le_of_ble_eq_true rfl, Nat.le_of_ble_eq_true rfl⟩
  refine mj_call (va_runV (C := "java/lang/String") (As := []) (rest := [.int (nI t.length)]) ⟨hx, hb, hml, hown, hts⟩ (mj_coder l q vq t) ⟨cw, hts (.instanceMethod mj_yco) (mm_in 154 rfl rfl), hts (.selects "java/lang/String" mj_yco mj_yco) (mm_in 155 rfl rfl)⟩ ⟨mj_blind, ⟨cq, r1, r2, r3⟩, fun U hU hW => ⟨rfl, hF.moved hW.alike hU⟩⟩ rfl rfl hl.1 rfl (lv_room (Nat.le_of_ble_eq_true rfl)) (show decode prog_14_method_54_code 6 = .ok (.invokevirtual 335, 3) by decide +kernel) ⟨Nat.zero_le _, Nat.zero_le _⟩) ?_
  refine lv_ishr (x := nI t.length) (y := 0) hx hb (by decide +kernel) ?_
  rw [sb_shr0]
  exact W.zret (ty := .int) hx hb B.returns rfl (fun t ht _ => ⟨rfl, ht⟩) (fun _ h => by cases h) (by decide +kernel) B.notSynchronized
