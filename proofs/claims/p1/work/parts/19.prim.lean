def mm_q0 (as : List Value) : Option (Option Value) := match as with
  | [.ref _] => some none
  | _ => none
def mm_q1 (as : List Value) : Option (Option Value) := match as with
  | [.int x, .int y] => some (some (.int (if y < x then y else x)))
  | _ => none
def mm_q2 (as : List Value) : Option (Option Value) := match as with
  | [.int x, .int y] => some (some (.int (if x < y then y else x)))
  | _ => none
def mm_q3 (d : Nat) (as : List Value) : Option (Option Value) := match as with
  | [.retAddr i] => (match mm_tx[i]? with
    | some t => if 4 ≤ d then some (some (.int (Int32.ofNat t.length))) else none
    | none => none)
  | _ => none
def mm_q4 (d : Nat) (as : List Value) : Option (Option Value) := match as with
  | [.retAddr i, .int j] => (match mm_tx[i]? with
    | some t => if 4 ≤ d ∧ 0 ≤ j then (match t[j.toNatClampNeg]? with
      | some ch => some (some (.int (nI ch)))
      | none => none) else none
    | none => none)
  | _ => none
theorem mm_pm_init {d : Nat} {as : List Value} {v : Option Value} (h : mm_pm 9000 d as = some v) : ∃ x, as = [.ref x] ∧ v = none := by
  replace h : mm_q0 as = some v := h
  unfold mm_q0 at h
  split at h
  · cases h; exact ⟨_, rfl, rfl⟩
  · cases h
theorem mm_pm_min {d : Nat} {as : List Value} {v : Option Value} (h : mm_pm 9001 d as = some v) : ∃ x y, as = [.int x, .int y] ∧ v = some (.int (if y < x then y else x)) := by
  replace h : mm_q1 as = some v := h
  unfold mm_q1 at h
  split at h
  · cases h; exact ⟨_, _, rfl, rfl⟩
  · cases h
theorem mm_pm_max {d : Nat} {as : List Value} {v : Option Value} (h : mm_pm 9002 d as = some v) : ∃ x y, as = [.int x, .int y] ∧ v = some (.int (if x < y then y else x)) := by
  replace h : mm_q2 as = some v := h
  unfold mm_q2 at h
  split at h
  · cases h; exact ⟨_, _, rfl, rfl⟩
  · cases h
theorem mm_pm_len {d : Nat} {as : List Value} {v : Option Value} (h : mm_pm 9003 d as = some v) : ∃ i t, as = [.retAddr i] ∧ mm_tx[i]? = some t ∧ 4 ≤ d ∧ v = some (.int (nI t.length)) := by
  replace h : mm_q3 d as = some v := h
  unfold mm_q3 at h
  split at h
  · rename_i i
    split at h
    · rename_i t ht
      split at h
      · rename_i hd
        cases h; exact ⟨i, t, rfl, ht, hd, rfl⟩
      · cases h
    · cases h
  · cases h
theorem mm_pm_chr {d : Nat} {as : List Value} {v : Option Value} (h : mm_pm 9004 d as = some v) : ∃ i t n, as = [.retAddr i, .int (nI n)] ∧ mm_tx[i]? = some t ∧ 4 ≤ d ∧ n < t.length ∧ v = some (.int (nI (t.getD n 0))) := by
  replace h : mm_q4 d as = some v := h
  unfold mm_q4 at h
  split at h
  · rename_i i j
    split at h
    · rename_i t ht
      split at h
      · rename_i hd
        split at h
        · rename_i ch hch
          cases h
          obtain ⟨n, hn, rfl⟩ := nI_of (mm_nn hd.2)
          rw [nI_clamp hn] at hch
          refine ⟨i, t, n, rfl, ht, hd.1, (List.getElem?_eq_some_iff.mp hch).1, ?_⟩
          rw [List.getD_eq_getElem?_getD, hch]
          rfl
        · cases h
      · cases h
    · cases h
  · cases h
section MMQ
variable {p : Program} {l : Launch} {e : Env} {R : Room} {s : State} {m : MethodId} {args : Array Value} {below : List Frame} {meth : Method} {c : Code} {H : Heap} {locs : List Loc} {cells slots : Nat} {Q : State → Prop}
variable {D : va_G} {dA : Nat → ClassId} {h0 : Heap} {ad : Nat → Nat} {X : List Int32}
set_option maxRecDepth 100000 in
set_option maxHeartbeats 4000000 in
theorem mm_pm_W {d mi pc len : Nat} {ls : Array Slot} {a : mm_A} {i : Instr} {st : List Value} {q : List Value × List Value} {v : Option Value} {hp : mm_H} (hx : p.tables.exec = Jvm.exec) (hb : c.code = mm_by mi) (hml : c.maxLocals = mm_ml mi) (hown : s.vm.findClass (mm_y mi).cls = some m.cls) (hts : ∀ w ∈ mm_gd, w.before args s = true) (hE : mm_Es D dA h0 ad X s)
    (hd : decode (mm_by mi) pc = .ok (i, len)) (hpk : mm_pk i len a pc = true) (hiv : mm_iv i = true) (hstk : mm_stk mi i a) (ha : 9000 ≤ a.1) (e1 : st = q.1.reverse ++ q.2) (e3 : (q.2.map Value.category).sum ≤ 8) (hpm : mm_pm a.1 d q.1 = some v) (hls : ls.size = mm_ml mi) (hrp : mm_rp D dA h0 ad hp H) (hc : cells ≤ R.cells) (hs : slots ≤ R.slots) (hfr : d + 1 ≤ R.frames) (hlc : 64 * (d + 1) ≤ R.locals)
    (k : W p l e R s m args below meth c H locs cells slots Q (F0 m (pc + len) ls ((v.toList ++ q.2).map (mm_tr h0.size ad)))) : W p l e R s m args below meth c H locs cells slots Q (F0 m pc ls (st.map (mm_tr h0.size ad))) := by
  have hroom : (((q.2.map (mm_tr h0.size ad)).map fun v => v.category).sum) ≤ 8 := by rw [mm_cats]; exact e3
  have hmls : c.maxLocals = ls.size := hml.trans hls.symm
  obtain ⟨as, rest⟩ := q
  dsimp only at e1 e3 hpm k hroom
  subst e1
  cases i
  case invokestatic idx =>
    cases mm_b1 (n := 3) hpk
    obtain ⟨h9, hl⟩ := hstk.2 ha
    rcases h9 with h9 | h9
    · rw [h9] at hpm hl
      obtain ⟨x, y, rfl, rfl⟩ := mm_pm_min hpm
      exact va_mmin (rest := rest.map (mm_tr h0.size ad)) hx hb hmls hown (hts _ hl) (hts _ (mm_in (w := .static Jvm.Lib.Math.min.name) 252 rfl rfl)) (hts _ (mm_in (w := .initialized "java/lang/Math") 109 rfl rfl)) (hts _ (mm_in (w := .code Jvm.Lib.Math.min.name Jvm.Lib.Math.min.code 2 (some .int)) 253 rfl rfl)) (by omega) (by omega) hc hs hd k
    · rw [h9] at hpm hl
      obtain ⟨x, y, rfl, rfl⟩ := mm_pm_max hpm
      exact va_mmax (rest := rest.map (mm_tr h0.size ad)) hx hb hmls hown (hts _ hl) (hts _ (mm_in (w := .static Jvm.Lib.Math.max.name) 255 rfl rfl)) (hts _ (mm_in (w := .initialized "java/lang/Math") 109 rfl rfl)) (hts _ (mm_in (w := .code Jvm.Lib.Math.max.name Jvm.Lib.Math.max.code 2 (some .int)) 256 rfl rfl)) (by omega) (by omega) hc hs hd k
  case invokespecial idx =>
    cases mm_b1 (n := 3) hpk
    obtain ⟨h9, hl⟩ := hstk.2 ha
    rw [h9] at hpm hl
    obtain ⟨x, rfl, rfl⟩ := mm_pm_init hpm
    exact W.objInit (rest := rest.map (mm_tr h0.size ad)) hx hb hown (hts _ hl) (hts _ (mm_in (w := .instanceMethod Jvm.Lib.objectInit) 122 rfl rfl)) (hts _ (mm_in (w := .code Jvm.Lib.objectInit ⟨#[0xb1]⟩ 1 none) 123 rfl rfl)) rfl hmls.symm rfl hd (by omega) (by show 2 * 0 + _ + 12 ≤ _; omega) k
  case invokevirtual idx =>
    cases mm_b1 (n := 3) hpk
    obtain ⟨h9, hl⟩ := hstk.2 ha
    rcases h9 with h9 | h9
    · rw [h9] at hpm hl
      obtain ⟨i, t, rfl, ht, hd4, rfl⟩ := mm_pm_len hpm
      obtain ⟨vq, hF⟩ := mm_Sx.str (U := { s with heap := H }) (hE.2.2.same rfl) hrp.2.1 ht
      obtain ⟨cq, r1, r2, r3, -⟩ := hF.2.2.1
      have cw := callB_of (own := (mm_y mi).cls) (index := idx) (y := mj_yle) (R := R) (rm := mm_room 1 0 0) (mc := 0) (ms := 0) (bytes := prog_14_method_54_code) (maxL := 1) (ret := some .int) 0 hts (mj_good 152 rfl) rfl rfl rfl (hts _ (mm_in (w := .initialized "java/lang/String") 103 rfl rfl)) (hts _ hl) (by decide +kernel) ⟨by show 1 + 1 ≤ R.frames; omega, by show 8 + (1 + 11) + 64 * 1 ≤ R.locals; omega⟩
      exact mj_call (va_runV (C := "java/lang/String") (b := ad i) (As := []) (rest := rest.map (mm_tr h0.size ad)) ⟨hx, hb, hml, hown, hts⟩ (mj_len l (ad i) vq t) ⟨cw, hts (.instanceMethod mj_yle) (mm_in 150 rfl rfl), hts (.selects "java/lang/String" mj_yle mj_yle) (mm_in 151 rfl rfl)⟩ ⟨mj_blind, ⟨cq, r1, r2, r3⟩, fun U hU hW => ⟨rfl, hF.moved (u := { s with heap := H }) hW.alike hU⟩⟩ rfl rfl hls rfl (lv_room hroom) hd ⟨hc, hs⟩) k
    · rw [h9] at hpm hl
      obtain ⟨i, t, n, rfl, ht, hd4, hn, rfl⟩ := mm_pm_chr hpm
      obtain ⟨vq, hF⟩ := mm_Sx.str (U := { s with heap := H }) (hE.2.2.same rfl) hrp.2.1 ht
      obtain ⟨cq, r1, r2, r3, -⟩ := hF.2.2.1
      have cw := callB_of (own := (mm_y mi).cls) (index := idx) (y := mj_yca) (R := R) (rm := mm_room 3 0 0) (mc := 0) (ms := 0) (bytes := prog_14_method_56_code) (maxL := 2) (ret := some .char) 1 hts (mj_good 196 rfl) rfl rfl rfl (hts _ (mm_in (w := .initialized "java/lang/String") 103 rfl rfl)) (hts _ hl) (by decide +kernel) ⟨by show 3 + 1 ≤ R.frames; omega, by show 8 + (2 + 11) + 64 * 3 ≤ R.locals; omega⟩
      exact mj_call (va_runV (C := "java/lang/String") (b := ad i) (As := [.int (nI n)]) (rest := rest.map (mm_tr h0.size ad)) ⟨hx, hb, hml, hown, hts⟩ (mj_chr l (ad i) vq t n hn) ⟨cw, hts (.instanceMethod mj_yca) (mm_in 194 rfl rfl), hts (.selects "java/lang/String" mj_yca mj_yca) (mm_in 195 rfl rfl)⟩ ⟨mj_blind, ⟨cq, r1, r2, r3⟩, fun U hU hW => ⟨rfl, hF.moved (u := { s with heap := H }) hW.alike hU⟩⟩ rfl rfl hls rfl (lv_room hroom) hd ⟨hc, hs⟩) k
  all_goals exact nomatch (show false = true from hiv)
end MMQ
