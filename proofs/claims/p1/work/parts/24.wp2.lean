theorem mw_c1 {v : Value} (h : mm_isr v = true) : mm_c1 v = true := by
  cases v <;> first | rfl | exact nomatch (show false = true from h)
theorem mw_an : ([] : List Value).all mm_c1 = true := rfl
theorem mw_ac {v : Value} {l : List Value} (h : mm_c1 v = true) (hl : l.all mm_c1 = true) : (v :: l).all mm_c1 = true := by
  rw [List.all_cons, h, hl]; rfl
theorem mw_sum : ∀ {l : List Value}, l.all mm_c1 = true → (l.map Value.category).sum = l.length := by
  intro l
  induction l with
  | nil => intro _; rfl
  | cons v l ih =>
    intro h
    rw [List.all_cons, Bool.and_eq_true] at h
    rw [List.map_cons, List.sum_cons, ih h.2, mm_c1_cat h.1, List.length_cons]
    omega
theorem mw_sp {na : Nat} {st as rest : List Value} (e : st = as.reverse ++ rest) (hl : as.length = na) (hr : rest.length ≤ 8) (ha : as.all mm_c1 = true) (hb : rest.all mm_c1 = true) : mm_sp na st = some (as, rest) := by
  subst e; subst hl
  unfold mm_sp
  have t1 : (as.reverse ++ rest).take as.length = as.reverse := by rw [← List.length_reverse]; exact List.take_left
  have t2 : (as.reverse ++ rest).drop as.length = rest := by rw [← List.length_reverse]; exact List.drop_left
  rw [t1, t2, if_pos, List.reverse_reverse]
  refine ⟨by simp, by rw [mw_sum hb]; exact hr, ?_⟩
  rw [List.all_reverse]
  exact ha
theorem mw_rc.isr {v : Value} {k : Nat} {hp : mm_H} (H : mw_rc v k hp) : mm_isr v = true := by
  obtain ⟨x, vs, rfl, -⟩ := H
  rfl
def mw_nr (v : Value) : Prop := v = .null ∨ ∃ x, v = .ref x
theorem mw_rvi {ty : FieldType} {x : Int32} (h : mm_fv ty (.int x) = true) : mm_rv .ireturn (some ty) [.int x] = some (some (.int x)) := by
  show (bif mm_fv ty (.int x) then some (some (Value.int x)) else none) = _
  rw [h]; rfl
theorem mw_rva {ty : FieldType} {v : Value} (h : mw_nr v) (ht : mm_fv ty .null = true) : mm_rv .areturn (some ty) [v] = some (some v) := by
  rcases h with rfl | ⟨x, rfl⟩
  · show (bif mm_fv ty .null then some (some Value.null) else none) = _
    rw [ht]; rfl
  · show (bif mm_fv ty (.ref x) then some (some (Value.ref x)) else none) = _
    rw [show mm_fv ty (.ref x) = mm_fv ty .null from rfl, ht]; rfl
/-- text constants: length, character -/
def mw_tl (v : Value) (d : Nat) (K : Int32 → Prop) : Prop := ∃ i t, v = .retAddr i ∧ mm_tx[i]? = some t ∧ 4 ≤ d ∧ K (nI t.length)
def mw_tc (v : Value) (j : Int32) (d : Nat) (K : Int32 → Prop) : Prop := ∃ i t ch, v = .retAddr i ∧ mm_tx[i]? = some t ∧ 4 ≤ d ∧ 0 ≤ j ∧ t[j.toNatClampNeg]? = some ch ∧ K (nI ch)
theorem mw_tl.mono {v : Value} {d : Nat} {K K' : Int32 → Prop} (H : mw_tl v d K) (f : ∀ y, K y → K' y) : mw_tl v d K' := by
  obtain ⟨i, t, h1, h2, h3, h4⟩ := H
  exact ⟨i, t, h1, h2, h3, f _ h4⟩
theorem mw_tc.mono {v : Value} {j : Int32} {d : Nat} {K K' : Int32 → Prop} (H : mw_tc v j d K) (f : ∀ y, K y → K' y) : mw_tc v j d K' := by
  obtain ⟨i, t, ch, h1, h2, h3, h4, h5, h6⟩ := H
  exact ⟨i, t, ch, h1, h2, h3, h4, h5, f _ h6⟩
section MWS
variable {X : List Int32} {d mi : Nat} {hp : mm_H} {Q : Option Value → mm_H → Prop} {pc pc' : Nat} {L L' : mm_L} {st r : List Value}
theorem mm_R.cTl (n : Nat) {idx : Nat} {j : Int} {v : Value} {rest : List Value} (h : mm_pn mi n pc L st = some (pc', L', v :: rest)) (hc : mm_code mi pc' = some (.invokevirtual idx, 3, (9003, 1, j))) (hr : Nat.ble rest.length 8 = true) (hb : rest.all mm_c1 = true) (H : mw_tl v d (fun y => mm_R X (d + 1) mi (pc' + 3) L' (.int y :: rest) hp Q)) : mm_R X (d + 1) mi pc L st hp Q := by
  obtain ⟨i, t, rfl, h2, h3, K⟩ := H
  refine mm_R.cP (o := some (.int (nI t.length))) n h hc rfl rfl rfl (mw_sp (as := [.retAddr i]) rfl rfl (Nat.le_of_ble_eq_true hr) rfl hb) rfl ?_ K
  show mm_q3 d [.retAddr i] = _
  unfold mm_q3
  simp only [h2, h3, if_true]
  rfl
theorem mm_R.cTc (n : Nat) {idx : Nat} {j : Int} {v : Value} {x : Int32} {rest : List Value} (h : mm_pn mi n pc L st = some (pc', L', .int x :: v :: rest)) (hc : mm_code mi pc' = some (.invokevirtual idx, 3, (9004, 2, j))) (hr : Nat.ble rest.length 8 = true) (hb : rest.all mm_c1 = true) (H : mw_tc v x d (fun y => mm_R X (d + 1) mi (pc' + 3) L' (.int y :: rest) hp Q)) : mm_R X (d + 1) mi pc L st hp Q := by
  obtain ⟨i, t, ch, rfl, h2, h3, h4, h5, K⟩ := H
  refine mm_R.cP (o := some (.int (nI ch))) n h hc rfl rfl rfl (mw_sp (as := [.retAddr i, .int x]) rfl rfl (Nat.le_of_ble_eq_true hr) rfl hb) rfl ?_ K
  show mm_q4 d [.retAddr i, .int x] = _
  unfold mm_q4
  simp only [h2, h3, h4, h5, and_self, if_true]
theorem mm_R.dv (n : Nat) {i : Instr} {a : mm_A} {f : Int32 → Int32 → Int32} {x y : Int32} (h : mm_pn mi n pc L st = some (pc', L', .int y :: .int x :: r)) (hc : mm_code mi pc' = some (i, 1, a)) (hi : mm_ps i 1 a pc' L' (.int y :: .int x :: r) = mm_dv f (pc' + 1) L' (.int y :: .int x :: r)) (hy : ¬ y = 0) (K : mm_R X d mi (pc' + 1) L' (.int (f x y) :: r) hp Q) : mm_R X d mi pc L st hp Q := by
  refine mm_R.pn n h (mm_R.ps hc (pc' := pc' + 1) (L' := L') (st' := .int (f x y) :: r) ?_ K)
  rw [hi]
  unfold mm_dv
  simp only [hy, if_false]
theorem mm_R.swD (n : Nat) {df lo hi : Int} {offs : Array Int} {len : Nat} {a : mm_A} {x : Int32} {t : Nat} (h : mm_pn mi n pc L st = some (pc', L', .int x :: r)) (hc : mm_code mi pc' = some (.tableswitch df lo hi offs, len, a)) (c : x.toInt < lo ∨ hi < x.toInt) (ht : (pc' : Int) + df = (t : Int)) (K : mm_R X d mi t L' r hp Q) : mm_R X d mi pc L st hp Q := by
  refine mm_R.pn n h (mm_R.ps hc (pc' := t) (L' := L') (st' := r) ?_ K)
  show mm_sw df lo hi offs pc' L' (.int x :: r) = _
  unfold mm_sw
  simp only [c, if_true]
  rw [if_pos (by omega), ht]
  simp
theorem mm_R.swI (n : Nat) {df lo hi : Int} {offs : Array Int} {len : Nat} {a : mm_A} {x : Int32} {t : Nat} {off : Int} (h : mm_pn mi n pc L st = some (pc', L', .int x :: r)) (hc : mm_code mi pc' = some (.tableswitch df lo hi offs, len, a)) (c : ¬ (x.toInt < lo ∨ hi < x.toInt)) {i : Nat} (hx : x.toInt = lo + i) (ho : offs[i]? = some off) (ht : (pc' : Int) + off = (t : Int)) (K : mm_R X d mi t L' r hp Q) : mm_R X d mi pc L st hp Q := by
  refine mm_R.pn n h (mm_R.ps hc (pc' := t) (L' := L') (st' := r) ?_ K)
  show mm_sw df lo hi offs pc' L' (.int x :: r) = _
  have hi2 : (x.toInt - lo).toNat = i := by omega
  unfold mm_sw
  simp only [c, if_false, hi2, ho]
  rw [if_pos (by omega), ht]
  simp
theorem mm_R.newK (n : Nat) {idx ci b : Nat} {j : Int} (h : mm_pn mi n pc L st = some (pc', L', r)) (hc : mm_code mi pc' = some (.new idx, 3, (ci, b, j))) (K : ∀ q hp1, q = hp.length → hp1 = hp ++ [(ci, mm_df ci)] → mm_R X d mi (pc' + 3) L' (.ref q :: r) hp1 Q) : mm_R X d mi pc L st hp Q := mm_R.new n h hc (K _ _ rfl rfl)
theorem mm_R.nwaK (n : Nat) {ty : ArrayType} {t b : Nat} {j : Int} {x : Int32} {dv : Value} (h : mm_pn mi n pc L st = some (pc', L', .int x :: r)) (hc : mm_code mi pc' = some (.newarray ty, 2, (t, b, j))) (hdv : (bif t == 1004 then .long 0 else .int 0) = dv) (hx : 0 ≤ x ∧ x.toNatClampNeg ≤ 100000) (K : ∀ q hp1, q = hp.length → hp1 = hp ++ [(t, List.replicate x.toNatClampNeg dv)] → mm_R X d mi (pc' + 2) L' (.ref q :: r) hp1 Q) : mm_R X d mi pc L st hp Q := mm_R.nwa n h hc hx (by rw [hdv]; exact K _ _ rfl rfl)
theorem mm_R.nwqK (n : Nat) {idx t b : Nat} {j : Int} {x : Int32} (h : mm_pn mi n pc L st = some (pc', L', .int x :: r)) (hc : mm_code mi pc' = some (.anewarray idx, 3, (t, b, j))) (hx : 0 ≤ x ∧ x.toNatClampNeg ≤ 100000) (K : ∀ q hp1, q = hp.length → hp1 = hp ++ [(t, List.replicate x.toNatClampNeg .null)] → mm_R X d mi (pc' + 3) L' (.ref q :: r) hp1 Q) : mm_R X d mi pc L st hp Q := mm_R.nwq n h hc hx (K _ _ rfl rfl)
end MWS
