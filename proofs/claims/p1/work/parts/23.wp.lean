/-! what each kind of instruction asks for, and the rules that use it (the formulas of 3x parts are made of these) -/
def mm_isr (v : Value) : Bool := match v with
  | .null => true
  | .ref _ => true
  | .retAddr _ => true
  | _ => false
def mw_gi (ci k : Nat) (v : Value) (hp : mm_H) (K : Int32 → Prop) : Prop := ∃ x vs y, v = .ref x ∧ hp[x]? = some (ci, vs) ∧ vs[k]? = some (.int y) ∧ K y
def mw_gv (ci k : Nat) (v : Value) (hp : mm_H) (K : Value → Prop) : Prop := ∃ x vs y, v = .ref x ∧ hp[x]? = some (ci, vs) ∧ vs[k]? = some y ∧ K y
def mw_pt (ci k : Nat) (v w : Value) (hp : mm_H) (K : mm_H → Prop) : Prop := ∃ x vs, v = .ref x ∧ hp[x]? = some (ci, vs) ∧ k < vs.length ∧ mm_fv (mm_ft ci k) w = true ∧ K (hp.set x (ci, vs.set k w))
def mw_ai (t : Nat) (v : Value) (i : Int32) (hp : mm_H) (K : Int32 → Prop) : Prop := ∃ x vs y, v = .ref x ∧ hp[x]? = some (t, vs) ∧ 0 ≤ i ∧ vs[i.toNatClampNeg]? = some (.int y) ∧ K y
def mw_al (t : Nat) (v : Value) (i : Int32) (hp : mm_H) (K : Int64 → Prop) : Prop := ∃ x vs y, v = .ref x ∧ hp[x]? = some (t, vs) ∧ 0 ≤ i ∧ vs[i.toNatClampNeg]? = some (.long y) ∧ K y
def mw_av (v : Value) (i : Int32) (hp : mm_H) (K : Value → Prop) : Prop := ∃ x t vs y, v = .ref x ∧ hp[x]? = some (t, vs) ∧ 1000 ≤ t ∧ mm_isq t = true ∧ 0 ≤ i ∧ vs[i.toNatClampNeg]? = some y ∧ K y
def mw_si (t : Nat) (ty : FieldType) (v : Value) (i y : Int32) (hp : mm_H) (K : mm_H → Prop) : Prop := ∃ x vs, v = .ref x ∧ hp[x]? = some (t, vs) ∧ 0 ≤ i ∧ i.toNatClampNeg < vs.length ∧ mm_fv ty (.int y) = true ∧ K (hp.set x (t, vs.set i.toNatClampNeg (.int y)))
def mw_sl (v : Value) (i : Int32) (y : Int64) (hp : mm_H) (K : mm_H → Prop) : Prop := ∃ x vs, v = .ref x ∧ hp[x]? = some (1004, vs) ∧ 0 ≤ i ∧ i.toNatClampNeg < vs.length ∧ K (hp.set x (1004, vs.set i.toNatClampNeg (.long y)))
def mw_sv (v : Value) (i : Int32) (w : Value) (hp : mm_H) (K : mm_H → Prop) : Prop := ∃ x t vs, v = .ref x ∧ hp[x]? = some (t, vs) ∧ 1000 ≤ t ∧ mm_isq t = true ∧ 0 ≤ i ∧ i.toNatClampNeg < vs.length ∧ (w = .null ∨ ∃ y ci ws, w = .ref y ∧ hp[y]? = some (ci, ws) ∧ ci < 1000 ∧ t = 2000 + ci) ∧ K (hp.set x (t, vs.set i.toNatClampNeg w))
def mw_ln (v : Value) (hp : mm_H) (K : Int32 → Prop) : Prop := ∃ x t vs, v = .ref x ∧ hp[x]? = some (t, vs) ∧ 1000 ≤ t ∧ (mm_at t).isSome = true ∧ K (nI vs.length)
def mw_nl (v : Value) (A B : Prop) : Prop := (v = .null ∧ A) ∨ (∃ x, v = .ref x) ∧ B
def mw_rc (v : Value) (k : Nat) (hp : mm_H) : Prop := ∃ x vs, v = .ref x ∧ hp[x]? = some (mm_mc k, vs)
def mw_ri (K : Int32 → mm_H → Prop) : Option Value → mm_H → Prop := fun r hp => ∃ x, r = some (.int x) ∧ K x hp
def mw_rv (K : Value → mm_H → Prop) : Option Value → mm_H → Prop := fun r hp => ∃ v, r = some v ∧ K v hp
def mw_r0 (K : mm_H → Prop) : Option Value → mm_H → Prop := fun r hp => r = none ∧ K hp
theorem mw_gi.mono {ci k : Nat} {v : Value} {hp : mm_H} {K K' : Int32 → Prop} (H : mw_gi ci k v hp K) (f : ∀ y, K y → K' y) : mw_gi ci k v hp K' := by
  obtain ⟨x, vs, y, h1, h2, h3, h4⟩ := H
  exact ⟨x, vs, y, h1, h2, h3, f y h4⟩
theorem mw_gv.mono {ci k : Nat} {v : Value} {hp : mm_H} {K K' : Value → Prop} (H : mw_gv ci k v hp K) (f : ∀ y, K y → K' y) : mw_gv ci k v hp K' := by
  obtain ⟨x, vs, y, h1, h2, h3, h4⟩ := H
  exact ⟨x, vs, y, h1, h2, h3, f y h4⟩
theorem mw_pt.mono {ci k : Nat} {v w : Value} {hp : mm_H} {K K' : mm_H → Prop} (H : mw_pt ci k v w hp K) (f : ∀ y, K y → K' y) : mw_pt ci k v w hp K' := by
  obtain ⟨x, vs, h1, h2, h3, h4, h5⟩ := H
  exact ⟨x, vs, h1, h2, h3, h4, f _ h5⟩
theorem mw_ai.mono {t : Nat} {v : Value} {i : Int32} {hp : mm_H} {K K' : Int32 → Prop} (H : mw_ai t v i hp K) (f : ∀ y, K y → K' y) : mw_ai t v i hp K' := by
  obtain ⟨x, vs, y, h1, h2, h3, h4, h5⟩ := H
  exact ⟨x, vs, y, h1, h2, h3, h4, f y h5⟩
theorem mw_al.mono {t : Nat} {v : Value} {i : Int32} {hp : mm_H} {K K' : Int64 → Prop} (H : mw_al t v i hp K) (f : ∀ y, K y → K' y) : mw_al t v i hp K' := by
  obtain ⟨x, vs, y, h1, h2, h3, h4, h5⟩ := H
  exact ⟨x, vs, y, h1, h2, h3, h4, f y h5⟩
theorem mw_av.mono {v : Value} {i : Int32} {hp : mm_H} {K K' : Value → Prop} (H : mw_av v i hp K) (f : ∀ y, K y → K' y) : mw_av v i hp K' := by
  obtain ⟨x, t, vs, y, h1, h2, h3, h4, h5, h6, h7⟩ := H
  exact ⟨x, t, vs, y, h1, h2, h3, h4, h5, h6, f y h7⟩
theorem mw_si.mono {t : Nat} {ty : FieldType} {v : Value} {i y : Int32} {hp : mm_H} {K K' : mm_H → Prop} (H : mw_si t ty v i y hp K) (f : ∀ y, K y → K' y) : mw_si t ty v i y hp K' := by
  obtain ⟨x, vs, h1, h2, h3, h4, h5, h6⟩ := H
  exact ⟨x, vs, h1, h2, h3, h4, h5, f _ h6⟩
theorem mw_sl.mono {v : Value} {i : Int32} {y : Int64} {hp : mm_H} {K K' : mm_H → Prop} (H : mw_sl v i y hp K) (f : ∀ y, K y → K' y) : mw_sl v i y hp K' := by
  obtain ⟨x, vs, h1, h2, h3, h4, h5⟩ := H
  exact ⟨x, vs, h1, h2, h3, h4, f _ h5⟩
theorem mw_sv.mono {v w : Value} {i : Int32} {hp : mm_H} {K K' : mm_H → Prop} (H : mw_sv v i w hp K) (f : ∀ y, K y → K' y) : mw_sv v i w hp K' := by
  obtain ⟨x, t, vs, h1, h2, h3, h4, h5, h6, h7, h8⟩ := H
  exact ⟨x, t, vs, h1, h2, h3, h4, h5, h6, h7, f _ h8⟩
theorem mw_ln.mono {v : Value} {hp : mm_H} {K K' : Int32 → Prop} (H : mw_ln v hp K) (f : ∀ y, K y → K' y) : mw_ln v hp K' := by
  obtain ⟨x, t, vs, h1, h2, h3, h4, h5⟩ := H
  exact ⟨x, t, vs, h1, h2, h3, h4, f _ h5⟩
section MWR
variable {X : List Int32} {d mi : Nat} {hp : mm_H} {Q : Option Value → mm_H → Prop} {pc pc' : Nat} {L L' : mm_L} {st r : List Value}
theorem mm_R.al (n : Nat) {i : Instr} {len k : Nat} {a : mm_A} {v : Value} (h : mm_pn mi n pc L st = some (pc', L', r)) (hc : mm_code mi pc' = some (i, len, a)) (hi : mm_ps i len a pc' L' r = mm_lda k (pc' + len) L' r) (hL : L'[k]? = some (some v)) (hv : mm_isr v = true) (K : mm_R X d mi (pc' + len) L' (v :: r) hp Q) : mm_R X d mi pc L st hp Q := by
  refine mm_R.pn n h (mm_R.ps hc (pc' := pc' + len) (L' := L') (st' := v :: r) ?_ K)
  rw [hi]
  unfold mm_lda
  rw [hL]
  cases v <;> first | rfl | exact nomatch (show false = true from hv)
theorem mm_R.as (n : Nat) {i : Instr} {len k : Nat} {a : mm_A} {v : Value} (h : mm_pn mi n pc L st = some (pc', L', v :: r)) (hc : mm_code mi pc' = some (i, len, a)) (hi : mm_ps i len a pc' L' (v :: r) = mm_sta k (pc' + len) L' (v :: r)) (hk : Nat.blt k L'.length = true) (hv : mm_isr v = true) (K : mm_R X d mi (pc' + len) (L'.set k (some v)) r hp Q) : mm_R X d mi pc L st hp Q := by
  refine mm_R.pn n h (mm_R.ps hc (pc' := pc' + len) (L' := L'.set k (some v)) (st' := r) ?_ K)
  have hk' : k < L'.length := Nat.le_of_ble_eq_true hk
  rw [hi]
  unfold mm_sta
  cases v <;> first | (simp only [hk', if_true]; done) | exact nomatch (show false = true from hv)
theorem mm_R.dp (n : Nat) {v : Value} (h : mm_pn mi n pc L st = some (pc', L', v :: r)) (hc : mm_code mi pc' = some (.dup, 1, (0, 0, 0))) (hv : mm_isr v = true) (K : mm_R X d mi (pc' + 1) L' (v :: v :: r) hp Q) : mm_R X d mi pc L st hp Q := by
  refine mm_R.pn n h (mm_R.ps hc (pc' := pc' + 1) (L' := L') (st' := v :: v :: r) ?_ K)
  cases v <;> first | rfl | exact nomatch (show false = true from hv)
theorem mm_R.d2 (n : Nat) {v : Value} {x : Int32} (h : mm_pn mi n pc L st = some (pc', L', .int x :: v :: r)) (hc : mm_code mi pc' = some (.dup2, 1, (0, 0, 0))) (hv : mm_isr v = true) (K : mm_R X d mi (pc' + 1) L' (.int x :: v :: .int x :: v :: r) hp Q) : mm_R X d mi pc L st hp Q := by
  refine mm_R.pn n h (mm_R.ps hc (pc' := pc' + 1) (L' := L') (st' := .int x :: v :: .int x :: v :: r) ?_ K)
  cases v <;> first | rfl | exact nomatch (show false = true from hv)
theorem mm_R.wgi (n : Nat) {ci k idx : Nat} {j : Int} {v : Value} (h : mm_pn mi n pc L st = some (pc', L', v :: r)) (hc : mm_code mi pc' = some (.getfield idx, 3, (ci, k, j))) (H : mw_gi ci k v hp (fun y => mm_R X d mi (pc' + 3) L' (.int y :: r) hp Q)) : mm_R X d mi pc L st hp Q := by
  obtain ⟨x, vs, y, rfl, h1, h2, K⟩ := H
  exact mm_R.get n h hc h1 h2 K
theorem mm_R.wgv (n : Nat) {ci k idx : Nat} {j : Int} {v : Value} (h : mm_pn mi n pc L st = some (pc', L', v :: r)) (hc : mm_code mi pc' = some (.getfield idx, 3, (ci, k, j))) (H : mw_gv ci k v hp (fun y => mm_R X d mi (pc' + 3) L' (y :: r) hp Q)) : mm_R X d mi pc L st hp Q := by
  obtain ⟨x, vs, y, rfl, h1, h2, K⟩ := H
  exact mm_R.get n h hc h1 h2 K
theorem mm_R.wpt (n : Nat) {ci k idx : Nat} {j : Int} {v w : Value} (h : mm_pn mi n pc L st = some (pc', L', w :: v :: r)) (hc : mm_code mi pc' = some (.putfield idx, 3, (ci, k, j))) (H : mw_pt ci k v w hp (fun hp' => mm_R X d mi (pc' + 3) L' r hp' Q)) : mm_R X d mi pc L st hp Q := by
  obtain ⟨x, vs, rfl, h1, h2, h3, K⟩ := H
  exact mm_R.put n h hc h1 h2 h3 K
theorem mm_R.hs2 (n : Nat) {i : Instr} {len : Nat} {a : mm_A} {st1 st' : List Value} {hp' : mm_H} (h : mm_pn mi n pc L st = some (pc', L', st1)) (hc : mm_code mi pc' = some (i, len, a)) (h0 : mm_ps i len a pc' L' st1 = none) (h1 : mm_hs X i a st1 hp = some (st', hp')) (K : mm_R X d mi (pc' + len) L' st' hp' Q) : mm_R X d mi pc L st hp Q := mm_R.pn n h (mm_R.hs hc h0 h1 K)
theorem mw_ald {t : Nat} {v : Value} {i : Int32} {x : Nat} {vs : List Value} {y : Value} (hv : v = .ref x) (h1 : hp[x]? = some (t, vs)) (h2 : 0 ≤ i) (h3 : vs[i.toNatClampNeg]? = some y) : mm_ald X t (.int i :: v :: r) hp = some (y :: r, hp) := by
  subst hv
  unfold mm_ald
  simp only [h1, h2, h3, and_self, if_true]
theorem mm_R.wai (n : Nat) {i : Instr} {t : Nat} {a : mm_A} {v : Value} {j : Int32} (h : mm_pn mi n pc L st = some (pc', L', .int j :: v :: r)) (hc : mm_code mi pc' = some (i, 1, a)) (h0 : mm_ps i 1 a pc' L' (.int j :: v :: r) = none) (hi : mm_hs X i a (.int j :: v :: r) hp = mm_ald X t (.int j :: v :: r) hp) (H : mw_ai t v j hp (fun y => mm_R X d mi (pc' + 1) L' (.int y :: r) hp Q)) : mm_R X d mi pc L st hp Q := by
  obtain ⟨x, vs, y, h1, h2, h3, h4, K⟩ := H
  exact mm_R.hs2 n h hc h0 (by rw [hi]; exact mw_ald h1 h2 h3 h4) K
theorem mm_R.wal (n : Nat) {i : Instr} {t : Nat} {a : mm_A} {v : Value} {j : Int32} (h : mm_pn mi n pc L st = some (pc', L', .int j :: v :: r)) (hc : mm_code mi pc' = some (i, 1, a)) (h0 : mm_ps i 1 a pc' L' (.int j :: v :: r) = none) (hi : mm_hs X i a (.int j :: v :: r) hp = mm_ald X t (.int j :: v :: r) hp) (H : mw_al t v j hp (fun y => mm_R X d mi (pc' + 1) L' (.long y :: r) hp Q)) : mm_R X d mi pc L st hp Q := by
  obtain ⟨x, vs, y, h1, h2, h3, h4, K⟩ := H
  exact mm_R.hs2 n h hc h0 (by rw [hi]; exact mw_ald h1 h2 h3 h4) K
theorem mm_R.wav (n : Nat) {a : mm_A} {v : Value} {j : Int32} (h : mm_pn mi n pc L st = some (pc', L', .int j :: v :: r)) (hc : mm_code mi pc' = some (.aaload, 1, a)) (H : mw_av v j hp (fun y => mm_R X d mi (pc' + 1) L' (y :: r) hp Q)) : mm_R X d mi pc L st hp Q := by
  obtain ⟨x, t, vs, y, rfl, h2, h3, h4, h5, h6, K⟩ := H
  refine mm_R.hs2 n h hc rfl (st' := y :: r) (hp' := hp) ?_ K
  show mm_aal (.int j :: .ref x :: r) hp = _
  unfold mm_aal
  simp only [h2, h3, h4, h5, h6, and_self, if_true]
theorem mm_R.wsi (n : Nat) {i : Instr} {t : Nat} {ty : FieldType} {a : mm_A} {v : Value} {j y : Int32} (h : mm_pn mi n pc L st = some (pc', L', .int y :: .int j :: v :: r)) (hc : mm_code mi pc' = some (i, 1, a)) (h0 : mm_ps i 1 a pc' L' (.int y :: .int j :: v :: r) = none) (hi : mm_hs X i a (.int y :: .int j :: v :: r) hp = mm_ast t ty (.int y :: .int j :: v :: r) hp) (H : mw_si t ty v j y hp (fun hp' => mm_R X d mi (pc' + 1) L' r hp' Q)) : mm_R X d mi pc L st hp Q := by
  obtain ⟨x, vs, rfl, h2, h3, h4, h5, K⟩ := H
  refine mm_R.hs2 n h hc h0 (st' := r) ?_ K
  rw [hi]
  unfold mm_ast
  simp only [h2, h3, h4, h5, and_self, if_true]
theorem mm_R.wsl (n : Nat) {a : mm_A} {v : Value} {j : Int32} {y : Int64} (h : mm_pn mi n pc L st = some (pc', L', .long y :: .int j :: v :: r)) (hc : mm_code mi pc' = some (.lastore, 1, a)) (H : mw_sl v j y hp (fun hp' => mm_R X d mi (pc' + 1) L' r hp' Q)) : mm_R X d mi pc L st hp Q := by
  obtain ⟨x, vs, rfl, h2, h3, h4, K⟩ := H
  refine mm_R.hs2 n h hc rfl (st' := r) (hp' := hp.set x (1004, vs.set j.toNatClampNeg (.long y))) ?_ K
  show mm_las (.long y :: .int j :: .ref x :: r) hp = _
  unfold mm_las
  simp only [h2, h3, h4, and_self, if_true]
theorem mm_R.wsv (n : Nat) {a : mm_A} {v w : Value} {j : Int32} (h : mm_pn mi n pc L st = some (pc', L', w :: .int j :: v :: r)) (hc : mm_code mi pc' = some (.aastore, 1, a)) (H : mw_sv v j w hp (fun hp' => mm_R X d mi (pc' + 1) L' r hp' Q)) : mm_R X d mi pc L st hp Q := by
  obtain ⟨x, t, vs, rfl, h2, h3, h4, h5, h6, h7, K⟩ := H
  refine mm_R.hs2 n h hc rfl (st' := r) (hp' := hp.set x (t, vs.set j.toNatClampNeg w)) ?_ K
  show mm_aas (w :: .int j :: .ref x :: r) hp = _
  unfold mm_aas
  rcases h7 with rfl | ⟨y, ci, ws, rfl, g1, g2, g3⟩
  · simp only [h2, h3, h4, h5, h6, and_self, if_true]
  · subst g3
    simp only [h2, g1, g2, h4, h5, h6, and_self, if_true]
theorem mm_R.wln (n : Nat) {a : mm_A} {v : Value} (h : mm_pn mi n pc L st = some (pc', L', v :: r)) (hc : mm_code mi pc' = some (.arraylength, 1, a)) (H : mw_ln v hp (fun y => mm_R X d mi (pc' + 1) L' (.int y :: r) hp Q)) : mm_R X d mi pc L st hp Q := by
  obtain ⟨x, t, vs, rfl, h2, h3, h4, K⟩ := H
  refine mm_R.hs2 n h hc rfl (st' := .int (nI vs.length) :: r) (hp' := hp) ?_ K
  show mm_len X (.ref x :: r) hp = _
  unfold mm_len
  simp only [h2, h3, h4, and_self, if_true]
  rfl
theorem mm_R.new (n : Nat) {idx ci b : Nat} {j : Int} (h : mm_pn mi n pc L st = some (pc', L', r)) (hc : mm_code mi pc' = some (.new idx, 3, (ci, b, j))) (K : mm_R X d mi (pc' + 3) L' (.ref hp.length :: r) (hp ++ [(ci, mm_df ci)]) Q) : mm_R X d mi pc L st hp Q :=
  mm_R.hs2 n h hc rfl (st' := .ref hp.length :: r) (hp' := hp ++ [(ci, mm_df ci)]) rfl K
theorem mm_R.nwa (n : Nat) {ty : ArrayType} {t b : Nat} {j : Int} {x : Int32} (h : mm_pn mi n pc L st = some (pc', L', .int x :: r)) (hc : mm_code mi pc' = some (.newarray ty, 2, (t, b, j))) (hx : 0 ≤ x ∧ x.toNatClampNeg ≤ 100000) (K : mm_R X d mi (pc' + 2) L' (.ref hp.length :: r) (hp ++ [(t, List.replicate x.toNatClampNeg (bif t == 1004 then .long 0 else .int 0))]) Q) : mm_R X d mi pc L st hp Q := by
  refine mm_R.hs2 n h hc rfl (st' := .ref hp.length :: r) (hp' := hp ++ [(t, List.replicate x.toNatClampNeg (bif t == 1004 then .long 0 else .int 0))]) ?_ K
  show mm_nwa t _ (.int x :: r) hp = _
  unfold mm_nwa
  simp only [hx, and_self, if_true]
theorem mm_R.nwq (n : Nat) {idx t b : Nat} {j : Int} {x : Int32} (h : mm_pn mi n pc L st = some (pc', L', .int x :: r)) (hc : mm_code mi pc' = some (.anewarray idx, 3, (t, b, j))) (hx : 0 ≤ x ∧ x.toNatClampNeg ≤ 100000) (K : mm_R X d mi (pc' + 3) L' (.ref hp.length :: r) (hp ++ [(t, List.replicate x.toNatClampNeg .null)]) Q) : mm_R X d mi pc L st hp Q := by
  refine mm_R.hs2 n h hc rfl (st' := .ref hp.length :: r) (hp' := hp ++ [(t, List.replicate x.toNatClampNeg .null)]) ?_ K
  show mm_nwa t .null (.int x :: r) hp = _
  unfold mm_nwa
  simp only [hx, and_self, if_true]
theorem mm_R.br (n : Nat) {t u : Nat} {b : Bool} {st' : List Value} (h : mm_pn mi n pc L st = some (bif b then t else u, L', st')) (ht : b = true → mm_R X d mi t L' st' hp Q) (hf : b = false → mm_R X d mi u L' st' hp Q) : mm_R X d mi pc L st hp Q := by
  cases b with
  | true => exact mm_R.pn n h (ht rfl)
  | false => exact mm_R.pn n h (hf rfl)
theorem mm_R.wnl (n : Nat) {t u : Nat} {v : Value} (h : mm_pn mi n pc L st = some (pc', L', v :: r)) {i : Instr} {len : Nat} {a : mm_A} (hc : mm_code mi pc' = some (i, len, a)) (hi : mm_ps i len a pc' L' (v :: r) = mm_nl t u L' (v :: r)) (H : mw_nl v (mm_R X d mi t L' r hp Q) (mm_R X d mi u L' r hp Q)) : mm_R X d mi pc L st hp Q := by
  rcases H with ⟨rfl, K⟩ | ⟨⟨x, rfl⟩, K⟩
  · exact mm_R.pn n h (mm_R.ps hc (pc' := t) (L' := L') (st' := r) (by rw [hi]; rfl) K)
  · exact mm_R.pn n h (mm_R.ps hc (pc' := u) (L' := L') (st' := r) (by rw [hi]; rfl) K)
theorem mw_nl.mono {v : Value} {A B A' B' : Prop} (H : mw_nl v A B) (f : A → A') (g : B → B') : mw_nl v A' B' := by
  rcases H with ⟨h, K⟩ | ⟨h, K⟩
  · exact Or.inl ⟨h, f K⟩
  · exact Or.inr ⟨h, g K⟩
theorem mm_R.rt (n : Nat) {i : Instr} {len : Nat} {a : mm_A} {st1 : List Value} {o : Option Value} (h : mm_pn mi n pc L st = some (pc', L', st1)) (hc : mm_code mi pc' = some (i, len, a)) (h0 : mm_ps i len a pc' L' st1 = none) (h1 : mm_hs X i a st1 hp = none) (h2 : mm_iv i = false) (h3 : mm_rv i (mm_rt mi) st1 = some o) (K : Q o hp) : mm_R X d mi pc L st hp Q := mm_R.pn n h (mm_R.ret hc h0 h1 h2 h3 K)
theorem mm_R.cS (n : Nat) {idx k na : Nat} {j : Int} {st1 as rest : List Value} (h : mm_pn mi n pc L st = some (pc', L', st1)) (hc : mm_code mi pc' = some (.invokestatic idx, 3, (k, na, j))) (h3 : mm_sp na st1 = some (as, rest)) (h4 : Nat.ble 9000 k = false) (h5 : Nat.ble as.length (mm_ml k) = true) (K : mm_R X d k 0 (mm_L0 k as) [] hp (fun o hp1 => mm_R X (d + 1) mi (pc' + 3) L' (o.toList ++ rest) hp1 Q)) : mm_R X (d + 1) mi pc L st hp Q :=
  mm_R.pn n h (mm_R.call hc rfl rfl rfl h3 h4 (by rw [h5]; rfl) K)
theorem mm_R.cI (n : Nat) {idx k na : Nat} {j : Int} {st1 as rest : List Value} (h : mm_pn mi n pc L st = some (pc', L', st1)) (hc : mm_code mi pc' = some (.invokespecial idx, 3, (k, na, j))) (h3 : mm_sp na st1 = some (as, rest)) (h4 : Nat.ble 9000 k = false) (h5 : Nat.ble as.length (mm_ml k) = true) (h6 : mm_rc (.invokespecial idx) k as hp = true) (K : mm_R X d k 0 (mm_L0 k as) [] hp (fun o hp1 => mm_R X (d + 1) mi (pc' + 3) L' (o.toList ++ rest) hp1 Q)) : mm_R X (d + 1) mi pc L st hp Q :=
  mm_R.pn n h (mm_R.call hc rfl rfl rfl h3 h4 (by rw [h5, h6]; rfl) K)
theorem mw_rc.ok {v : Value} {k idx : Nat} {hp : mm_H} {as : List Value} (H : mw_rc v k hp) : mm_rc (.invokevirtual idx) k (v :: as) hp = true := by
  obtain ⟨x, vs, rfl, h⟩ := H
  show (match hp[x]? with | some c => c.1 == mm_mc k | none => false) = true
  rw [h]
  exact beq_self_eq_true _
theorem mm_R.cV (n : Nat) {idx k na : Nat} {j : Int} {st1 as rest : List Value} {v : Value} (h : mm_pn mi n pc L st = some (pc', L', st1)) (hc : mm_code mi pc' = some (.invokevirtual idx, 3, (k, na, j))) (h3 : mm_sp na st1 = some (v :: as, rest)) (h4 : Nat.ble 9000 k = false) (h5 : Nat.ble (v :: as).length (mm_ml k) = true) (h6 : mw_rc v k hp) (K : mm_R X d k 0 (mm_L0 k (v :: as)) [] hp (fun o hp1 => mm_R X (d + 1) mi (pc' + 3) L' (o.toList ++ rest) hp1 Q)) : mm_R X (d + 1) mi pc L st hp Q :=
  mm_R.pn n h (mm_R.call hc rfl rfl rfl h3 h4 (by rw [h5, h6.ok]; rfl) K)
theorem mm_R.cP (n : Nat) {i : Instr} {k na : Nat} {j : Int} {st1 as rest : List Value} {o : Option Value} (h : mm_pn mi n pc L st = some (pc', L', st1)) (hc : mm_code mi pc' = some (i, 3, (k, na, j))) (h0 : mm_ps i 3 (k, na, j) pc' L' st1 = none) (h1 : mm_hs X i (k, na, j) st1 hp = none) (h2 : mm_iv i = true) (h3 : mm_sp na st1 = some (as, rest)) (h4 : Nat.ble 9000 k = true) (h5 : mm_pm k d as = some o) (K : mm_R X (d + 1) mi (pc' + 3) L' (o.toList ++ rest) hp Q) : mm_R X (d + 1) mi pc L st hp Q :=
  mm_R.pn n h (mm_R.prim hc h0 h1 h2 h3 h4 h5 K)
end MWR
