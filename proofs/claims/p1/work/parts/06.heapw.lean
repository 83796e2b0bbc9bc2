theorem mm_get_inv {ci k : Nat} {st st' : List Value} {hp hp' : mm_H} (h : mm_get ci k st hp = some (st', hp')) : ∃ x r vs v, st = .ref x :: r ∧ hp[x]? = some (ci, vs) ∧ vs[k]? = some v ∧ st' = v :: r ∧ hp' = hp := by
  unfold mm_get at h
  split at h
  · rename_i x r
    split at h
    · rename_i c hc
      split at h
      · rename_i e
        split at h
        · rename_i v hv
          cases h
          subst e
          exact ⟨x, r, c.2, v, rfl, hc, hv, rfl, rfl⟩
        · cases h
      · cases h
    · cases h
  · cases h
theorem mm_put_inv {ci k : Nat} {st st' : List Value} {hp hp' : mm_H} (h : mm_put ci k st hp = some (st', hp')) : ∃ v x r vs, st = v :: .ref x :: r ∧ hp[x]? = some (ci, vs) ∧ k < vs.length ∧ mm_fv (mm_ft ci k) v = true ∧ st' = r ∧ hp' = hp.set x (ci, vs.set k v) := by
  unfold mm_put at h
  split at h
  · rename_i v x r
    split at h
    · rename_i c hc
      split at h
      · rename_i e
        obtain ⟨e1, e2, e3⟩ := e
        cases h
        subst e1
        exact ⟨v, x, _, c.2, rfl, hc, e2, e3, rfl, rfl⟩
      · cases h
    · cases h
  · cases h
theorem mm_ald_inv {X : List Int32} {t : Nat} {st st' : List Value} {hp hp' : mm_H} (h : mm_ald X t st hp = some (st', hp')) : (∃ j x r vs v, st = .int j :: .ref x :: r ∧ hp[x]? = some (t, vs) ∧ 0 ≤ j ∧ vs[j.toNatClampNeg]? = some v ∧ st' = v :: r ∧ hp' = hp) ∨ ∃ j r v, st = .int j :: .retAddr 100 :: r ∧ t = 1000 ∧ 0 ≤ j ∧ X[j.toNatClampNeg]? = some v ∧ st' = .int v :: r ∧ hp' = hp := by
  unfold mm_ald at h
  split at h
  · rename_i j x r
    split at h
    · rename_i c hc
      split at h
      · rename_i e
        split at h
        · rename_i v hv
          cases h
          obtain ⟨rfl, e2⟩ := e
          exact Or.inl ⟨j, x, r, c.2, v, rfl, hc, e2, hv, rfl, rfl⟩
        · cases h
      · cases h
    · cases h
  · rename_i j q r
    split at h
    · rename_i e
      split at h
      · rename_i v hv
        cases h
        obtain ⟨rfl, e1, e2⟩ := e
        exact Or.inr ⟨j, r, v, rfl, e1, e2, hv, rfl, rfl⟩
      · cases h
    · cases h
  · cases h
theorem mm_isq_of {t : Nat} (h : mm_isq t = true) : ∃ C, mm_at t = some (.object C) := by
  unfold mm_isq at h
  split at h
  · rename_i C hC
    exact ⟨C, hC⟩
  · cases h
theorem mm_aal_inv {st st' : List Value} {hp hp' : mm_H} (h : mm_aal st hp = some (st', hp')) : ∃ j x r t vs v, st = .int j :: .ref x :: r ∧ hp[x]? = some (t, vs) ∧ 1000 ≤ t ∧ mm_isq t = true ∧ 0 ≤ j ∧ vs[j.toNatClampNeg]? = some v ∧ st' = v :: r ∧ hp' = hp := by
  unfold mm_aal at h
  split at h
  · rename_i j x r
    split at h
    · rename_i c hc
      split at h
      · rename_i e
        split at h
        · rename_i v hv
          cases h
          exact ⟨j, x, r, c.1, c.2, v, rfl, hc, e.1, e.2.1, e.2.2, hv, rfl, rfl⟩
        · cases h
      · cases h
    · cases h
  · cases h
theorem mm_ast_inv {t : Nat} {ty : FieldType} {st st' : List Value} {hp hp' : mm_H} (h : mm_ast t ty st hp = some (st', hp')) : ∃ y j x r vs, st = .int y :: .int j :: .ref x :: r ∧ hp[x]? = some (t, vs) ∧ 0 ≤ j ∧ j.toNatClampNeg < vs.length ∧ mm_fv ty (.int y) = true ∧ st' = r ∧ hp' = hp.set x (t, vs.set j.toNatClampNeg (.int y)) := by
  unfold mm_ast at h
  split at h
  · rename_i y j x r
    split at h
    · rename_i c hc
      split at h
      · rename_i e
        obtain ⟨e1, e2, e3, e4⟩ := e
        cases h
        subst e1
        exact ⟨y, j, x, _, c.2, rfl, hc, e2, e3, e4, rfl, rfl⟩
      · cases h
    · cases h
  · cases h
theorem mm_las_inv {st st' : List Value} {hp hp' : mm_H} (h : mm_las st hp = some (st', hp')) : ∃ y j x r vs, st = .long y :: .int j :: .ref x :: r ∧ hp[x]? = some (1004, vs) ∧ 0 ≤ j ∧ j.toNatClampNeg < vs.length ∧ st' = r ∧ hp' = hp.set x (1004, vs.set j.toNatClampNeg (.long y)) := by
  unfold mm_las at h
  split at h
  · rename_i y j x r
    split at h
    · rename_i c hc
      split at h
      · rename_i e
        obtain ⟨e1, e2, e3⟩ := e
        cases h
        refine ⟨y, j, x, _, c.2, rfl, ?_, e2, e3, rfl, ?_⟩
        · rw [hc, ← e1]
        · rw [e1]
      · cases h
    · cases h
  · cases h
theorem mm_aas_inv {st st' : List Value} {hp hp' : mm_H} (h : mm_aas st hp = some (st', hp')) : (∃ j x r t vs, st = .null :: .int j :: .ref x :: r ∧ hp[x]? = some (t, vs) ∧ 1000 ≤ t ∧ mm_isq t = true ∧ 0 ≤ j ∧ j.toNatClampNeg < vs.length ∧ st' = r ∧ hp' = hp.set x (t, vs.set j.toNatClampNeg .null)) ∨ ∃ y j x r vs ci ws, st = .ref y :: .int j :: .ref x :: r ∧ hp[x]? = some (2000 + ci, vs) ∧ hp[y]? = some (ci, ws) ∧ ci < 1000 ∧ mm_isq (2000 + ci) = true ∧ 0 ≤ j ∧ j.toNatClampNeg < vs.length ∧ st' = r ∧ hp' = hp.set x (2000 + ci, vs.set j.toNatClampNeg (.ref y)) := by
  unfold mm_aas at h
  split at h
  · rename_i j x r
    split at h
    · rename_i c hc
      split at h
      · rename_i e
        cases h
        exact Or.inl ⟨j, x, _, c.1, c.2, rfl, hc, e.1, e.2.1, e.2.2.1, e.2.2.2, rfl, rfl⟩
      · cases h
    · cases h
  · rename_i y j x r
    split at h
    · rename_i c cv hc hcv
      split at h
      · rename_i e
        obtain ⟨e1, e2, e3, e4, e5⟩ := e
        cases h
        have hc' : hp[x]? = some (2000 + cv.1, c.2) := by rw [hc, ← e1]
        rw [e1] at e3
        refine Or.inr ⟨y, j, x, _, c.2, cv.1, cv.2, rfl, hc', hcv, e2, e3, e4, e5, rfl, ?_⟩
        rw [e1]
      · cases h
    · cases h
  · cases h
theorem mm_len_inv {X : List Int32} {st st' : List Value} {hp hp' : mm_H} (h : mm_len X st hp = some (st', hp')) : (∃ x r t vs, st = .ref x :: r ∧ hp[x]? = some (t, vs) ∧ 1000 ≤ t ∧ (∃ ty, mm_at t = some ty) ∧ st' = .int (Int32.ofNat vs.length) :: r ∧ hp' = hp) ∨ ∃ r, st = .retAddr 100 :: r ∧ st' = .int (Int32.ofNat X.length) :: r ∧ hp' = hp := by
  unfold mm_len at h
  split at h
  · rename_i x r
    split at h
    · rename_i c hc
      split at h
      · rename_i e
        cases h
        exact Or.inl ⟨x, r, c.1, c.2, rfl, hc, e.1, Option.isSome_iff_exists.mp e.2, rfl, rfl⟩
      · cases h
    · cases h
  · rename_i q r
    split at h
    · rename_i e
      cases h
      subst e
      exact Or.inr ⟨r, rfl, rfl, rfl⟩
    · cases h
  · cases h
theorem mm_nwa_inv {t : Nat} {v : Value} {st st' : List Value} {hp hp' : mm_H} (h : mm_nwa t v st hp = some (st', hp')) : ∃ n r, st = .int n :: r ∧ 0 ≤ n ∧ n.toNatClampNeg ≤ 100000 ∧ st' = .ref hp.length :: r ∧ hp' = hp ++ [(t, List.replicate n.toNatClampNeg v)] := by
  unfold mm_nwa at h
  split at h
  · rename_i n r
    split at h
    · rename_i e
      cases h
      exact ⟨n, r, rfl, e.1, e.2, rfl, rfl⟩
    · cases h
  · cases h
/-- what the class table must be -/
def mm_TK (Ts : List Cond) : Prop := ∀ (ci : Nat) (q : vw_C), mm_cl[ci]? = some q → (∀ w ∈ u_ws q.1 q.2.1 q.2.2, w ∈ Ts) ∧ (∀ k, k < q.2.2 → parseFieldDescriptor (q.2.1 k).2.2.1 = some (mm_ft ci k)) ∧ (∀ a, a < q.2.2 → ∀ b, b < q.2.2 → a ≠ b → (q.2.1 a).2.1 ≠ (q.2.1 b).2.1) ∧ Cond.instantiable q.1 q.2.2 ∈ Ts ∧ Cond.initialized q.1 ∈ Ts
/-- what a state's tables must say: the classes, the array classes, the script's array -/
def mm_Ev (D : va_G) (dA : Nat → ClassId) (h0 : Heap) (ad : Nat → Nat) (X : List Int32) (U : State) : Prop :=
  va_K D mm_cl [] U ∧ (∀ t ty, mm_at t = some ty → ArrOfT U (dA t) ty ∧ va_RA U (dA t) ty ∧ ∀ C, ty = .object C → va_AO C U) ∧
  (ad 100 < h0.size ∧ ∃ scr : Cell, h0[ad 100]? = some scr ∧ U.isArrayOf scr .int ∧ scr.vm ≠ .unknown ∧ scr.slots.size = X.length ∧ ∀ (j : Nat) (v : Int32), X[j]? = some v → scr.slots[j]? = some (.int v))
theorem mm_Ev.moved {D : va_G} {dA : Nat → ClassId} {h0 : Heap} {ad : Nat → Nat} {X : List Int32} {u U : State} (hvm : u.vm.Alike U.vm) (h : mm_Ev D dA h0 ad X u) : mm_Ev D dA h0 ad X U := by
  obtain ⟨h1, h2, h3, scr, h4, h5, h6⟩ := h
  exact ⟨va_K.moved hvm h1, fun t ty ht => ⟨arrOfT_moved hvm (h2 t ty ht).1, (h2 t ty ht).2.1.moved hvm, fun C hC => ((h2 t ty ht).2.2 C hC).moved hvm⟩, h3, scr, h4, State.isArrayOf_alike hvm h5, h6⟩
def mm_fl (own : String) (args : Array Value) (s : State) (idx ci k : Nat) : Prop := ∃ q, mm_cl[ci]? = some q ∧ k < q.2.2 ∧ ((Cond.fieldLink own idx (q.2.1 k).1 (q.2.1 k).2.1 (q.2.1 k).2.2.1).before args s = true ∨ ∃ host, (Cond.fieldLinkNest own idx (q.2.1 k).1 (q.2.1 k).2.1 (q.2.1 k).2.2.1 host).before args s = true)
def mm_pl (own : String) (args : Array Value) (s : State) (mn : String) (idx ci k : Nat) : Prop := ∃ q, mm_cl[ci]? = some q ∧ k < q.2.2 ∧ (((q.2.1 k).2.2.2 = false ∧ ((Cond.fieldLink own idx (q.2.1 k).1 (q.2.1 k).2.1 (q.2.1 k).2.2.1).before args s = true ∨ ∃ host, (Cond.fieldLinkNest own idx (q.2.1 k).1 (q.2.1 k).2.1 (q.2.1 k).2.2.1 host).before args s = true)) ∨ ((q.2.1 k).2.2.2 = true ∧ mn = "<init>" ∧ (q.2.1 k).1 = own ∧ (Cond.fieldLink own idx (q.2.1 k).1 (q.2.1 k).2.1 (q.2.1 k).2.2.1).before args s = true))
/-- what the tables must say for a heap instruction -/
def mm_hk (own : String) (args : Array Value) (s : State) (mn : String) (i : Instr) (a : mm_A) : Prop := match i with
  | .getfield idx => mm_fl own args s idx a.1 a.2.1
  | .putfield idx => mm_pl own args s mn idx a.1 a.2.1
  | .new idx => ∃ q, mm_cl[a.1]? = some q ∧ (Cond.classLink own idx q.1).before args s = true
  | .newarray ty => ((ty = .int ∧ a.1 = 1000) ∨ (ty = .char ∧ a.1 = 1001) ∨ (ty = .boolean ∧ a.1 = 1002) ∨ (ty = .long ∧ a.1 = 1004)) ∧ (Cond.arrayClass (newarray.typeOf ty)).before args s = true
  | .anewarray idx => 1000 ≤ a.1 ∧ ∃ C, mm_at a.1 = some (.object C) ∧ (Cond.classLink own idx C).before args s = true
  | _ => True
theorem mm_cl_of {D : va_G} {dA : Nat → ClassId} {B : Nat} {ad : Nat → Nat} {a ci : Nat} {vs : List Value} {H : Heap} {q : vw_C} (h : mm_cr D dA B ad a (ci, vs) H) (hq : mm_cl[ci]? = some q) : ci < 1000 ∧ vs.length = q.2.2 ∧ t_OB a (D.1 ci) q.2.2 (D.2 ci) H (vp_V (vs.map (mm_tr B ad))) := by
  have hlt : ci < 1000 := Nat.lt_of_lt_of_le (List.getElem?_eq_some_iff.mp hq).1 mm_cl_lt
  rcases h with ⟨h1, r, h2, h3, h4⟩ | ⟨h1, h2⟩
  · have e : r = q := Option.some.inj (h2.symm.trans hq)
    subst e
    exact ⟨h1, h3, h4⟩
  · exact absurd (show 1000 ≤ ci from h1) (by omega)
theorem mm_ar_of {D : va_G} {dA : Nat → ClassId} {B : Nat} {ad : Nat → Nat} {a t : Nat} {vs : List Value} {H : Heap} (h : mm_cr D dA B ad a (t, vs) H) (ht : 1000 ≤ t) : H[a]? = some (arrV (dA t) vs.length (vp_V (vs.map (mm_tr B ad)))) := by
  rcases h with ⟨h1, -⟩ | ⟨-, h2⟩
  · exact absurd (show t < 1000 from h1) (by omega)
  · exact h2
theorem mm_arr_set {B : Nat} {ad : Nat → Nat} {cA : ClassId} {vs : List Value} {k : Nat} (hk : k < vs.length) (v : Value) : (arrV cA vs.length (vp_V (vs.map (mm_tr B ad)))).setSlot k (mm_tr B ad v) = arrV cA (vs.set k v).length (vp_V ((vs.set k v).map (mm_tr B ad))) := by
  rw [arrV_store, List.length_set]
  congr 1
  funext j
  exact mm_V_set B ad hk v j
theorem mm_df_V {B : Nat} {ad : Nat → Nat} (ty : FieldType) : mm_tr B ad (defaultValue ty) = defaultValue ty := by
  cases ty <;> rfl
theorem mm_df_of {B : Nat} {ad : Nat → Nat} {ci : Nat} {q : vw_C} (hq : mm_cl[ci]? = some q) : (mm_df ci).length = q.2.2 ∧ ∀ k, k < q.2.2 → defaultValue (mm_ft ci k) = vp_V ((mm_df ci).map (mm_tr B ad)) k := by
  have e : mm_df ci = (List.range q.2.2).map (fun k => defaultValue (mm_ft ci k)) := by
    unfold mm_df
    rw [hq]
  refine ⟨by rw [e]; simp, fun k hk => ?_⟩
  rw [e]
  simp [vp_V, hk, mm_df_V]
theorem mm_rep_V {B : Nat} {ad : Nat → Nat} {n : Nat} {v : Value} {cA : ClassId} (hv : mm_tr B ad v = v) : arrV cA (List.replicate n v).length (vp_V ((List.replicate n v).map (mm_tr B ad))) = arrV cA n (fun _ => v) := by
  rw [List.length_replicate, List.map_replicate, hv]
  unfold arrV
  congr 1
  apply Array.ext
  · simp
  · intro i h1 h2
    have hi : i < n := by simpa using h1
    simp [vp_V, hi]
theorem mm_nn {j : Int32} (h : 0 ≤ j) : ¬ j < 0 := fun q => absurd h (Int32.not_le.mpr q)
