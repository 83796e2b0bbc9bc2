def mm_fv (ty : FieldType) (v : Value) : Bool := match v with
  | .long _ => (match ty with
    | .long => true
    | _ => false)
  | .int x => (match ty with
    | .int => true
    | .char => decide (0 ≤ x ∧ x ≤ 65535)
    | .boolean => x == 0 || x == 1
    | _ => false)
  | .null => (match ty with
    | .object _ => true
    | .array _ => true
    | _ => false)
  | .ref _ => (match ty with
    | .object _ => true
    | .array _ => true
    | _ => false)
  | _ => false
def mm_get (ci k : Nat) (st : List Value) (hp : mm_H) : Option (List Value × mm_H) := match st with
  | .ref x :: r => (match hp[x]? with
    | some c => if c.1 = ci then (match c.2[k]? with
      | some v => some (v :: r, hp)
      | none => none) else none
    | none => none)
  | _ => none
def mm_put (ci k : Nat) (st : List Value) (hp : mm_H) : Option (List Value × mm_H) := match st with
  | v :: .ref x :: r => (match hp[x]? with
    | some c => if c.1 = ci ∧ k < c.2.length ∧ mm_fv (mm_ft ci k) v = true then some (r, hp.set x (c.1, c.2.set k v)) else none
    | none => none)
  | _ => none
def mm_ald (X : List Int32) (t : Nat) (st : List Value) (hp : mm_H) : Option (List Value × mm_H) := match st with
  | .int j :: .ref x :: r => (match hp[x]? with
    | some c => if c.1 = t ∧ 0 ≤ j then (match c.2[j.toNatClampNeg]? with
      | some v => some (v :: r, hp)
      | none => none) else none
    | none => none)
  | .int j :: .retAddr q :: r => if q = 100 ∧ t = 1000 ∧ 0 ≤ j then (match X[j.toNatClampNeg]? with
      | some v => some (.int v :: r, hp)
      | none => none) else none
  | _ => none
def mm_isq (t : Nat) : Bool := match mm_at t with
  | some (.object _) => true
  | _ => false
def mm_aal (st : List Value) (hp : mm_H) : Option (List Value × mm_H) := match st with
  | .int j :: .ref x :: r => (match hp[x]? with
    | some c => if 1000 ≤ c.1 ∧ mm_isq c.1 = true ∧ 0 ≤ j then (match c.2[j.toNatClampNeg]? with
      | some v => some (v :: r, hp)
      | none => none) else none
    | none => none)
  | _ => none
def mm_ast (t : Nat) (ty : FieldType) (st : List Value) (hp : mm_H) : Option (List Value × mm_H) := match st with
  | .int y :: .int j :: .ref x :: r => (match hp[x]? with
    | some c => if c.1 = t ∧ 0 ≤ j ∧ j.toNatClampNeg < c.2.length ∧ mm_fv ty (.int y) = true then some (r, hp.set x (c.1, c.2.set j.toNatClampNeg (.int y))) else none
    | none => none)
  | _ => none
def mm_aas (st : List Value) (hp : mm_H) : Option (List Value × mm_H) := match st with
  | .null :: .int j :: .ref x :: r => (match hp[x]? with
    | some c => if 1000 ≤ c.1 ∧ mm_isq c.1 = true ∧ 0 ≤ j ∧ j.toNatClampNeg < c.2.length then some (r, hp.set x (c.1, c.2.set j.toNatClampNeg .null)) else none
    | none => none)
  | .ref y :: .int j :: .ref x :: r => (match hp[x]?, hp[y]? with
    | some c, some cv => if c.1 = 2000 + cv.1 ∧ cv.1 < 1000 ∧ mm_isq c.1 = true ∧ 0 ≤ j ∧ j.toNatClampNeg < c.2.length then some (r, hp.set x (c.1, c.2.set j.toNatClampNeg (.ref y))) else none
    | _, _ => none)
  | _ => none
def mm_len (X : List Int32) (st : List Value) (hp : mm_H) : Option (List Value × mm_H) := match st with
  | .ref x :: r => (match hp[x]? with
    | some c => if 1000 ≤ c.1 ∧ (mm_at c.1).isSome = true then some (.int (Int32.ofNat c.2.length) :: r, hp) else none
    | none => none)
  | .retAddr q :: r => if q = 100 then some (.int (Int32.ofNat X.length) :: r, hp) else none
  | _ => none
def mm_nwa (t : Nat) (v : Value) (st : List Value) (hp : mm_H) : Option (List Value × mm_H) := match st with
  | .int n :: r => if 0 ≤ n ∧ n.toNatClampNeg ≤ 100000 then some (.ref hp.length :: r, hp ++ [(t, List.replicate n.toNatClampNeg v)]) else none
  | _ => none
def mm_las (st : List Value) (hp : mm_H) : Option (List Value × mm_H) := match st with
  | .long y :: .int j :: .ref x :: r => (match hp[x]? with
    | some c => if c.1 = 1004 ∧ 0 ≤ j ∧ j.toNatClampNeg < c.2.length then some (r, hp.set x (c.1, c.2.set j.toNatClampNeg (.long y))) else none
    | none => none)
  | _ => none
def mm_hs (X : List Int32) (i : Instr) (a : mm_A) (st : List Value) (hp : mm_H) : Option (List Value × mm_H) := match i with
  | .getfield _ => mm_get a.1 a.2.1 st hp
  | .putfield _ => mm_put a.1 a.2.1 st hp
  | .iaload => mm_ald X 1000 st hp
  | .caload => mm_ald X 1001 st hp
  | .baload => mm_ald X 1002 st hp
  | .aaload => mm_aal st hp
  | .laload => mm_ald X 1004 st hp
  | .lastore => mm_las st hp
  | .iastore => mm_ast 1000 .int st hp
  | .castore => mm_ast 1001 .char st hp
  | .bastore => mm_ast 1002 .boolean st hp
  | .aastore => mm_aas st hp
  | .arraylength => mm_len X st hp
  | .new _ => some (.ref hp.length :: st, hp ++ [(a.1, mm_df a.1)])
  | .newarray _ => mm_nwa a.1 (bif a.1 == 1004 then .long 0 else .int 0) st hp
  | .anewarray _ => mm_nwa a.1 .null st hp
  | _ => none
def mm_sz (hp : mm_H) : Nat := (hp.map (fun c => c.2.length)).sum
theorem mm_sz_push (hp : mm_H) (c : mm_C) : mm_sz (hp ++ [c]) = mm_sz hp + c.2.length := by
  simp [mm_sz]
theorem mm_sz_set {hp : mm_H} {k : Nat} {c c' : mm_C} (h : hp[k]? = some c) (hl : c'.2.length = c.2.length) : mm_sz (hp.set k c') = mm_sz hp := by
  induction hp generalizing k with
  | nil => simp at h
  | cons d hp ih =>
    cases k with
    | zero =>
      simp at h
      subst h
      simp [mm_sz, hl]
    | succ k =>
      have h2 : hp[k]? = some c := by simpa using h
      have := ih h2
      simp only [mm_sz, List.set_cons_succ, List.map_cons, List.sum_cons] at this ⊢
      omega
/-- a cell of the small machine, in the heap at a -/
def mm_cr (D : va_G) (dA : Nat → ClassId) (B : Nat) (ad : Nat → Nat) (a : Nat) (c : mm_C) (H : Heap) : Prop :=
  (c.1 < 1000 ∧ ∃ r, mm_cl[c.1]? = some r ∧ c.2.length = r.2.2 ∧ t_OB a (D.1 c.1) r.2.2 (D.2 c.1) H (vp_V (c.2.map (mm_tr B ad)))) ∨ (1000 ≤ c.1 ∧ H[a]? = some (arrV (dA c.1) c.2.length (vp_V (c.2.map (mm_tr B ad)))))
theorem mm_cr.kept {D : va_G} {dA : Nat → ClassId} {B : Nat} {ad : Nat → Nat} {a : Nat} {c : mm_C} {H H' : Heap} (h : mm_cr D dA B ad a c H) (e : H'[a]? = H[a]?) : mm_cr D dA B ad a c H' := by
  rcases h with ⟨h1, r, h2, h3, h4⟩ | ⟨h1, h2⟩
  · exact Or.inl ⟨h1, r, h2, h3, h4.kept e⟩
  · exact Or.inr ⟨h1, by rw [e]; exact h2⟩
theorem mm_cr.lt {D : va_G} {dA : Nat → ClassId} {B : Nat} {ad : Nat → Nat} {a : Nat} {c : mm_C} {H : Heap} (h : mm_cr D dA B ad a c H) : a < H.size := by
  rcases h with ⟨_, r, _, _, cell, h4, _⟩ | ⟨_, h2⟩
  · exact (Array.getElem?_eq_some_iff.mp h4).1
  · exact (Array.getElem?_eq_some_iff.mp h2).1
def mm_rp (D : va_G) (dA : Nat → ClassId) (h0 : Heap) (ad : Nat → Nat) (hp : mm_H) (H : Heap) : Prop :=
  H.size = h0.size + hp.length ∧ (∀ q : Nat, q < h0.size → H[q]? = h0[q]?) ∧ ∀ (k : Nat) (c : mm_C), hp[k]? = some c → mm_cr D dA h0.size ad (h0.size + k) c H
theorem mm_rp.set {D : va_G} {dA : Nat → ClassId} {h0 : Heap} {ad : Nat → Nat} {hp : mm_H} {H H' : Heap} {k : Nat} {c c' : mm_C} (h : mm_rp D dA h0 ad hp H) (hk : hp[k]? = some c) (z : H'.size = H.size) (o : ∀ q : Nat, q ≠ h0.size + k → H'[q]? = H[q]?) (hc : mm_cr D dA h0.size ad (h0.size + k) c' H') : mm_rp D dA h0 ad (hp.set k c') H' := by
  have hkl : k < hp.length := (List.getElem?_eq_some_iff.mp hk).1
  refine ⟨by rw [z, List.length_set]; exact h.1, fun q hq => by rw [o q (by omega)]; exact h.2.1 q hq, fun j d hj => ?_⟩
  by_cases e : j = k
  · subst e
    rw [List.getElem?_set_self hkl] at hj
    cases hj
    exact hc
  · rw [List.getElem?_set_ne (Ne.symm e)] at hj
    exact (h.2.2 j d hj).kept (o _ (by omega))
theorem mm_rp.push {D : va_G} {dA : Nat → ClassId} {h0 : Heap} {ad : Nat → Nat} {hp : mm_H} {H H' : Heap} {c : mm_C} (h : mm_rp D dA h0 ad hp H) (z : H'.size = H.size + 1) (o : ∀ q : Nat, q < H.size → H'[q]? = H[q]?) (hc : mm_cr D dA h0.size ad H.size c H') : mm_rp D dA h0 ad (hp ++ [c]) H' := by
  refine ⟨by rw [z, h.1]; simp; omega, fun q hq => by rw [o q (by rw [h.1]; omega)]; exact h.2.1 q hq, fun j d hj => ?_⟩
  by_cases e : j < hp.length
  · rw [List.getElem?_append_left e] at hj
    exact (h.2.2 j d hj).kept (o _ (by rw [h.1]; omega))
  · have hl : j < (hp ++ [c]).length := (List.getElem?_eq_some_iff.mp hj).1
    have e2 : j = hp.length := by simp at hl; omega
    subst e2
    rw [List.getElem?_concat_length] at hj
    cases hj
    rw [← h.1]
    exact hc
theorem mm_V_set (B : Nat) (ad : Nat → Nat) {vs : List Value} {k : Nat} (hk : k < vs.length) (v : Value) (j : Nat) : updV (vp_V (vs.map (mm_tr B ad))) k (mm_tr B ad v) j = vp_V ((vs.set k v).map (mm_tr B ad)) j := by
  rw [List.map_set]
  exact vp_updV_set (by simpa using hk) _ j
theorem mm_V_at {B : Nat} {ad : Nat → Nat} {vs : List Value} {k : Nat} {v : Value} (h : vs[k]? = some v) : vp_V (vs.map (mm_tr B ad)) k = mm_tr B ad v := by
  simp [vp_V, h]
theorem mm_fv_ok {B : Nat} {ad : Nat → Nat} {ty : FieldType} {v : Value} (h : mm_fv ty v = true) : narrow ty (mm_tr B ad v) = mm_tr B ad v ∧ fits ty (mm_tr B ad v) = true := by
  cases v with
  | long x =>
    cases ty with
    | long => exact ⟨rfl, rfl⟩
    | _ => exact nomatch (show false = true from h)
  | int x =>
    cases ty with
    | int => exact ⟨rfl, rfl⟩
    | char =>
      have h2 : 0 ≤ x ∧ x ≤ 65535 := of_decide_eq_true h
      obtain ⟨j, hj, rfl⟩ := nI_of2 (x := x) (M := 65535) (n := 65535) (by decide) (fun q => absurd h2.1 (Int32.not_le.mpr q)) h2.2
      exact pk_charN (by omega)
    | boolean =>
      have h2 : (x == 0 || x == 1) = true := h
      rw [Bool.or_eq_true, beq_iff_eq, beq_iff_eq] at h2
      rcases h2 with rfl | rfl
      · exact ⟨show narrow .boolean (.int 0) = .int 0 by decide, show fits .boolean (.int 0) = true by decide⟩
      · exact ⟨show narrow .boolean (.int 1) = .int 1 by decide, show fits .boolean (.int 1) = true by decide⟩
    | _ => exact nomatch (show false = true from h)
  | null =>
    cases ty with
    | object C => exact ⟨rfl, rfl⟩
    | array C => exact ⟨rfl, rfl⟩
    | _ => exact nomatch (show false = true from h)
  | ref x =>
    cases ty with
    | object C => exact ⟨rfl, rfl⟩
    | array C => exact ⟨rfl, rfl⟩
    | _ => exact nomatch (show false = true from h)
  | _ => exact nomatch (show false = true from h)
