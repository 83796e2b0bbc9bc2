/-! THE CLASS'S VALUES in its cells -/
def mI (c : Nat) : Value := .int (nI c)
/-- cells whose values are never changed again -/
def cS (q : Nat) : Prop := q < 21 ∨ 52 ≤ q
def cSc (hp : mm_H) (sc : mSc) (r : Nat) : Prop := ∃ n junk, hp[r]? = some (2, [.ref (r + 1), .null, .int (nI (mt_k (.leaf sc))), .int n, .int (nI (mt_txt (.leaf sc)).length), .int 0, .int (nI (mt_sf sc).length)]) ∧ hp[r + 1]? = some (1001, (mt_sf sc).map mI ++ junk) ∧ (mt_k (.leaf sc) = 1 → n = mt_num (.leaf sc)) ∧ junk.length ≤ 30
def cLi (S : Nat → Prop) (hp : mm_H) (xs : List (mT × (Nat → Prop))) (r : Nat) : Prop := ∃ n I, hp[r]? = some (2, [.null, I, .int 3, .int n, .int (nI xs.length), .int (nI (1 + (xs.map (fun x => mt_dp x.1)).foldr max 0)), .int (nI (1 + ((mt_jn (xs.map (fun x => mt_fm x.1))).length + 1)))]) ∧ ((I = .null ∧ xs = []) ∨ (I = .ref (r + 1) ∧ ∃ items, hp[r + 1]? = some (2002, items) ∧ items.length ≤ 8 ∧ ∀ j (h : j < xs.length), ∃ q, items[j]? = some (.ref q) ∧ S q ∧ (xs[j]).2 q))
theorem cLi_def (S : Nat → Prop) (hp : mm_H) (xs : List (mT × (Nat → Prop))) (r : Nat) : cLi S hp xs r = (∃ n I, hp[r]? = some (2, [.null, I, .int 3, .int n, .int (nI xs.length), .int (nI (1 + (xs.map (fun x => mt_dp x.1)).foldr max 0)), .int (nI (1 + ((mt_jn (xs.map (fun x => mt_fm x.1))).length + 1)))]) ∧ ((I = .null ∧ xs = []) ∨ (I = .ref (r + 1) ∧ ∃ items, hp[r + 1]? = some (2002, items) ∧ items.length ≤ 8 ∧ ∀ j (h : j < xs.length), ∃ q, items[j]? = some (.ref q) ∧ S q ∧ (xs[j]).2 q))) := rfl
/-- tree t at cell r; S: where its elements may be -/
def cT (S : Nat → Prop) (hp : mm_H) (t : mT) (r : Nat) : Prop := mt_rec (α := Nat → Prop) (cSc hp) (cLi S hp) t r
theorem cT_leaf {S : Nat → Prop} {hp : mm_H} {sc : mSc} {r : Nat} : cT S hp (.leaf sc) r ↔ cSc hp sc r := Iff.rfl
theorem cT_list {S : Nat → Prop} {hp : mm_H} {t : mT} {r : Nat} (h : mt_isL t = true) : cT S hp t r ↔ ∃ n I, hp[r]? = some (2, [.null, I, .int 3, .int n, .int (nI (mt_els t).length), .int (nI (mt_dp t)), .int (nI (mt_fm t).length)]) ∧ ((I = .null ∧ mt_els t = []) ∨ (I = .ref (r + 1) ∧ ∃ items, hp[r + 1]? = some (2002, items) ∧ items.length ≤ 8 ∧ ∀ j (h : j < (mt_els t).length), ∃ q, items[j]? = some (.ref q) ∧ S q ∧ cT S hp ((mt_els t)[j]) q)) := by
  unfold cT
  rw [mt_rec_list h, cLi_def]
  have e1 : mt_dp t = 1 + (((mt_els t).map (fun x => (x, mt_rec (α := Nat → Prop) (cSc hp) (cLi S hp) x))).map (fun x => mt_dp x.1)).foldr max 0 := by
    rw [mt_dp_list h, List.map_map]; rfl
  have e2 : (mt_fm t).length = 1 + ((mt_jn (((mt_els t).map (fun x => (x, mt_rec (α := Nat → Prop) (cSc hp) (cLi S hp) x))).map (fun x => mt_fm x.1))).length + 1) := by
    rw [mt_fm_list h, List.map_map, List.length_cons, List.length_append, Nat.add_comm 1]; rfl
  rw [e1, e2]
  simp only [List.length_map, List.getElem_map, List.map_eq_nil_iff]
/-- the values of S are as they were -/
def cX (S : Nat → Prop) (hp hp' : mm_H) : Prop := ∀ q vs, S q → hp[q]? = some (2, vs) → hp'[q]? = hp[q]? ∧ ∀ u cs, hp[q + 1]? = some (u, cs) → u ≠ 2 → (vs[0]? = some (.ref (q + 1)) ∨ vs[1]? = some (.ref (q + 1))) → hp'[q + 1]? = hp[q + 1]?
theorem cX.rf {S : Nat → Prop} {hp : mm_H} : cX S hp hp := fun _ _ _ _ => ⟨rfl, fun _ _ _ _ _ => rfl⟩
theorem cX.tr {S : Nat → Prop} {a b c : mm_H} (h : cX S a b) (k : cX S b c) : cX S a c := fun q vs hs hq => by
  obtain ⟨h1, h2⟩ := h q vs hs hq
  obtain ⟨k1, k2⟩ := k q vs hs (h1.trans hq)
  exact ⟨k1.trans h1, fun u cs e hu z => (k2 u cs ((h2 u cs e hu z).trans e) hu z).trans (h2 u cs e hu z)⟩
theorem cX.mono {S S' : Nat → Prop} {a b : mm_H} (h : cX S a b) (f : ∀ q, S' q → S q) : cX S' a b := fun q vs hs hq => h q vs (f q hs) hq
theorem cT.tag {S : Nat → Prop} {hp : mm_H} {t : mT} {r : Nat} (h : cT S hp t r) : ∃ vs, hp[r]? = some (2, vs) := by
  by_cases hl : mt_isL t = true
  · obtain ⟨n, I, k1, _⟩ := (cT_list hl).mp h
    exact ⟨_, k1⟩
  · obtain ⟨sc, e⟩ := mt_leaf hl
    subst e
    obtain ⟨n, junk, k1, _⟩ := h
    exact ⟨_, k1⟩
theorem cT.keep2 {S : Nat → Prop} {hp hp' : mm_H} (Y : cX S hp hp') : ∀ {t : mT} {r : Nat}, cT S hp t r → hp'[r]? = hp[r]? → (∀ vs u cs, hp[r]? = some (2, vs) → hp[r + 1]? = some (u, cs) → u ≠ 2 → (vs[0]? = some (.ref (r + 1)) ∨ vs[1]? = some (.ref (r + 1))) → hp'[r + 1]? = hp[r + 1]?) → cT S hp' t r := by
  intro t
  induction t using mt_ind with
  | hs sc =>
    intro r h e1 e2
    obtain ⟨n, junk, h1, h2, h3⟩ := h
    exact ⟨n, junk, e1.trans h1, (e2 _ _ _ h1 h2 (by decide) (Or.inl rfl)).trans h2, h3⟩
  | hl t ht ih =>
    intro r h e1 e2
    obtain ⟨n, I, h1, h2⟩ := (cT_list ht).mp h
    refine (cT_list ht).mpr ⟨n, I, e1.trans h1, ?_⟩
    rcases h2 with h2 | ⟨rfl, items, h3, h5, h4⟩
    · exact Or.inl h2
    · refine Or.inr ⟨rfl, items, (e2 _ _ _ h1 h3 (by decide) (Or.inr rfl)).trans h3, h5, fun j hj => ?_⟩
      obtain ⟨q, g1, g2, g3⟩ := h4 j hj
      obtain ⟨vs, hx⟩ := g3.tag
      refine ⟨q, g1, g2, ih _ (List.getElem_mem hj) g3 (Y q vs g2 hx).1 ?_⟩
      intro vs' u cs hx' hc hu hv
      exact (Y q vs' g2 hx').2 u cs hc hu hv
theorem cT.keep {S : Nat → Prop} {hp hp' : mm_H} {t : mT} {r : Nat} (h : cT S hp t r) (hs : S r) (Y : cX S hp hp') : cT S hp' t r := by
  obtain ⟨vs, hx⟩ := h.tag
  refine h.keep2 Y (Y r vs hs hx).1 ?_
  intro vs' u cs hx' hc hu hv
  exact (Y r vs' hs hx').2 u cs hc hu hv
theorem cT.mono {S S' : Nat → Prop} {hp : mm_H} (f : ∀ q, q < hp.length → S q → S' q) : ∀ {t : mT} {r : Nat}, cT S hp t r → cT S' hp t r := by
  intro t
  induction t using mt_ind with
  | hs sc => intro r h; exact h
  | hl t ht ih =>
    intro r h
    obtain ⟨n, I, h1, h2⟩ := (cT_list ht).mp h
    refine (cT_list ht).mpr ⟨n, I, h1, ?_⟩
    rcases h2 with h2 | ⟨rfl, items, h3, h5, h4⟩
    · exact Or.inl h2
    · refine Or.inr ⟨rfl, items, h3, h5, fun j hj => ?_⟩
      obtain ⟨q, g1, g2, g3⟩ := h4 j hj
      obtain ⟨vs, hx⟩ := g3.tag
      exact ⟨q, g1, f q (List.getElem?_eq_some_iff.mp hx).1 g2, ih _ (List.getElem_mem hj) g3⟩
def cV (S : Nat → Prop) (hp : mm_H) (v : Value) (t : mT) : Prop := ∃ r, v = .ref r ∧ S r ∧ cT S hp t r
theorem cV.keep {S : Nat → Prop} {hp hp' : mm_H} {t : mT} {v : Value} (h : cV S hp v t) (Y : cX S hp hp') : cV S hp' v t := by
  obtain ⟨r, h1, h2, h3⟩ := h
  exact ⟨r, h1, h2, h3.keep h2 Y⟩
theorem cV.mono {S S' : Nat → Prop} {hp : mm_H} {t : mT} {v : Value} (h : cV S hp v t) (f : ∀ q, q < hp.length → S q → S' q) : cV S' hp v t := by
  obtain ⟨r, h1, h2, h3⟩ := h
  obtain ⟨vs, hx⟩ := h3.tag
  exact ⟨r, h1, f r (List.getElem?_eq_some_iff.mp hx).1 h2, h3.mono f⟩
/-- what every value's cell has -/
theorem cT.cell {S : Nat → Prop} {hp : mm_H} {t : mT} {r : Nat} (h : cT S hp t r) : ∃ L I n, hp[r]? = some (2, [L, I, .int (nI (mt_k t)), .int n, .int (nI (if mt_isL t then (mt_els t).length else (mt_txt t).length)), .int (nI (mt_dp t)), .int (nI (mt_fm t).length)]) ∧ mw_nr L ∧ mw_nr I ∧ (mt_k t = 1 → n = mt_num t) := by
  by_cases hl : mt_isL t = true
  · obtain ⟨n, I, k1, k2⟩ := (cT_list hl).mp h
    refine ⟨.null, I, n, ?_, Or.inl rfl, ?_, fun hk => absurd hk (by rw [mt_k3.mpr hl]; decide)⟩
    · rw [k1, hl, mt_k3.mpr hl]; rfl
    · rcases k2 with ⟨rfl, _⟩ | ⟨rfl, _⟩
      · exact Or.inl rfl
      · exact Or.inr ⟨_, rfl⟩
  · obtain ⟨sc, e⟩ := mt_leaf hl
    subst e
    obtain ⟨n, junk, k1, k2, k3⟩ := h
    exact ⟨.ref (r + 1), .null, n, k1, Or.inr ⟨_, rfl⟩, Or.inl rfl, k3.1⟩
/-- cells but those of W are as they were; at most a cells more, of at most 26 each -/
def cE (W : Nat → Prop) (hp hp' : mm_H) : Prop := hp.length ≤ hp'.length ∧ ∀ x, x < hp.length → ¬ W x → hp'[x]? = hp[x]?
def cG (a : Nat) (hp hp' : mm_H) : Prop := hp'.length ≤ hp.length + a ∧ mm_sz hp' ≤ mm_sz hp + 26 * a
theorem cE.rf {W : Nat → Prop} {hp : mm_H} : cE W hp hp := ⟨Nat.le_refl _, fun _ _ _ => rfl⟩
theorem cE.tr {W : Nat → Prop} {a b c : mm_H} (h : cE W a b) (k : cE W b c) : cE W a c := ⟨Nat.le_trans h.1 k.1, fun x hx hw => (k.2 x (Nat.lt_of_lt_of_le hx h.1) hw).trans (h.2 x hx hw)⟩
theorem cE.mono {W W' : Nat → Prop} {a b : mm_H} (h : cE W a b) (f : ∀ x, x < a.length → W x → W' x) : cE W' a b := ⟨h.1, fun x hx hw => h.2 x hx (fun z => hw (f x hx z))⟩
theorem cE.app {W : Nat → Prop} {hp l : mm_H} : cE W hp (hp ++ l) := ⟨by simp, fun x hx _ => List.getElem?_append_left hx⟩
theorem cE.set {W : Nat → Prop} {hp : mm_H} {r : Nat} {c : mm_C} (h : W r) : cE W hp (hp.set r c) := ⟨by simp, fun x _ hw => List.getElem?_set_ne (fun (e : r = x) => hw (e ▸ h))⟩
theorem cE.at {W : Nat → Prop} {hp hp' : mm_H} (h : cE W hp hp') {x : Nat} {c : mm_C} (hx : hp[x]? = some c) (hw : ¬ W x) : hp'[x]? = some c := (h.2 x (List.getElem?_eq_some_iff.mp hx).1 hw).trans hx
theorem cG.rf {hp : mm_H} : cG 0 hp hp := ⟨Nat.le_refl _, Nat.le_refl _⟩
theorem cG.tr {a b : Nat} {x y z : mm_H} (h : cG a x y) (k : cG b y z) : cG (a + b) x z := ⟨by have := h.1; have := k.1; omega, by have := h.2; have := k.2; omega⟩
theorem cG.mono {a b : Nat} {x y : mm_H} (h : cG a x y) (hab : a ≤ b) : cG b x y := ⟨by have := h.1; omega, by have := h.2; omega⟩
/-- where only cells that are no value's are written -/
theorem cE.x {S : Nat → Prop} {hp hp' : mm_H} {W : Nat → Prop} (h : cE W hp hp') (hw : ∀ q vs, S q → hp[q]? = some (2, vs) → ¬ W q ∧ ∀ u cs, hp[q + 1]? = some (u, cs) → u ≠ 2 → ¬ W (q + 1)) : cX S hp hp' := fun q vs hs hq => by
  obtain ⟨g1, g2⟩ := hw q vs hs hq
  refine ⟨h.2 q (List.getElem?_eq_some_iff.mp hq).1 g1, fun u cs e hu _ => ?_⟩
  exact h.2 (q + 1) (List.getElem?_eq_some_iff.mp e).1 (g2 u cs e hu)
theorem cE.x0 {S : Nat → Prop} {hp hp' : mm_H} (h : cE (fun _ => False) hp hp') : cX S hp hp' := h.x (fun _ _ _ _ => ⟨id, fun _ _ _ _ => id⟩)
/-- where only one value is written -/
theorem cE.x2 {S : Nat → Prop} {hp hp' : mm_H} {r : Nat} {vs : List Value} (h : cE (fun x => x = r ∨ x = r + 1) hp hp') (hr : hp[r]? = some (2, vs)) (h1 : ∀ u cs, hp[r + 1]? = some (u, cs) → u ≠ 2) (hS : ¬ S r) : cX S hp hp' := h.x (fun q ws hq hx => by
  refine ⟨?_, ?_⟩
  · rintro (rfl | rfl)
    · exact hS hq
    · exact h1 2 ws hx rfl
  · rintro u cs e hu (rfl | e2)
    · rw [hr] at e
      cases e
      exact hu rfl
    · have : q = r := by omega
      subst this
      exact hS hq)
/-- two cells side by side: a value and its letters or items -/
def c2 (hp : mm_H) (r : Nat) (c c' : mm_C) : mm_H := (hp.set r c).set (r + 1) c'
section C2
variable {hp : mm_H} {r : Nat} {c c' : mm_C}
theorem c2_len : (c2 hp r c c').length = hp.length := by unfold c2; simp
theorem c2_0 (h : r + 1 < hp.length) : (c2 hp r c c')[r]? = some c := by
  unfold c2
  rw [List.getElem?_set_ne (by omega), List.getElem?_set_self (by omega)]
theorem c2_1 (h : r + 1 < hp.length) : (c2 hp r c c')[r + 1]? = some c' := by
  unfold c2
  rw [List.getElem?_set_self (by simpa using h)]
theorem c2_n {x : Nat} (h0 : x ≠ r) (h1 : x ≠ r + 1) : (c2 hp r c c')[x]? = hp[x]? := by
  unfold c2
  rw [List.getElem?_set_ne (fun e => h1 e.symm), List.getElem?_set_ne (fun e => h0 e.symm)]
theorem c2_s0 {e : mm_C} : (c2 hp r c c').set r e = c2 hp r e c' := by
  unfold c2
  rw [List.set_comm _ _ (by omega), List.set_set]
theorem c2_s1 {e : mm_C} : (c2 hp r c c').set (r + 1) e = c2 hp r c e := by
  unfold c2
  rw [List.set_set]
theorem c2_self (h : hp[r]? = some c) (h' : hp[r + 1]? = some c') : c2 hp r c c' = hp := by
  unfold c2
  apply List.ext_getElem?
  intro i
  by_cases e1 : r + 1 = i
  · subst e1
    rw [List.getElem?_set_self (by simpa using (List.getElem?_eq_some_iff.mp h').1), h']
  · by_cases e2 : r = i
    · subst e2
      rw [List.getElem?_set_ne e1, List.getElem?_set_self (List.getElem?_eq_some_iff.mp h).1, h]
    · rw [List.getElem?_set_ne e1, List.getElem?_set_ne e2]
theorem c2_e {W : Nat → Prop} (h0 : W r) (h1 : W (r + 1)) : cE W hp (c2 hp r c c') := ⟨by rw [c2_len]; exact Nat.le_refl _, fun x _ hw => c2_n (fun e => hw (e ▸ h0)) (fun e => hw (e ▸ h1))⟩
theorem c2_sz {d d' : mm_C} (h : hp[r]? = some d) (h' : hp[r + 1]? = some d') (e : c.2.length = d.2.length) (e' : c'.2.length = d'.2.length) : mm_sz (c2 hp r c c') = mm_sz hp := by
  unfold c2
  rw [mm_sz_set (c := d') (by rw [List.getElem?_set_ne (by omega)]; exact h') e', mm_sz_set h e]
theorem c2_g {d d' : mm_C} (h : hp[r]? = some d) (h' : hp[r + 1]? = some d') (e : c.2.length = d.2.length) (e' : c'.2.length = d'.2.length) : cG 0 hp (c2 hp r c c') := ⟨by rw [c2_len]; omega, by rw [c2_sz h h' e e']; omega⟩
variable {t : Nat} {vs cs : List Value}
theorem c2_gi {ci k : Nat} {y : Int32} {K : Int32 → Prop} (hl : r + 1 < hp.length) (hv : vs[k]? = some (.int y)) (H : K y) : mw_gi ci k (.ref r) (c2 hp r (ci, vs) c') K := ⟨r, vs, y, rfl, c2_0 hl, hv, H⟩
theorem c2_gv {ci k : Nat} {y : Value} {K : Value → Prop} (hl : r + 1 < hp.length) (hv : vs[k]? = some y) (H : K y) : mw_gv ci k (.ref r) (c2 hp r (ci, vs) c') K := ⟨r, vs, y, rfl, c2_0 hl, hv, H⟩
theorem c2_pt {ci k : Nat} {w : Value} {K : mm_H → Prop} (hl : r + 1 < hp.length) (hk : Nat.blt k vs.length = true) (hf : mm_fv (mm_ft ci k) w = true) (H : K (c2 hp r (ci, vs.set k w) c')) : mw_pt ci k (.ref r) w (c2 hp r (ci, vs) c') K := ⟨r, vs, rfl, c2_0 hl, Nat.le_of_ble_eq_true hk, hf, by rw [c2_s0]; exact H⟩
theorem c2_ln {K : Int32 → Prop} (hl : r + 1 < hp.length) (ht : 1000 ≤ t ∧ (mm_at t).isSome = true) (H : K (nI cs.length)) : mw_ln (.ref (r + 1)) (c2 hp r c (t, cs)) K := ⟨r + 1, t, cs, rfl, c2_1 hl, ht.1, ht.2, H⟩
theorem c2_ai {i : Nat} {y : Int32} {K : Int32 → Prop} (hl : r + 1 < hp.length) (hi : i < 2 ^ 31) (hv : cs[i]? = some (.int y)) (H : K y) : mw_ai t (.ref (r + 1)) (nI i) (c2 hp r c (t, cs)) K := ⟨r + 1, cs, y, rfl, c2_1 hl, nI_pos' hi, by rw [nI_clamp hi]; exact hv, H⟩
theorem c2_si {i : Nat} {y : Int32} {ty : FieldType} {K : mm_H → Prop} (hl : r + 1 < hp.length) (hi : i < 2 ^ 31) (hv : i < cs.length) (hf : mm_fv ty (.int y) = true) (H : K (c2 hp r c (t, cs.set i (.int y)))) : mw_si t ty (.ref (r + 1)) (nI i) y (c2 hp r c (t, cs)) K := ⟨r + 1, cs, rfl, c2_1 hl, nI_pos' hi, by rw [nI_clamp hi]; exact hv, hf, by rw [c2_s1, nI_clamp hi]; exact H⟩
theorem c2_sv {i : Nat} {w : Value} {K : mm_H → Prop} (hl : r + 1 < hp.length) (ht : 1000 ≤ t ∧ mm_isq t = true) (hi : i < 2 ^ 31) (hv : i < cs.length) (hw : w = .null ∨ ∃ y ci ws, w = .ref y ∧ (c2 hp r c (t, cs))[y]? = some (ci, ws) ∧ ci < 1000 ∧ t = 2000 + ci) (H : K (c2 hp r c (t, cs.set i w))) : mw_sv (.ref (r + 1)) (nI i) w (c2 hp r c (t, cs)) K := ⟨r + 1, t, cs, rfl, c2_1 hl, ht.1, ht.2, nI_pos' hi, by rw [nI_clamp hi]; exact hv, hw, by rw [c2_s1, nI_clamp hi]; exact H⟩
theorem c2_rc {k : Nat} (hl : r + 1 < hp.length) (hk : mm_mc k = 2) : mw_rc (.ref r) k (c2 hp r (2, vs) c') := ⟨r, vs, rfl, by rw [hk]; exact c2_0 hl⟩
end C2
