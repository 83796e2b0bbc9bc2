/-! GOOD VALUES, forms, plain -/
def mt_lg : mSc → Prop
  | none => True
  | some (.inl n) => -999999 ≤ n ∧ n ≤ 999999
  | some (.inr s) => s.length ≤ 24 ∧ ∀ c ∈ s, mt_lt c
def mt_al (t : mT) : Prop := mt_rec (α := Prop) mt_lg (fun cs => ∀ c ∈ cs, c.2) t
theorem mt_al_leaf (s : mSc) : mt_al (.leaf s) ↔ mt_lg s := Iff.rfl
theorem mt_al_list {t : mT} (h : mt_isL t = true) : mt_al t ↔ ∀ x ∈ mt_els t, mt_al x := by
  unfold mt_al
  rw [mt_rec_list h]
  constructor
  · intro g x hx
    exact g (x, _) (List.mem_map_of_mem hx)
  · intro g c hc
    obtain ⟨x, hx, rfl⟩ := List.mem_map.mp hc
    exact g x hx
/-- a value, good at level l -/
def mt_gl (l : Nat) (t : mT) : Prop := mt_okl l t ∧ mt_al t
theorem mt_gl_list {l : Nat} {t : mT} (h : mt_isL t = true) : mt_gl l t ↔ l < 3 ∧ (mt_els t).length ≤ 8 ∧ ∀ x ∈ mt_els t, mt_gl (l + 1) x := by
  unfold mt_gl
  rw [mt_okl_list h, mt_al_list h]
  constructor
  · rintro ⟨⟨a, b, c⟩, d⟩
    exact ⟨a, b, fun x hx => ⟨c x hx, d x hx⟩⟩
  · rintro ⟨a, b, c⟩
    exact ⟨⟨a, b, fun x hx => (c x hx).1⟩, fun x hx => (c x hx).2⟩
def mt_gd (t : mT) : Prop := mt_gl 0 t
theorem mt_nf_len {n : Int32} : 1 ≤ (mt_nf n).length ∧ (mt_nf n).length ≤ 7 := by
  obtain ⟨a, b⟩ := mt_nd_le n.toInt.natAbs
  unfold mt_nf
  split
  · rw [List.length_cons, mt_dg_ds, mt_ds_len]; omega
  · rw [mt_dg_ds, mt_ds_len]; omega
theorem mt_sf_len {s : mSc} (h : mt_lg s) : 1 ≤ (mt_sf s).length ∧ (mt_sf s).length ≤ 26 := by
  rcases s with _ | n | s
  · exact ⟨by decide, by decide⟩
  · have := mt_nf_len (n := n)
    show 1 ≤ (mt_nf n).length ∧ (mt_nf n).length ≤ 26
    omega
  · have : s.length ≤ 24 := h.1
    show 1 ≤ (34 :: (s ++ [34])).length ∧ (34 :: (s ++ [34])).length ≤ 26
    simp; omega
theorem mt_jn_len {b : Nat} : ∀ {l : List (List Nat)}, (∀ a ∈ l, a.length ≤ b) → (mt_jn l).length ≤ l.length * (b + 1)
  | [], _ => by simp [mt_jn]
  | [a], h => by
    have := h a List.mem_cons_self
    simp [mt_jn]; omega
  | a :: c :: l, h => by
    have h1 := h a List.mem_cons_self
    have h2 := mt_jn_len (l := c :: l) (fun x hx => h x (List.mem_cons_of_mem _ hx))
    show (a ++ 44 :: mt_jn (c :: l)).length ≤ _
    rw [List.length_append, List.length_cons, List.length_cons, Nat.add_mul]
    omega
theorem mt_fm_len : ∀ (t : mT) (l : Nat), mt_gl l t → 1 ≤ (mt_fm t).length ∧ (mt_fm t).length ≤ 20000 := by
  have h : ∀ (t : mT) (l : Nat), mt_gl l t → 1 ≤ (mt_fm t).length ∧ (mt_fm t).length ≤ (if l = 0 then 14042 else if l = 1 then 1754 else if l = 2 then 218 else 26) := by
    intro t
    induction t using mt_ind with
    | hs s =>
      intro l h
      have := mt_sf_len h.2
      rw [mt_fm_leaf]
      repeat' split
      all_goals omega
    | hl t ht ih =>
      intro l h
      obtain ⟨h1, h2, h3⟩ := (mt_gl_list ht).mp h
      rw [mt_fm_list ht]
      have hb : ∀ a ∈ (mt_els t).map mt_fm, a.length ≤ (if l + 1 = 0 then 14042 else if l + 1 = 1 then 1754 else if l + 1 = 2 then 218 else 26) := by
        intro a ha
        obtain ⟨x, hx, rfl⟩ := List.mem_map.mp ha
        exact (ih x hx (l + 1) (h3 x hx)).2
      have hj := mt_jn_len hb
      rw [List.length_map] at hj
      have hm := Nat.le_trans hj (Nat.mul_le_mul_right _ h2)
      rw [List.length_cons, List.length_append]
      simp only [List.length_cons, List.length_nil]
      have : l = 0 ∨ l = 1 ∨ l = 2 := by omega
      rcases this with rfl | rfl | rfl <;> simp at hm ⊢ <;> omega
  intro t l g
  have := h t l g
  refine ⟨this.1, Nat.le_trans this.2 ?_⟩
  repeat' split
  all_goals omega
theorem mt_gl_dp : ∀ (t : mT) (l : Nat), mt_gl l t → l ≤ 3 → l + mt_dp t ≤ 3 := by
  intro t
  induction t using mt_ind with
  | hs s => intro l h hl; rw [mt_dp_leaf]; omega
  | hl t ht ih =>
    intro l h _
    obtain ⟨h1, h2, h3⟩ := (mt_gl_list ht).mp h
    have : mt_dp t ≤ (2 - l) + 1 := (mt_dp_le ht).mpr (fun x hx => by have := ih x hx (l + 1) (h3 x hx) (by omega); omega)
    omega
theorem mt_jn_get {a b : List Nat} {l : List (List Nat)} (i : Nat) : (mt_jn (a :: b :: l))[i]? = if i < a.length then a[i]? else if i = a.length then some 44 else (mt_jn (b :: l))[i - (a.length + 1)]? := by
  show (a ++ 44 :: mt_jn (b :: l))[i]? = _
  by_cases h : i < a.length
  · rw [if_pos h, List.getElem?_append_left h]
  · rw [if_neg h, List.getElem?_append_right (by omega)]
    by_cases h2 : i = a.length
    · rw [if_pos h2, h2, Nat.sub_self]; rfl
    · rw [if_neg h2, show i - a.length = (i - (a.length + 1)) + 1 by omega]; rfl
/-- letter i of a row of letters, or -1 -/
def mt_at (l : List Nat) (i : Nat) : Int32 := match l[i]? with
  | some c => nI c
  | none => -1
theorem mt_at_some {l : List Nat} {i c : Nat} (h : l[i]? = some c) : mt_at l i = nI c := by unfold mt_at; rw [h]
theorem mt_at_none {l : List Nat} {i : Nat} (h : l.length ≤ i) : mt_at l i = -1 := by unfold mt_at; rw [List.getElem?_eq_none h]
section CFO
variable {X : List Int32} {d : Nat} {hp : mm_H} {Q : Option Value → mm_H → Prop} {S : Nat → Prop}
theorem k82_7 {a0 : Nat} {i1 : Int32} : ∀ (t : mT) (l r i : Nat) (o5 o6 : Option Value), cT S hp t r → mt_gl l t → l ≤ 3 → i < 2 ^ 30 → Q (some (.int (mt_at (mt_fm t) i))) hp → mm_R X (d + 1) 82 7 [some (.ref a0), some (.int i1), some (.ref r), some (.int (nI i)), some (.int (nI l)), o5, o6] [] hp Q := by
  intro t
  induction t using mt_ind with
  | hs sc =>
    intro l r i o5 o6 hT hg hl hi H
    obtain ⟨n, junk, h1, h2, h3, h4⟩ := hT
    obtain ⟨f1, f2⟩ := mt_sf_len hg.2
    have hk := mt_k_lt (.leaf sc)
    have hk3 : mt_k (.leaf sc) ≠ 3 := fun e => by have := mt_k3.mp e; simp [mt_isL] at this
    rw [mt_fm_leaf] at H
    refine w82_7 (pk_lt 3 l (fun h => absurd h (by omega)) (fun _ => pk_lt i 0 (fun h => absurd h (by omega)) (fun _ => ⟨rfl, ⟨r, _, _, rfl, h1, rfl, pk_lt i (mt_sf sc).length (fun hlt => ⟨r, _, _, rfl, h1, rfl, pk_eq (mt_k (.leaf sc)) 3 (fun h => absurd h hk3) (fun _ => ⟨r, _, _, rfl, h1, rfl, Or.inr ⟨⟨_, rfl⟩, ⟨r, _, _, rfl, h1, rfl, ⟨r + 1, _, _, rfl, h2, by decide, rfl, ?_⟩⟩⟩⟩)⟩) (fun hge => ?_)⟩⟩)))
    · refine pk_lt i ((mt_sf sc).map mI ++ junk).length (fun _ => ⟨r, _, _, rfl, h1, rfl, ⟨r + 1, _, nI (mt_sf sc)[i], rfl, h2, nI_pos' (by omega), ?_, ?_⟩⟩) (fun h => absurd h (by simp; omega)) rfl rfl (by omega) (by simp; omega)
      · rw [nI_clamp (by omega), List.getElem?_append_left (by simpa using hlt), List.getElem?_map, List.getElem?_eq_getElem hlt]; rfl
      · rw [mt_at_some (List.getElem?_eq_getElem hlt)] at H; exact H
    · rw [mt_at_none hge] at H; exact H
  | hl t ht ih =>
    intro l r i o5 o6 hT hg hl hi H
    obtain ⟨n, I, h1, h2⟩ := (cT_list ht).mp hT
    obtain ⟨f1, f2⟩ := mt_fm_len t l hg
    obtain ⟨g1, g2, g3⟩ := (mt_gl_list ht).mp hg
    have ef := mt_fm_list ht
    have el : (mt_fm t).length = (mt_jn ((mt_els t).map mt_fm)).length + 2 := by rw [ef]; simp
    have hr : mm_isr (.ref r) = true := rfl
    refine w82_7 (pk_lt 3 l (fun h => absurd h (by omega)) (fun _ => pk_lt i 0 (fun h => absurd h (by omega)) (fun _ => ⟨rfl, ⟨r, _, _, rfl, h1, rfl, pk_lt i (mt_fm t).length (fun hlt => ⟨r, _, _, rfl, h1, rfl, ⟨fun _ => pk_eq i 0 (fun e0 => ⟨fun h => absurd (by rw [e0]; rfl) h, fun _ => ?_⟩) (fun e0 => ⟨r, _, _, rfl, h1, rfl, ?_⟩), fun h => absurd rfl h⟩⟩) (fun hge => ?_)⟩⟩)))
    · subst e0
      rw [mt_at_some (show (mt_fm t)[0]? = some 91 by rw [ef]; rfl)] at H; exact H
    · dsimp only
      rw [el]
      rw [show nI ((mt_jn ((mt_els t).map mt_fm)).length + 2) - 1 = nI ((mt_jn ((mt_els t).map mt_fm)).length + 1) from nI_pred _]
      obtain ⟨j, rfl⟩ : ∃ j, i = j + 1 := ⟨i - 1, by omega⟩
      have hget : (mt_fm t)[j + 1]? = (mt_jn ((mt_els t).map mt_fm) ++ [93])[j]? := by rw [ef]; rfl
      refine ⟨fun hne => ?_, fun he => ⟨fun h => ?_, fun h => absurd ((nI_eq (b := 0) (by omega) (by decide)).mp h) (by omega)⟩⟩
      · have hj : j < (mt_jn ((mt_els t).map mt_fm)).length := by
          have : j + 1 ≠ (mt_jn ((mt_els t).map mt_fm)).length + 1 := fun e => hne (by rw [e])
          omega
        rw [List.getElem?_append_left hj] at hget
        rw [pk_m1]
        rcases h2 with ⟨_, e⟩ | ⟨rfl, items, h3, h5, h4⟩
        · rw [e] at hj; simp [mt_jn] at hj
        -- the items
        have loop : ∀ (ys : List mT) (k : Nat) (r5 : Value) (j' : Nat), (mt_els t).drop k = ys → j' ≤ j → (mt_jn (ys.map mt_fm))[j']? = (mt_fm t)[j + 1]? → j' < (mt_jn (ys.map mt_fm)).length → mm_R X (d + 1) 82 97 [some (.ref a0), some (.int i1), some (.ref r), some (.int (nI j')), some (.int (nI l)), some r5, some (.int (nI k))] [] hp Q := by
          intro ys
          induction ys with
          | nil => intro k r5 j' _ _ _ hlt'; simp [mt_jn] at hlt'
          | cons y ys ihy =>
            intro k r5 j' hk hjj hgt hlt'
            have hkl : k < (mt_els t).length := by
              rcases Nat.lt_or_ge k (mt_els t).length with h | h
              · exact h
              · rw [List.drop_eq_nil_of_le h] at hk; cases hk
            have hy : (mt_els t)[k] = y := by
              have := List.drop_eq_getElem_cons hkl
              rw [hk] at this
              exact (List.cons.inj this).1.symm
            have hys : (mt_els t).drop (k + 1) = ys := by
              have := List.drop_eq_getElem_cons hkl
              rw [hk] at this
              exact (List.cons.inj this).2.symm
            obtain ⟨q, q1, q2, q3⟩ := h4 k hkl
            rw [hy] at q3
            have hym : y ∈ mt_els t := hy ▸ List.getElem_mem hkl
            have hgy := g3 y hym
            obtain ⟨fy1, fy2⟩ := mt_fm_len y (l + 1) hgy
            obtain ⟨Ly, Iy, ny, hcy, -⟩ := q3.cell
            have hkI := (List.getElem?_eq_some_iff.mp q1).1
            refine w82_97 ⟨rfl, ⟨r, _, _, rfl, h1, rfl, Or.inr ⟨⟨_, rfl⟩, ⟨r, _, _, rfl, h1, rfl, pk_le (mt_els t).length k (fun h => absurd h (by omega)) (fun _ => ⟨r, _, _, rfl, h1, rfl, ⟨r + 1, _, _, rfl, h3, by decide, rfl, pk_le items.length k (fun h => absurd h (by omega)) (fun _ => ⟨r, _, _, rfl, h1, rfl, ⟨r + 1, _, _, _, rfl, h3, by decide, rfl, nI_pos' (by omega), by rw [nI_clamp (by omega)]; exact q1, ⟨rfl, Or.inr ⟨⟨_, rfl⟩, ⟨q, _, _, rfl, hcy, rfl, pk_lt (mt_fm y).length j' (fun hgtl => ⟨q, _, _, rfl, hcy, rfl, ?_⟩) (fun hle => ?_)⟩⟩⟩⟩⟩)⟩⟩)⟩⟩⟩⟩
            · cases ys with
              | nil => simp [mt_jn] at hlt'; omega
              | cons z zs =>
                rw [nI_1, nI_1, pk_sub (by omega)]
                refine ihy (k + 1) _ _ hys (by omega) ?_ ?_
                · rw [← hgt]
                  simp only [List.map_cons]
                  rw [mt_jn_get, if_neg (by omega), if_neg (by omega)]
                · have : (mt_jn ((y :: z :: zs).map mt_fm)).length = (mt_fm y).length + ((mt_jn ((z :: zs).map mt_fm)).length + 1) := by
                    show (mt_fm y ++ 44 :: mt_jn ((z :: zs).map mt_fm)).length = _
                    simp
                  omega
            · refine w82_165 ⟨rfl, Or.inr ⟨⟨_, rfl⟩, ⟨q, _, _, rfl, hcy, rfl, ⟨fun hne' => ?_, fun he' => Or.inr ⟨⟨_, rfl⟩, ?_⟩⟩⟩⟩⟩
              · have hlt2 : j' < (mt_fm y).length := by
                  have : j' ≠ (mt_fm y).length := fun e => hne' (by rw [e])
                  omega
                rw [nI_1]
                refine ih y hym (l + 1) q j' _ _ q3 hgy (by omega) (by omega) ?_
                have : (mt_fm y)[j']? = (mt_fm t)[j + 1]? := by
                  rw [← hgt]
                  cases ys with
                  | nil => rfl
                  | cons z zs =>
                    simp only [List.map_cons]
                    rw [mt_jn_get, if_pos hlt2]
                have e2 : mt_at (mt_fm y) j' = mt_at (mt_fm t) (j + 1) := by unfold mt_at; rw [this]
                rw [e2]; exact H
              · have e := (nI_eq (by omega) (by omega)).mp he'
                cases ys with
                | nil => simp [mt_jn] at hlt'; omega
                | cons z zs =>
                  simp only [List.map_cons] at hgt
                  rw [mt_jn_get, if_neg (by omega), if_pos e] at hgt
                  rw [mt_at_some hgt.symm] at H; exact H
        exact loop (mt_els t) 0 .null j rfl (Nat.le_refl _) hget.symm hj
      · have e := (nI_eq (by omega) (by omega)).mp he
        rw [List.getElem?_append_right (by omega), show j - (mt_jn ((mt_els t).map mt_fm)).length = 0 by omega] at hget
        rw [mt_at_some hget] at H; exact H
    · rw [mt_at_none hge] at H; exact H
/-- formAt -/
theorem k82 {t : mT} {r i : Nat} (hT : cT S hp t r) (hg : mt_gd t) (hi : i < 2 ^ 30) (H : Q (some (.int (mt_at (mt_fm t) i))) hp) : mm_R X (d + 1) 82 0 (mm_L0 82 [.ref r, .int (nI i)]) [] hp Q := by
  refine w82_0 ?_
  exact k82_7 t 0 r i _ _ hT hg (by omega) hi H
end CFO
