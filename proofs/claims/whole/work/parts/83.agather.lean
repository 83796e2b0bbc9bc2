/-! VALUES GATHERED: what a port gets -/
def okB (t : mT) : Bool := Nat.ble (mt_dp t) 3 && mt_wd t
theorem okB_iff {t : mT} : okB t = true ↔ mt_ok t := by
  unfold okB mt_ok
  rw [Bool.and_eq_true, Nat.ble_eq]
def aSp (mg : Nat) (t : mT) : List mT := if mg = 2 ∧ mt_isL t = true then mt_els t else [t]
def aMg (mg : Nat) (xs : List mT) : mT := match xs with
  | [] => .leaf none
  | [x] => if mg = 0 then x else mt_mk (aSp mg x)
  | xs => mt_mk ((xs.map (aSp mg)).flatten)
def aNn (t : mT) : Bool := !(mt_k t == 0)
def aPk (pk : Nat) (t : mT) : Option mT := if pk = 0 then some t else if mt_isL t = true then (if pk = 3 then some (mt_mk ((mt_els t).filter aNn)) else if pk = 2 ∧ ((mt_els t).filter aNn).length ≠ 1 then none else ((mt_els t).filter aNn).head?) else none
def aPre (pre : Option mT) (t : mT) : mT := if mt_k t = 0 then pre.getD t else t
def aPort (mg pk : Nat) (pre : Option mT) (xs : List mT) : Option mT := if okB (aMg mg xs) = true then (aPk pk (aMg mg xs)).map (aPre pre) else none
theorem mt_gd_al {t : mT} (h : mt_gd t) : mt_al t := h.2
theorem mt_gd_mk {es : List mT} (h : ∀ e ∈ es, mt_gd e) (h8 : es.length ≤ 8) (hd : ∀ e ∈ es, mt_dp e < 3) : mt_gd (mt_mk es) := by
  refine mt_gl_mk.mpr ⟨by omega, h8, fun y hy => ?_⟩
  have g := h y hy
  refine ⟨⟨Or.inr ?_, g.1.2⟩, g.2⟩
  have := hd y hy
  omega
theorem okB_mk {es : List mT} (h : ∀ e ∈ es, mt_gd e) : okB (mt_mk es) = true ↔ es.length ≤ 8 ∧ ∀ e ∈ es, mt_dp e < 3 := by
  rw [okB_iff]
  constructor
  · intro ho
    have := (mt_okl_list (mt_isL_mk es)).mp (mt_okl_0.mpr ho)
    rw [mt_els_mk] at this
    refine ⟨this.2.1, fun e he => ?_⟩
    have g := this.2.2 e he
    rcases g.1 with g | g <;> omega
  · rintro ⟨h8, hd⟩
    exact mt_okl_0.mp (mt_gd_mk h h8 hd).1
theorem mt_gd_el {t x : mT} (h : mt_gd t) (hx : x ∈ mt_els t) : mt_gd x ∧ mt_dp x < 3 := by
  have hL : mt_isL t = true := by
    cases t with
    | leaf s => cases hx
    | branch n a b => rfl
  obtain ⟨g1, g2, g3⟩ := (mt_gl_list hL).mp h
  have g := g3 x hx
  refine ⟨mt_gl_dn x 1 0 g (by omega), ?_⟩
  have := mt_gl_dp x 1 g (by omega)
  omega
theorem aSp_gd {mg : Nat} {t : mT} (h : mt_gd t) : ∀ e ∈ aSp mg t, mt_gd e := by
  intro e he
  unfold aSp at he
  split at he
  · exact (mt_gd_el h he).1
  · rw [List.mem_singleton] at he; rw [he]; exact h
theorem aPk_gd {pk : Nat} {t u : mT} (h : mt_gd t) (hu : aPk pk t = some u) : mt_gd u := by
  unfold aPk at hu
  split at hu
  · cases hu; exact h
  · split at hu
    · rename_i hL
      have hf : ∀ e ∈ (mt_els t).filter aNn, mt_gd e ∧ mt_dp e < 3 := fun e he => mt_gd_el h (List.mem_filter.mp he).1
      split at hu
      · cases hu
        refine mt_gd_mk (fun e he => (hf e he).1) ?_ (fun e he => (hf e he).2)
        have := List.length_filter_le aNn (mt_els t)
        have := ((mt_gl_list hL).mp h).2.1
        omega
      · split at hu
        · cases hu
        · exact (hf u (List.mem_of_mem_head? hu)).1
    · cases hu
theorem aMg_gd {mg : Nat} {xs : List mT} (h : ∀ x ∈ xs, mt_gd x) (ho : okB (aMg mg xs) = true) : mt_gd (aMg mg xs) := by
  have many : ∀ es : List mT, (∀ e ∈ es, mt_gd e) → okB (mt_mk es) = true → mt_gd (mt_mk es) := fun es he ho => by
    obtain ⟨a, b⟩ := (okB_mk he).mp ho
    exact mt_gd_mk he a b
  unfold aMg at ho ⊢
  split at ho
  · exact mt_gl_leaf trivial
  · split at ho
    · rename_i hm
      rw [if_pos hm]; exact h _ List.mem_cons_self
    · rename_i hm
      rw [if_neg hm]
      exact many _ (aSp_gd (h _ List.mem_cons_self)) ho
  · refine many _ ?_ ho
    intro e he
    rw [List.mem_flatten] at he
    obtain ⟨l, hl, he⟩ := he
    obtain ⟨x, hx, rfl⟩ := List.mem_map.mp hl
    exact aSp_gd (h x hx) e he
theorem aPort_gd {mg pk : Nat} {pre : Option mT} {xs : List mT} {t : mT} (h : ∀ x ∈ xs, mt_gd x) (hp : ∀ u, pre = some u → mt_gd u) (ht : aPort mg pk pre xs = some t) : mt_gd t := by
  unfold aPort at ht
  split at ht
  · rename_i ho
    rw [Option.map_eq_some_iff] at ht
    obtain ⟨u, h1, e⟩ := ht
    have g := aPk_gd (aMg_gd h ho) h1
    rw [← e]
    unfold aPre
    split
    · cases hq : pre with
      | none => exact g
      | some v => exact hp v hq
    · exact g
  · cases ht
