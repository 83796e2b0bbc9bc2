/-! WORDS: none opens one, some c adds a letter to the last -/
def aE1 (ws : List (List Nat)) : Option Nat → Option (List (List Nat))
  | none => if ws.length < 8 then some (ws ++ [[]]) else none
  | some c => match ws.getLast? with
    | none => none
    | some w => if w.length < 24 then some (ws.dropLast ++ [w ++ [c]]) else none
def aEm : List (List Nat) → List (Option Nat) → Option (List (List Nat))
  | ws, [] => some ws
  | ws, t :: ts => (aE1 ws t).bind (fun ws' => aEm ws' ts)
theorem aE1_l (vs : List (List Nat)) (w : List Nat) (c : Nat) : aE1 (vs ++ [w]) (some c) = if w.length < 24 then some (vs ++ [w ++ [c]]) else none := by
  unfold aE1
  rw [List.getLast?_concat]
  simp only [List.dropLast_concat]
theorem aEm_app : ∀ (a b : List (Option Nat)) (ws : List (List Nat)), aEm ws (a ++ b) = (aEm ws a).bind (fun ws' => aEm ws' b)
  | [], b, ws => rfl
  | t :: a, b, ws => by
    show (aE1 ws t).bind (fun ws' => aEm ws' (a ++ b)) = ((aE1 ws t).bind (fun ws' => aEm ws' a)).bind _
    cases h : aE1 ws t with
    | none => rfl
    | some ws' => exact aEm_app a b ws'
theorem aEm_ls : ∀ (l : List Nat) (vs : List (List Nat)) (w : List Nat), w.length ≤ 24 → aEm (vs ++ [w]) (l.map some) = if w.length + l.length ≤ 24 then some (vs ++ [w ++ l]) else none
  | [], vs, w, h => by
    simp [aEm, h]
  | c :: l, vs, w, h => by
    show (aE1 (vs ++ [w]) (some c)).bind (fun ws' => aEm ws' (l.map some)) = _
    rw [aE1_l]
    by_cases hw : w.length < 24
    · rw [if_pos hw, Option.bind_some, aEm_ls l vs (w ++ [c]) (by simp; omega)]
      simp only [List.length_append, List.length_cons, List.length_nil]
      by_cases h2 : w.length + 1 + l.length ≤ 24
      · rw [if_pos (by omega), if_pos (by omega)]; simp
      · rw [if_neg (by omega), if_neg (by omega)]
    · rw [if_neg hw, if_neg (by rw [List.length_cons]; omega)]; rfl
/-- the tokens of a port's value -/
def aJt (sy : Nat) : List mT → List (Option Nat)
  | [] => []
  | [x] => (mt_pl x).map some
  | x :: y :: l => (mt_pl x).map some ++ ((if sy = 2 then none else some 44) :: aJt sy (y :: l))
def aTk (pf sy : Nat) (t : mT) : List (Option Nat) := (if pf = 0 then [] else [none, some 45, some pf]) ++ (if mt_isL t = true ∧ 2 ≤ sy then none :: aJt sy (mt_els t) else (if sy = 1 ∧ pf ≠ 0 then [] else [none]) ++ (mt_pl t).map some)
def aTp (x : Int32 × Nat × Nat) (t : mT) : List (Option Nat) := if x.2.2 = 4 ∨ mt_k t = 0 ∨ mt_isL t = true ∧ mt_els t = [] then [] else aTk x.2.1 x.2.2 t
def aTs (ps : List (Int32 × Nat × Nat)) (af : Nat → mT) : List Nat → List (Option Nat)
  | [] => []
  | p :: l => aTp (ps.getD p (0, 0, 0)) (af p) ++ aTs ps af l
def aCmd (ps : List (Int32 × Nat × Nat)) (af : Nat → mT) : Option (List (List Nat)) := aEm [] (aTs ps af (aOrd ps))
/-- words that can be -/
def aWok (ws : List (List Nat)) : Prop := ws.length ≤ 8 ∧ ∀ w ∈ ws, w.length ≤ 24 ∧ ∀ c ∈ w, 32 ≤ c ∧ c ≤ 126
theorem aE1_ok {ws ws' : List (List Nat)} {t : Option Nat} (h : aWok ws) (ht : ∀ c, t = some c → 32 ≤ c ∧ c ≤ 126) (he : aE1 ws t = some ws') : aWok ws' := by
  cases t with
  | none =>
    rw [aE1] at he
    split at he
    · cases he
      refine ⟨by simp; omega, fun w hw => ?_⟩
      rcases List.mem_append.mp hw with g | g
      · exact h.2 w g
      · rw [List.mem_singleton] at g; rw [g]; exact ⟨by simp, fun c hc => nomatch hc⟩
    · cases he
  | some c =>
    rw [aE1] at he
    split at he
    · cases he
    · rename_i w hl
      split at he
      · rename_i hw
        cases he
        have hm := List.mem_of_getLast? hl
        have hne : ws ≠ [] := fun g => by rw [g] at hl; cases hl
        have hd : ws.dropLast.length = ws.length - 1 := List.length_dropLast
        have hpos : 0 < ws.length := List.length_pos_iff.mpr hne
        refine ⟨by rw [List.length_append]; simp only [List.length_cons, List.length_nil]; have := h.1; omega, fun x hx => ?_⟩
        rcases List.mem_append.mp hx with g | g
        · exact h.2 x ((List.dropLast_sublist ws).subset g)
        · rw [List.mem_singleton] at g
          subst g
          refine ⟨by simp; omega, fun y hy => ?_⟩
          rcases List.mem_append.mp hy with g | g
          · exact (h.2 w hm).2 y g
          · rw [List.mem_singleton] at g; rw [g]; exact ht c rfl
      · cases he
theorem aEm_ok : ∀ (ts : List (Option Nat)) (ws ws' : List (List Nat)), aWok ws → (∀ c, some c ∈ ts → 32 ≤ c ∧ c ≤ 126) → aEm ws ts = some ws' → aWok ws'
  | [], ws, ws', h, _, e => by cases e; exact h
  | t :: ts, ws, ws', h, ht, e => by
    have e' : (aE1 ws t).bind (fun ws' => aEm ws' ts) = some ws' := e
    rw [Option.bind_eq_some_iff] at e'
    obtain ⟨w1, h1, h2⟩ := e'
    exact aEm_ok ts w1 ws' (aE1_ok h (fun c hc => ht c (by rw [hc]; exact List.mem_cons_self)) h1) (fun c hc => ht c (List.mem_cons_of_mem _ hc)) h2
theorem aJt_ch {sy : Nat} : ∀ {l : List mT}, (∀ x ∈ l, mt_al x) → ∀ c, some c ∈ aJt sy l → 32 ≤ c ∧ c ≤ 126
  | [], _, c, h => by cases h
  | [x], hx, c, h => by
    simp only [aJt, List.mem_map, Option.some.injEq] at h
    obtain ⟨a, ha, e⟩ := h
    subst e
    exact mt_pl_ch (hx x List.mem_cons_self) a ha
  | x :: y :: l, hx, c, h => by
    rw [aJt] at h
    rcases List.mem_append.mp h with h | h
    · simp only [List.mem_map, Option.some.injEq] at h
      obtain ⟨a, ha, e⟩ := h
      subst e
      exact mt_pl_ch (hx x List.mem_cons_self) a ha
    · rcases List.mem_cons.mp h with h | h
      · split at h
        · cases h
        · cases h; omega
      · exact aJt_ch (l := y :: l) (fun z hz => hx z (List.mem_cons_of_mem _ hz)) c h
theorem aTk_ch {pf sy : Nat} {t : mT} (hp : pf = 0 ∨ 97 ≤ pf ∧ pf ≤ 122) (ht : mt_al t) : ∀ c, some c ∈ aTk pf sy t → 32 ≤ c ∧ c ≤ 126 := by
  intro c h
  unfold aTk at h
  rcases List.mem_append.mp h with h | h
  · split at h
    · cases h
    · rename_i hne
      rcases List.mem_cons.mp h with h | h
      · cases h
      · rcases List.mem_cons.mp h with h | h
        · cases h; omega
        · rw [List.mem_singleton] at h
          cases h; omega
  · split at h
    · rename_i hL
      rcases List.mem_cons.mp h with h | h
      · cases h
      · exact aJt_ch (fun x hx => (mt_al_list hL.1).mp ht x hx) c h
    · rcases List.mem_append.mp h with h | h
      · split at h
        · cases h
        · rw [List.mem_singleton] at h; cases h
      · simp only [List.mem_map, Option.some.injEq] at h
        obtain ⟨a, ha, e⟩ := h
        subst e
        exact mt_pl_ch ht a ha
theorem aTs_ch {ps : List (Int32 × Nat × Nat)} {af : Nat → mT} (hp : ∀ x ∈ ps, x.2.1 = 0 ∨ 97 ≤ x.2.1 ∧ x.2.1 ≤ 122) (ha : ∀ i, mt_al (af i)) : ∀ (l : List Nat) (c : Nat), some c ∈ aTs ps af l → 32 ≤ c ∧ c ≤ 126
  | [], c, h => by cases h
  | p :: l, c, h => by
    rw [aTs] at h
    rcases List.mem_append.mp h with h | h
    · unfold aTp at h
      split at h
      · cases h
      · refine aTk_ch ?_ (ha p) c h
        rcases Nat.lt_or_ge p ps.length with hl | hl
        · have e : ps.getD p (0, 0, 0) = ps[p] := by rw [List.getD_eq_getElem?_getD, List.getElem?_eq_getElem hl]; rfl
          rw [e]; exact hp _ (List.getElem_mem hl)
        · have e : ps.getD p (0, 0, 0) = (0, 0, 0) := by rw [List.getD_eq_getElem?_getD, List.getElem?_eq_none hl]; rfl
          rw [e]; exact Or.inl rfl
    · exact aTs_ch hp ha l c h
theorem aCmd_ok {ps : List (Int32 × Nat × Nat)} {af : Nat → mT} {ws : List (List Nat)} (hp : ∀ x ∈ ps, x.2.1 = 0 ∨ 97 ≤ x.2.1 ∧ x.2.1 ≤ 122) (ha : ∀ i, mt_al (af i)) (h : aCmd ps af = some ws) : aWok ws :=
  aEm_ok _ [] ws ⟨by simp, fun w hw => nomatch hw⟩ (aTs_ch hp ha (aOrd ps)) h
theorem flat_le : ∀ {ws : List (List Nat)}, (∀ w ∈ ws, w.length ≤ 24) → ws.flatten.length ≤ 24 * ws.length
  | [], _ => by simp
  | w :: ws, h => by
    have h1 := h w List.mem_cons_self
    have h2 := flat_le (ws := ws) (fun x hx => h x (List.mem_cons_of_mem _ hx))
    rw [List.flatten_cons, List.length_append, List.length_cons]
    omega
/-- where words end -/
def aEn : Nat → List (List Nat) → List Nat
  | _, [] => []
  | o, w :: ws => (o + w.length) :: aEn (o + w.length) ws
theorem aEn_len : ∀ (ws : List (List Nat)) (o : Nat), (aEn o ws).length = ws.length
  | [], _ => rfl
  | w :: ws, o => by simp [aEn, aEn_len ws]
theorem aEn_app : ∀ (vs : List (List Nat)) (w : List Nat) (o : Nat), aEn o (vs ++ [w]) = aEn o vs ++ [o + (vs.flatten.length + w.length)]
  | [], w, o => by simp [aEn]
  | v :: vs, w, o => by
    show (o + v.length) :: aEn (o + v.length) (vs ++ [w]) = (o + v.length) :: (aEn (o + v.length) vs ++ _)
    rw [aEn_app vs w]
    simp
    omega
