/-! THE CLASS'S JOBS: words -/
def cJw (hp : mm_H) (j s n : Nat) (ws : List (List Nat)) : Prop := ∃ (lb : Int32) (junk ej : List Value), hp[j]? = some (9, [.int (nI s), .int (nI n), .ref (j + 1), .ref (j + 2), .int (nI ws.length), .int (nI ws.flatten.length), .int lb]) ∧ hp[j + 1]? = some (1001, ws.flatten.map mI ++ junk) ∧ ws.flatten.length + junk.length = 192 ∧ hp[j + 2]? = some (1000, (aEn 0 ws).map mI ++ ej) ∧ ws.length + ej.length = 8 ∧ (∀ vs w, ws = vs ++ [w] → lb = nI vs.flatten.length) ∧ (∀ w ∈ ws, w.length ≤ 24) ∧ (∀ v ∈ ej, ∃ x, v = .int x)
def wJ (j x : Nat) : Prop := x = j ∨ x = j + 1 ∨ x = j + 2
theorem cJw.nV {hp : mm_H} {j s n : Nat} {ws : List (List Nat)} (h : cJw hp j s n ws) : ∀ x, x < hp.length → wJ j x → nV hp x := by
  obtain ⟨lb, junk, ej, a, b, _, c, _⟩ := h
  rintro x _ (rfl | rfl | rfl)
  · exact nV.of a (by decide) (by decide) (by decide)
  · exact nV.of2 b (by decide) a (by decide)
  · exact nV.of c (by decide) (by decide) (by decide)
theorem cJw.keep {hp hp' : mm_H} {W : Nat → Prop} {j s n : Nat} {ws : List (List Nat)} (h : cJw hp j s n ws) (E : cE W hp hp') (h0 : ¬ W j) (h1 : ¬ W (j + 1)) (h2 : ¬ W (j + 2)) : cJw hp' j s n ws := by
  obtain ⟨lb, junk, ej, a, b, c, e, f⟩ := h
  exact ⟨lb, junk, ej, E.at a h0, E.at b h1, c, E.at e h2, f⟩
theorem cJw.rc {hp : mm_H} {j s n k : Nat} {ws : List (List Nat)} (h : cJw hp j s n ws) (hk : mm_mc k = 9) : mw_rc (.ref j) k hp := by
  obtain ⟨lb, junk, ej, a, _⟩ := h
  exact ⟨j, _, rfl, by rw [hk]; exact a⟩
section CJ
variable {X : List Int32} {d : Nat} {hp : mm_H} {Q : Option Value → mm_H → Prop}
/-- openWord -/
theorem k89 {j s n : Nat} {ws : List (List Nat)} (J : cJw hp j s n ws) (H1 : ∀ ws', aE1 ws none = some ws' → ∀ hp', cE (wJ j) hp hp' → cG 0 hp hp' → cJw hp' j s n ws' → Q (some (.int 1)) hp') (H0 : aE1 ws none = none → Q (some (.int 0)) hp) : mm_R X (d + 1) 89 0 (mm_L0 89 [.ref j]) [] hp Q := by
  obtain ⟨lb, junk, ej, a, b, c, e, f, g, h, i⟩ := id J
  have l0 := (List.getElem?_eq_some_iff.mp a).1
  have l2 := (List.getElem?_eq_some_iff.mp e).1
  have hen := aEn_len ws 0
  refine w89_0 ⟨j, _, _, rfl, a, rfl, pk_lt ws.length 8 (fun h8 => ?_) (fun h8 => H0 (by rw [aE1, if_neg (by omega)]))⟩
  cases ej with
  | nil => simp [-List.length_flatten, -List.map_flatten] at f; omega
  | cons v ej =>
    rw [List.length_cons] at f
    refine ⟨j, _, _, rfl, a, rfl, j, _, _, rfl, a, rfl, j, _, _, rfl, a, rfl, j + 2, _, rfl, e, nI_pos' (by omega), by rw [nI_clamp (by omega)]; simp [hen, -List.length_flatten, -List.map_flatten], rfl, ?_⟩
    rw [nI_clamp (by omega)]
    have ec : ((aEn 0 ws).map mI ++ v :: ej).set ws.length (.int (nI ws.flatten.length)) = (aEn 0 (ws ++ [[]])).map mI ++ ej := by
      rw [List.set_append_right _ _ (by simp [hen, -List.length_flatten, -List.map_flatten]), aEn_app]
      simp [mI, hen, -List.length_flatten, -List.map_flatten]
    rw [ec]
    have g0 : (hp.set (j + 2) (1000, (aEn 0 (ws ++ [[]])).map mI ++ ej))[j]? = some (9, [.int (nI s), .int (nI n), .ref (j + 1), .ref (j + 2), .int (nI ws.length), .int (nI ws.flatten.length), .int lb]) := by
      rw [List.getElem?_set_ne (by omega)]; exact a
    refine ⟨j, _, _, rfl, g0, rfl, j, _, rfl, g0, Nat.le_of_ble_eq_true rfl, rfl, ?_⟩
    have l0' : j < (hp.set (j + 2) (1000, (aEn 0 (ws ++ [[]])).map mI ++ ej)).length := by simpa [-List.length_flatten, -List.map_flatten] using l0
    refine ⟨j, _, _, rfl, List.getElem?_set_self l0', rfl, j, _, rfl, List.getElem?_set_self l0', Nat.le_of_ble_eq_true rfl, rfl, ?_⟩
    rw [List.set_set]
    refine H1 (ws ++ [[]]) (by rw [aE1, if_pos h8]) _ ((cE.set (Or.inr (Or.inr rfl))).tr (cE.set (Or.inl rfl))) ⟨by simp, ?_⟩ ⟨nI ws.flatten.length, junk, ej, ?_, ?_, ?_, ?_, ?_, ?_, ?_, fun w hw => i w (List.mem_cons_of_mem _ hw)⟩
    · rw [mm_sz_set g0 (by rfl), mm_sz_set e (by simp [hen, aEn_len, -List.length_flatten, -List.map_flatten]; omega)]; omega
    · rw [List.getElem?_set_self l0', nI_1]
      simp [-List.length_flatten, -List.map_flatten]
    · rw [List.getElem?_set_ne (by omega), List.getElem?_set_ne (by omega)]
      simpa [-List.length_flatten, -List.map_flatten] using b
    · simpa [-List.length_flatten, -List.map_flatten] using c
    · rw [List.getElem?_set_ne (by omega), List.getElem?_set_self l2]
    · simp [-List.length_flatten, -List.map_flatten]; omega
    · intro vs w ew
      have := List.append_inj_left' ew rfl
      rw [this]
    · intro w hw
      rcases List.mem_append.mp hw with hw | hw
      · exact h w hw
      · rw [List.mem_singleton] at hw; rw [hw]; simp [-List.length_flatten, -List.map_flatten]
/-- addLetter, to a word -/
theorem k90 {j s n c : Nat} {vs : List (List Nat)} {w : List Nat} (J : cJw hp j s n (vs ++ [w])) (hc : c < 65536) (H1 : ∀ ws', aE1 (vs ++ [w]) (some c) = some ws' → ∀ hp', cE (wJ j) hp hp' → cG 0 hp hp' → cJw hp' j s n ws' → Q (some (.int 1)) hp') (H0 : aE1 (vs ++ [w]) (some c) = none → Q (some (.int 0)) hp) : mm_R X (d + 1) 90 0 (mm_L0 90 [.ref j, .int (nI c)]) [] hp Q := by
  obtain ⟨lb, junk, ej, a, b, cl, e, f, g, h, i⟩ := id J
  have l0 := (List.getElem?_eq_some_iff.mp a).1
  have l1 := (List.getElem?_eq_some_iff.mp b).1
  have l2 := (List.getElem?_eq_some_iff.mp e).1
  have elen : (vs ++ [w]).length = vs.length + 1 := by simp [-List.length_flatten, -List.map_flatten]
  have efl : (vs ++ [w]).flatten = vs.flatten ++ w := by simp [-List.length_flatten, -List.map_flatten]
  have hvs := flat_le (ws := vs) (fun x hx => h x (List.mem_append_left _ hx))
  have hlb := g vs w rfl
  rw [elen] at a f
  rw [efl] at a b cl
  rw [List.length_append] at a cl
  have hen := aEn_len vs 0
  refine w90_0 ⟨j, _, _, rfl, a, rfl, ?_⟩
  dsimp only
  rw [nI_pred]
  refine pk_lt vs.length 0 (fun g => absurd g (by omega)) (fun _ => pk_le 8 vs.length (fun g => absurd g (by omega)) (fun _ => ⟨j, _, _, rfl, a, rfl, j, _, _, rfl, a, rfl, j + 1, _, _, rfl, b, by decide, rfl, ?_⟩))
  have hbl : ((vs.flatten ++ w).map mI ++ junk).length = 192 := by rw [List.length_append, List.length_map, List.length_append]; omega
  rw [hbl]
  have hw24 := h w (by simp [-List.length_flatten, -List.map_flatten])
  refine pk_lt (vs.flatten.length + w.length) 192 (fun hlt => ⟨j, _, _, rfl, a, rfl, j, _, _, rfl, a, rfl, ?_⟩) (fun hge => H0 ?_)
  · dsimp only
    rw [hlb, pk_sub (by omega), show vs.flatten.length + w.length - vs.flatten.length = w.length by omega]
    refine pk_lt w.length 24 (fun hw => ?_) (fun hw => H0 (by rw [aE1_l, if_neg (by omega)]))
    cases junk with
    | nil => simp [-List.length_flatten, -List.map_flatten] at cl; omega
    | cons v junk =>
      rw [List.length_cons] at cl
      refine ⟨j, _, _, rfl, a, rfl, j, _, _, rfl, a, rfl, j + 1, _, rfl, b, nI_pos' (by omega), by rw [nI_clamp (by omega), hbl]; omega, m_fc (m_cb hc), ?_⟩
      rw [nI_clamp (by omega)]
      have ec : ((vs.flatten ++ w).map mI ++ v :: junk).set (vs.flatten.length + w.length) (.int (nI c)) = (vs.flatten ++ (w ++ [c])).map mI ++ junk := by
        rw [List.set_append_right _ _ (by simp [-List.length_flatten, -List.map_flatten])]
        simp [mI, -List.length_flatten, -List.map_flatten]
      rw [ec]
      have g0 : (hp.set (j + 1) (1001, (vs.flatten ++ (w ++ [c])).map mI ++ junk))[j]? = some (9, [.int (nI s), .int (nI n), .ref (j + 1), .ref (j + 2), .int (nI (vs.length + 1)), .int (nI (vs.flatten.length + w.length)), .int lb]) := by
        rw [List.getElem?_set_ne (by omega)]; exact a
      have l0' : j < (hp.set (j + 1) (1001, (vs.flatten ++ (w ++ [c])).map mI ++ junk)).length := by simpa [-List.length_flatten, -List.map_flatten] using l0
      refine ⟨j, _, _, rfl, g0, rfl, j, _, rfl, g0, Nat.le_of_ble_eq_true rfl, rfl, ?_⟩
      rw [nI_1]
      have e2 : ((hp.set (j + 1) (1001, (vs.flatten ++ (w ++ [c])).map mI ++ junk)).set j (9, [.int (nI s), .int (nI n), .ref (j + 1), .ref (j + 2), .int (nI (vs.length + 1)), .int (nI (vs.flatten.length + w.length + 1)), .int lb]))[j + 2]? = some (1000, (aEn 0 (vs ++ [w])).map mI ++ ej) := by
        rw [List.getElem?_set_ne (by omega), List.getElem?_set_ne (by omega)]; exact e
      refine ⟨j, _, _, rfl, List.getElem?_set_self l0', rfl, j, _, _, rfl, List.getElem?_set_self l0', rfl, j + 2, _, rfl, e2, nI_pos' (by omega), by rw [nI_clamp (by omega), aEn_app]; simp [hen, -List.length_flatten, -List.map_flatten], rfl, ?_⟩
      rw [nI_clamp (by omega)]
      have ec2 : ((aEn 0 (vs ++ [w])).map mI ++ ej).set vs.length (.int (nI (vs.flatten.length + w.length + 1))) = (aEn 0 (vs ++ [w ++ [c]])).map mI ++ ej := by
        rw [aEn_app, aEn_app, List.map_append, List.map_append, List.append_assoc, List.append_assoc, List.set_append_right _ _ (by simp [hen, -List.length_flatten, -List.map_flatten])]
        simp [mI, hen, Nat.add_assoc, -List.length_flatten, -List.map_flatten]
      rw [ec2]
      refine H1 (vs ++ [w ++ [c]]) (by rw [aE1_l, if_pos hw]) _ (((cE.set (Or.inr (Or.inl rfl))).tr (cE.set (Or.inl rfl))).tr (cE.set (Or.inr (Or.inr rfl)))) ⟨by simp, ?_⟩ ⟨lb, junk, ej, ?_, ?_, ?_, ?_, ?_, ?_, ?_, i⟩
      · have z1 := mm_sz_set (c' := (1000, (aEn 0 (vs ++ [w ++ [c]])).map mI ++ ej)) e2 (by simp [aEn_len])
        have z2 := mm_sz_set (c' := ((9 : Nat), [Value.int (nI s), .int (nI n), .ref (j + 1), .ref (j + 2), .int (nI (vs.length + 1)), .int (nI (vs.flatten.length + w.length + 1)), .int lb])) g0 rfl
        have z3 := mm_sz_set (c' := ((1001 : Nat), (vs.flatten ++ (w ++ [c])).map mI ++ junk)) b (by simp only [List.length_append, List.length_map, List.length_cons, List.length_nil]; omega)
        exact Nat.le_of_eq (z1.trans (z2.trans z3))
      · rw [List.getElem?_set_ne (by omega), List.getElem?_set_self l0']
        simp [Nat.add_assoc, -List.length_flatten, -List.map_flatten]
      · rw [List.getElem?_set_ne (by omega), List.getElem?_set_ne (by omega), List.getElem?_set_self l1]
        simp [-List.length_flatten, -List.map_flatten]
      · simp [-List.length_flatten, -List.map_flatten]; omega
      · rw [List.getElem?_set_self (by simpa [-List.length_flatten, -List.map_flatten] using l2)]
      · simp [-List.length_flatten, -List.map_flatten]; omega
      · intro vs' w' ew
        have := List.append_inj_left' ew rfl
        rw [← this]; exact hlb
      · intro x hx
        rcases List.mem_append.mp hx with hx | hx
        · exact h x (List.mem_append_left _ hx)
        · rw [List.mem_singleton] at hx; rw [hx]; simp [-List.length_flatten, -List.map_flatten]; omega
  · have : w.length = 24 := by omega
    rw [aE1_l, if_neg (by omega)]
end CJ
