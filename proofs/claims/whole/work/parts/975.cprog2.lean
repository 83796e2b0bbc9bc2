/-! THE CLASS'S PROGRESS: settle, clear, take, keep -/
theorem aMl_le {lv : List Nat} (h4 : lv.length ≤ 4) (h8 : ∀ n ∈ lv, n ≤ 8) (hp : aPr lv ≤ 16) : aMl lv ≤ 73 := by
  have key : ∀ a, a < 9 → ∀ b, b < 9 → ∀ c, c < 9 → ∀ e, e < 9 → (aPr [a, b, c, e] ≤ 16 → aMl [a, b, c, e] ≤ 73) := by decide +kernel
  have k3 : ∀ a, a < 9 → ∀ b, b < 9 → ∀ c, c < 9 → (aPr [a, b, c] ≤ 16 → aMl [a, b, c] ≤ 73) := by decide +kernel
  have k2 : ∀ a, a < 9 → ∀ b, b < 9 → (aPr [a, b] ≤ 16 → aMl [a, b] ≤ 73) := by decide +kernel
  have k1 : ∀ a, a < 9 → (aPr [a] ≤ 16 → aMl [a] ≤ 73) := by decide +kernel
  match lv, h4, h8, hp with
  | [], _, _, _ => exact Nat.zero_le _
  | [a], _, h8, hp => exact k1 a (by have := h8 a (by simp); omega) hp
  | [a, b], _, h8, hp => exact k2 a (by have := h8 a (by simp); omega) b (by have := h8 b (by simp); omega) hp
  | [a, b, c], _, h8, hp => exact k3 a (by have := h8 a (by simp); omega) b (by have := h8 b (by simp); omega) c (by have := h8 c (by simp); omega) hp
  | [a, b, c, e], _, h8, hp => exact key a (by have := h8 a (by simp); omega) b (by have := h8 b (by simp); omega) c (by have := h8 c (by simp); omega) e (by have := h8 e (by simp); omega) hp
  | a :: b :: c :: e :: f :: l, h4, _, _ => simp at h4
def wR (s x : Nat) : Prop := x = 56 + 5 * s ∨ x = 58 + 5 * s
section CPR
variable {X : List Int32} {d : Nat} {hp : mm_H} {Q : Option Value → mm_H → Prop} {s : Nat} {lv : List Nat} {jc oc nj tk ph : Int32} {out : Value} {rl jl : List Value}
theorem k93 (hs : s < 6) {rs : Nat → mT} (h4 : lv.length ≤ 4) (h16 : ∀ n ∈ lv, n ≤ 16) (hp16 : aPr lv ≤ 16) (hdp : ∀ i, mt_dp (rs i) ≤ 3) (P : cPv hp s lv jc oc nj tk ph out) (R : cRs hp s rl) (RS : ∀ i, i < aPr lv → mt_ok (rs i) ∧ ∃ q : Nat, rl[i]? = some (.ref q) ∧ cS q ∧ cT cS hp (rs i) q) (e0 : hp[60 + 5 * s]? = some (2, [.null, .null, .int 3, .int 0, .int 0, .int 1, .int 2])) (hL : 52 ≤ hp.length)
    (H1 : mt_ok (aNs rs lv 0) → ∀ hp' (q : Nat) tk', cE (fun x => x = 56 + 5 * s) hp hp' → cH (2 * aMl lv) (15 * aMl lv) hp hp' → cPv hp' s lv jc oc nj tk' 2 (.ref q) → cT cS hp' (aNs rs lv 0) q → cS q → Q none hp')
    (H0 : ¬ mt_ok (aNs rs lv 0) → ∀ hp' tk', cE (fun x => x = 56 + 5 * s) hp hp' → cH (2 * aMl lv) (15 * aMl lv) hp hp' → cPv hp' s lv jc oc nj tk' 3 .null → Q none hp') : mm_R X (d + 8) 93 0 (mm_L0 93 [.ref (56 + 5 * s)]) [] hp Q := by
  obtain ⟨P1, E1, G1⟩ := P.put jc oc nj 0 ph out
  obtain ⟨ls, a, b, c, e⟩ := id P
  obtain ⟨ls1, a1, b1, c1, e1⟩ := id P1
  refine w93_0 ⟨_, _, rfl, a, Nat.le_of_ble_eq_true rfl, rfl, ?_⟩
  show mw_rc (.ref (56 + 5 * s)) 94 (hp.set (56 + 5 * s) (5, pvL s lv.length jc oc nj 0 ph out)) ∧ _
  refine ⟨⟨_, _, rfl, a1⟩, ?_⟩
  have l60 := (List.getElem?_eq_some_iff.mp e0).1
  have el : (hp.set (56 + 5 * s) (5, pvL s lv.length jc oc nj 0 ph out)).length = hp.length := List.length_set
  have e2 := E1.at e0 (by omega)
  obtain ⟨m, em⟩ : ∃ m, d + 7 = m + lv.length + 3 := ⟨d + 4 - lv.length, by omega⟩
  rw [em]
  have kT : ∀ {t : mT} {y : Nat}, cT cS hp t y → cT (fun x => cS x ∧ x < hp.length) (hp.set (56 + 5 * s) (5, pvL s lv.length jc oc nj 0 ph out)) t y := fun T => (T.keepT E1 (nV_pv1 P)).mono (fun q hq h => ⟨h, by rw [el] at hq; exact hq⟩)
  refine k94 (S0 := fun x => cS x ∧ x < hp.length) (L := hp.length) (rl := rl) hs (fun x h => h.2) h4 h16 hdp lv [] 0 (hp.set (56 + 5 * s) (5, pvL s lv.length jc oc nj 0 ph out)) _ rfl P1 ⟨E1.at R.1 (by omega), R.2⟩ ?_ (by omega) ⟨Or.inr (by omega), l60⟩ (cT_nil e2) (Nat.le_of_eq el.symm) ?_ ?_
  · intro i _ hi
    obtain ⟨ok, q, g1, g2, g3⟩ := RS i (by omega)
    exact ⟨ok, q, g1, ⟨g2, by obtain ⟨vs, hv⟩ := g3.tag; exact (List.getElem?_eq_some_iff.mp hv).1⟩, kT g3⟩
  · intro ok hp2 q E2 G2 P2 T2 hq
    have cq : cS q := by
      rcases hq with h | h
      · exact h.1
      · rw [el] at h; exact Or.inr (by omega)
    have T2' : cT cS hp2 (aNs rs lv 0) q := T2.mono (fun x hx h => by
      rcases h with h | h
      · exact h.1
      · rw [el] at h; exact Or.inr (by omega))
    obtain ⟨ls2, a2, b2, c2, e2'⟩ := id P2
    obtain ⟨P3, E3, G3⟩ := P2.put jc oc nj (nI (0 + aPr lv)) ph (.ref q)
    obtain ⟨ls3, a3, b3, c3, e3⟩ := id P3
    obtain ⟨P4, E4, G4⟩ := P3.put jc oc nj (nI (0 + aPr lv)) 2 (.ref q)
    refine ⟨_, rfl, _, _, rfl, a2, Nat.le_of_ble_eq_true rfl, rfl, ?_⟩
    show mw_gv 5 11 (.ref (56 + 5 * s)) (hp2.set (56 + 5 * s) (5, pvL s lv.length jc oc nj (nI (0 + aPr lv)) ph (.ref q))) _
    refine ⟨_, _, _, rfl, a3, rfl, Or.inr ⟨⟨_, rfl⟩, _, _, rfl, a3, Nat.le_of_ble_eq_true rfl, rfl, ?_⟩⟩
    exact H1 ok _ q _ (((E1.tr E2).tr E3).tr E4) (((((G1.h).tr G2).tr G3.h).tr G4.h).mono (by omega) (by omega)) P4 ((T2'.keepT E3 (nV_pv1 P2)).keepT E4 (nV_pv1 P3)) cq
  · intro nok hp2 tk2 E2 G2 P2
    obtain ⟨ls2, a2, b2, c2, e2'⟩ := id P2
    obtain ⟨P3, E3, G3⟩ := P2.put jc oc nj tk2 ph .null
    obtain ⟨ls3, a3, b3, c3, e3⟩ := id P3
    obtain ⟨P4, E4, G4⟩ := P3.put jc oc nj tk2 3 .null
    refine ⟨_, rfl, _, _, rfl, a2, Nat.le_of_ble_eq_true rfl, rfl, ?_⟩
    show mw_gv 5 11 (.ref (56 + 5 * s)) (hp2.set (56 + 5 * s) (5, pvL s lv.length jc oc nj tk2 ph .null)) _
    refine ⟨_, _, _, rfl, a3, rfl, Or.inl ⟨rfl, _, _, rfl, a3, Nat.le_of_ble_eq_true rfl, rfl, ?_⟩⟩
    exact H0 nok _ _ (((E1.tr E2).tr E3).tr E4) (((((G1.h).tr G2).tr G3.h).tr G4.h).mono (by omega) (by omega)) P4
theorem k97 {N : Nat} (hN : N ≤ 16) (hjl : jl.length = 16) (hj : ∀ v ∈ jl, mw_nr v) (hr : ∀ v ∈ rl, mw_nr v) : ∀ (m nj : Nat) (hp : mm_H) (o1 : Option Value), nj + m = N → cPv hp s lv (nI N) oc (nI nj) tk ph out → cRs hp s rl → hp[57 + 5 * s]? = some (2009, jl) →
    (∀ n, nj ≤ n → n < N → rl[n]? = some .null → (∀ i, nj ≤ i → i < n → rl[i]? ≠ some .null) → ∀ hp' v, jl[n]? = some v → cE (fun x => x = 56 + 5 * s) hp hp' → cG 0 hp hp' → cPv hp' s lv (nI N) oc (nI (n + 1)) tk ph out → Q (some v) hp') →
    ((∀ i, nj ≤ i → i < N → rl[i]? ≠ some .null) → ∀ hp', cE (fun x => x = 56 + 5 * s) hp hp' → cG 0 hp hp' → cPv hp' s lv (nI N) oc (nI N) tk ph out → Q (some .null) hp') →
    mm_R X (d + 1) 97 0 [some (.ref (56 + 5 * s)), o1] [] hp Q := by
  intro m
  induction m with
  | zero =>
    intro nj hp o1 hm P R J H1 H0
    have : nj = N := by omega
    subst this
    obtain ⟨ls, a, b, c, e⟩ := id P
    exact w97_g ⟨_, _, _, rfl, a, rfl, _, _, _, rfl, a, rfl, ⟨fun _ => H0 (fun i h1 h2 => absurd h1 (by omega)) hp cE.rf cG.rf P, fun g => absurd (Int32.le_refl _) g⟩⟩
  | succ m ih =>
    intro nj hp o1 hm P R J H1 H0
    obtain ⟨ls, a, b, c, e⟩ := id P
    obtain ⟨P1, E1, G1⟩ := P.put (nI N) oc (nI (nj + 1)) tk ph out
    obtain ⟨ls1, a1, b1, c1, e1⟩ := id P1
    have R1 := E1.at R.1 (by omega)
    have J1 := E1.at J (by omega)
    have lr : nj < rl.length := by rw [R.2]; omega
    have lj : nj < jl.length := by rw [hjl]; omega
    have gr : rl[nj]? = some rl[nj] := List.getElem?_eq_getElem lr
    have gj : jl[nj]? = some jl[nj] := List.getElem?_eq_getElem lj
    refine w97_g ⟨_, _, _, rfl, a, rfl, _, _, _, rfl, a, rfl, pk_le N nj (fun g => absurd g (by omega)) (fun _ => ⟨_, _, _, rfl, a, rfl, pk_le 16 nj (fun g => absurd g (by omega)) (fun _ => ⟨_, _, _, rfl, a, rfl, _, _, _, rfl, a, rfl, _, _, rfl, a, Nat.le_of_ble_eq_true rfl, rfl, ?_⟩)⟩)⟩
    dsimp only
    rw [nI_1]
    show mw_gv 5 2 (.ref (56 + 5 * s)) (hp.set (56 + 5 * s) (5, pvL s lv.length (nI N) oc (nI (nj + 1)) tk ph out)) _
    refine ⟨_, _, _, rfl, a1, rfl, _, _, _, rl[nj], rfl, R1, by omega, rfl, nI_pos' (by omega), by rw [nI_clamp (by omega)]; exact gr, ?_⟩
    rcases hr _ (List.getElem_mem lr) with g | ⟨y, g⟩
    · refine Or.inl ⟨g, _, _, _, rfl, a1, rfl, _, _, _, jl[nj], rfl, J1, by omega, rfl, nI_pos' (by omega), by rw [nI_clamp (by omega)]; exact gj, hj _ (List.getElem_mem lj), ?_⟩
      exact H1 nj (Nat.le_refl _) (by omega) (by rw [gr, g]) (fun i h1 h2 => absurd h1 (by omega)) _ _ gj E1 G1 P1
    · refine Or.inr ⟨⟨y, g⟩, ?_⟩
      refine ih (nj + 1) _ _ (by omega) P1 ⟨R1, R.2⟩ J1 ?_ ?_
      · intro n h1 h2 h3 h4 hp' v hv E G P'
        refine H1 n (by omega) h2 h3 (fun i g1 g2 => ?_) hp' v hv (E1.tr E) (G1.tr G) P'
        by_cases ei : i = nj
        · subst ei; rw [gr, g]; intro z; cases z
        · exact h4 i (by omega) g2
      · intro h4 hp' E G P'
        refine H0 (fun i g1 g2 => ?_) hp' (E1.tr E) (G1.tr G) P'
        by_cases ei : i = nj
        · subst ei; rw [gr, g]; intro z; cases z
        · exact h4 i (by omega) g2
theorem cRs.set {hp : mm_H} {v : Value} {n : Nat} (R : cRs hp s rl) : cRs (hp.set (58 + 5 * s) (2002, rl.set n v)) s (rl.set n v) ∧ cE (wR s) hp (hp.set (58 + 5 * s) (2002, rl.set n v)) ∧ cG 0 hp (hp.set (58 + 5 * s) (2002, rl.set n v)) := by
  obtain ⟨a, b⟩ := R
  have l0 := (List.getElem?_eq_some_iff.mp a).1
  refine ⟨⟨List.getElem?_set_self l0, by rw [List.length_set]; exact b⟩, cE.set (Or.inr rfl), ?_, ?_⟩
  · rw [List.length_set]; omega
  · rw [mm_sz_set (c' := (2002, rl.set n v)) a (by simp)]; omega
theorem k108 {n : Nat} {oc' : Nat} {q : Nat} {ws : List Value} (hn : n < 16) (hr : ∀ v ∈ rl, mw_nr v) (P : cPv hp s lv jc oc nj tk ph out) (R : cRs hp s rl) (T : hp[q]? = some (2, ws))
    (H1 : rl[n]? = some .null → ∀ hp', cE (wR s) hp hp' → cG 0 hp hp' → cPv hp' s lv jc (oc - 1) nj tk ph out → cRs hp' s (rl.set n (.ref q)) → Q none hp')
    (H0 : rl[n]? ≠ some .null → Q none hp) : mm_R X (d + 1) 108 0 (mm_L0 108 [.ref (56 + 5 * s), .int (nI n), .ref q]) [] hp Q := by
  obtain ⟨ls, a, b, c, e⟩ := id P
  have lr : n < rl.length := by rw [R.2]; omega
  have gr : rl[n]? = some rl[n] := List.getElem?_eq_getElem lr
  refine w108_0 (pk_lt n 0 (fun g => absurd g (by omega)) (fun _ => pk_le 16 n (fun g => absurd g (by omega)) (fun _ => ⟨_, _, _, rfl, a, rfl, _, _, _, rl[n], rfl, R.1, by omega, rfl, nI_pos' (by omega), by rw [nI_clamp (by omega)]; exact gr, ?_⟩)))
  rcases hr _ (List.getElem_mem lr) with g | ⟨y, g⟩
  · obtain ⟨R1, E1, G1⟩ := R.set (n := n) (v := .ref q)
    have P1 := P.keep (hp' := hp.set (58 + 5 * s) (2002, rl.set n (.ref q))) (W := fun x => x = 58 + 5 * s) (cE.set rfl) (by omega) (by omega)
    obtain ⟨ls1, a1, b1, c1, e1⟩ := id P1
    obtain ⟨P2, E2, G2⟩ := P1.put jc (oc - 1) nj tk ph out
    refine Or.inl ⟨g, _, _, _, rfl, a, rfl, rfl, _, _, _, rfl, R.1, by omega, rfl, nI_pos' (by omega), by rw [nI_clamp (by omega)]; exact lr, Or.inr ⟨q, 2, ws, rfl, T, by omega, rfl⟩, ?_⟩
    rw [nI_clamp (by omega)]
    refine ⟨_, _, _, rfl, a1, rfl, _, _, rfl, a1, Nat.le_of_ble_eq_true rfl, rfl, ?_⟩
    exact H1 (by rw [gr, g]) _ (E1.tr (E2.mono (fun x _ h => Or.inl h))) (G1.tr G2) P2 ⟨E2.at R1.1 (by omega), R1.2⟩
  · exact Or.inr ⟨⟨y, g⟩, H0 (by rw [gr, g]; intro z; cases z)⟩
theorem k58_2 : ∀ (m i : Nat) (hp : mm_H) (rl : List Value), i + m = 16 → cPv hp s lv jc oc nj tk ph out → cRs hp s rl → (∀ k, k < i → rl[k]? = some .null) →
    (∀ hp' rl', cE (wR s) hp hp' → cG 0 hp hp' → cPv hp' s [] 0 0 0 tk 0 .null → cRs hp' s rl' → (∀ k, k < 16 → rl'[k]? = some .null) → Q none hp') →
    mm_R X (d + 1) 58 2 [some (.ref (56 + 5 * s)), some (.int (nI i))] [] hp Q := by
  intro m
  induction m with
  | zero =>
    intro i hp rl hm P R hz H
    have : i = 16 := by omega
    subst this
    obtain ⟨ls, a, b, c, e⟩ := id P
    have l0 := (List.getElem?_eq_some_iff.mp a).1
    refine w58_2 ⟨fun _ => ⟨_, _, rfl, a, Nat.le_of_ble_eq_true rfl, rfl, ?_⟩, fun g => absurd (Int32.le_refl _) g⟩
    refine ⟨_, _, rfl, List.getElem?_set_self l0, Nat.le_of_ble_eq_true rfl, rfl, ?_⟩
    rw [List.set_set]
    refine ⟨_, _, rfl, List.getElem?_set_self l0, Nat.le_of_ble_eq_true rfl, rfl, ?_⟩
    rw [List.set_set]
    refine ⟨_, _, rfl, List.getElem?_set_self l0, Nat.le_of_ble_eq_true rfl, rfl, ?_⟩
    rw [List.set_set]
    refine ⟨_, _, rfl, List.getElem?_set_self l0, Nat.le_of_ble_eq_true rfl, rfl, ?_⟩
    rw [List.set_set]
    refine ⟨_, _, rfl, List.getElem?_set_self l0, Nat.le_of_ble_eq_true rfl, rfl, ?_⟩
    rw [List.set_set]
    have E : cE (fun x => x = 56 + 5 * s) hp (hp.set (56 + 5 * s) (5, pvL s 0 0 0 0 tk 0 .null)) := cE.set rfl
    refine H (hp.set (56 + 5 * s) (5, pvL s 0 0 0 0 tk 0 .null)) rl (E.mono (fun x _ h => Or.inl h)) ⟨by rw [List.length_set]; omega, by rw [mm_sz_set (c' := (5, pvL s 0 0 0 0 tk 0 .null)) a rfl]; omega⟩ ⟨lv.map mI ++ ls, ?_, E.at b (by omega), by rw [List.length_append, List.length_map]; exact (by simpa using c), ?_⟩ ⟨E.at R.1 (by omega), R.2⟩ hz
    · rw [List.getElem?_set_self l0]; rfl
    · intro v hv
      rcases List.mem_append.mp hv with hv | hv
      · obtain ⟨x, _, e'⟩ := List.mem_map.mp hv; exact ⟨_, e'.symm⟩
      · exact e v hv
  | succ m ih =>
    intro i hp rl hm P R hz H
    obtain ⟨ls, a, b, c, e⟩ := id P
    obtain ⟨R1, E1, G1⟩ := R.set (n := i) (v := .null)
    have P1 := P.keep (hp' := hp.set (58 + 5 * s) (2002, rl.set i .null)) (W := fun x => x = 58 + 5 * s) (cE.set rfl) (by omega) (by omega)
    refine w58_2 (pk_le 16 i (fun g => absurd g (by omega)) (fun _ => ⟨_, _, _, rfl, a, rfl, _, _, _, rfl, R.1, by omega, rfl, nI_pos' (by omega), by rw [nI_clamp (by omega), R.2]; omega, Or.inl rfl, ?_⟩))
    rw [nI_clamp (by omega), nI_1]
    refine ih (i + 1) _ _ (by omega) P1 R1 ?_ ?_
    · intro k hk
      by_cases ek : k = i
      · subst ek; rw [List.getElem?_set_self (by rw [R.2]; omega)]
      · rw [List.getElem?_set_ne (fun h => ek h.symm)]; exact hz k (by omega)
    · intro hp' rl' E G P' R' hz'
      exact H hp' rl' (E1.tr E) (G1.tr G) P' R' hz'
theorem k58 (P : cPv hp s lv jc oc nj tk ph out) (R : cRs hp s rl) (H : ∀ hp' rl', cE (wR s) hp hp' → cG 0 hp hp' → cPv hp' s [] 0 0 0 tk 0 .null → cRs hp' s rl' → (∀ k, k < 16 → rl'[k]? = some .null) → Q none hp') : mm_R X (d + 1) 58 0 (mm_L0 58 [.ref (56 + 5 * s)]) [] hp Q :=
  w58_0 (k58_2 16 0 hp rl (by omega) P R (fun k h => absurd h (Nat.not_lt_zero _)) H)
end CPR
