/-! VALUES GATHERED by the class: pick -/
section CP
variable {X : List Int32} {d : Nat} {hp : mm_H} {Q : Option Value → mm_H → Prop}
theorem k68_21 {q r2 pk : Nat} {t : mT} (hL : mt_isL t = true) (hg : mt_gd t) (hq : q ≠ r2) (hr : ¬ cS r2) (h0 : pk ≠ 0) (hpk : pk ≤ 3) : ∀ (ys zs : List mT) (hp : mm_H) (o4 : Option Value), mt_els t = zs ++ ys → cT cS hp t q → cO cS hp r2 (zs.filter aNn) 8 →
    (∀ u, aPk pk t = some u → ∀ hp' q', cE (fun x => x = r2 ∨ x = r2 + 1) hp hp' → cG 0 hp hp' → cLr hp' r2 → cT cS hp' u q' → (cS q' ∨ q' = r2) → Q (some (.ref q')) hp') →
    (aPk pk t = none → ∀ hp', cE (fun x => x = r2 ∨ x = r2 + 1) hp hp' → cG 0 hp hp' → cLr hp' r2 → Q (some .null) hp') →
    mm_R X (d + 2) 68 21 [some (.int (nI pk)), some (.ref q), some (.ref r2), some (.int (nI zs.length)), o4] [] hp Q := by
  obtain ⟨g1, g2, g3⟩ := (mt_gl_list hL).mp hg
  have eP : aPk pk t = if pk = 3 then some (mt_mk ((mt_els t).filter aNn)) else if pk = 2 ∧ ((mt_els t).filter aNn).length ≠ 1 then none else ((mt_els t).filter aNn).head? := by
    unfold aPk; rw [if_neg h0, if_pos hL]
  have hf8 : ∀ zs ys : List mT, mt_els t = zs ++ ys → (zs.filter aNn).length ≤ zs.length ∧ zs.length + ys.length ≤ 8 := fun zs ys e => by
    have := List.length_filter_le aNn zs
    rw [e, List.length_append] at g2
    omega
  intro ys
  induction ys with
  | nil =>
    intro zs hp o4 ez T O H1 H0
    rw [List.append_nil] at ez
    obtain ⟨L, I, n, hc, -⟩ := T.cell
    rw [hL] at hc
    obtain ⟨n0, it0, z1, z2, _⟩ := id O
    have hz := hf8 zs [] (by rw [ez]; simp)
    rw [eP, ez] at H1 H0
    -- the first that is not null
    have first : ¬ pk = 3 → ¬ (pk = 2 ∧ (zs.filter aNn).length ≠ 1) → mw_rc (.ref r2) 67 hp ∧ mm_R X (d + 1) 67 0 (mm_L0 67 [.ref r2, .int (0 : Int32)]) [] hp (mw_rv (fun v6 hp5 => mw_nr v6 ∧ Q (some v6) hp5)) := by
      intro n3 n2
      rw [if_neg n3, if_neg n2] at H1 H0
      have hw : (mt_els (mt_mk (zs.filter aNn))).length ≤ 8 := by rw [mt_els_mk]; omega
      refine ⟨⟨r2, _, rfl, z1⟩, k67 (i := 0) O.t (by decide) hw (fun h q' s' T' => ⟨_, rfl, Or.inr ⟨_, rfl⟩, ?_⟩) (fun h => ⟨_, rfl, Or.inl rfl, ?_⟩)⟩
      · have hlen : 0 < (zs.filter aNn).length := by rw [mt_els_mk] at h; exact h
        have e1 : (mt_els (mt_mk (zs.filter aNn)))[0] = (zs.filter aNn)[0] := List.getElem_of_eq (mt_els_mk _) h
        rw [e1] at T'
        refine H1 (zs.filter aNn)[0] ?_ hp q' cE.rf cG.rf O.lr T' (Or.inl s')
        rw [List.head?_eq_getElem?, List.getElem?_eq_getElem hlen]
      · have hlen : (zs.filter aNn).length = 0 := by rw [mt_els_mk] at h; omega
        refine H0 ?_ hp cE.rf cG.rf O.lr
        rw [List.length_eq_zero_iff.mp hlen]; rfl
    refine w68_21 ⟨rfl, q, _, _, rfl, hc, rfl, pk_le (mt_els t).length zs.length (fun _ => ?_) (fun g => absurd g (by rw [ez]; omega))⟩
    refine pk_ne pk 3 (fun e3 => ?_) (fun e3 => pk_ne pk 2 (fun e2 => ⟨rfl, r2, _, _, rfl, z1, rfl, pk_eq (zs.filter aNn).length 1 (fun e1 => first e3 (fun g => g.2 e1)) (fun e1 => ?_)⟩) (fun e2 => ⟨rfl, first e3 (fun g => e2 g.1)⟩))
    · rw [if_pos e3] at H1
      exact ⟨rfl, Or.inr ⟨_, rfl⟩, H1 _ rfl hp r2 cE.rf cG.rf O.lr O.t (Or.inr rfl)⟩
    · rw [if_neg e3, if_pos ⟨e2, e1⟩] at H0
      exact H0 rfl hp cE.rf cG.rf O.lr
  | cons y ys ih =>
    intro zs hp o4 ez T O H1 H0
    obtain ⟨L, I, n, hc, -⟩ := T.cell
    rw [hL] at hc
    obtain ⟨n0, it0, z1, z2, _⟩ := id O
    have hz := hf8 zs (y :: ys) ez
    rw [List.length_cons] at hz
    have el : (mt_els t).length = zs.length + (ys.length + 1) := by rw [ez]; simp
    have hym : y ∈ mt_els t := by rw [ez]; simp
    have hey : (mt_els t)[zs.length]'(by omega) = y := by simp [ez]
    have hyd := mt_gd_el hg hym
    refine w68_21 ⟨rfl, q, _, _, rfl, hc, rfl, pk_le (mt_els t).length zs.length (fun g => absurd g (by omega)) (fun _ => ⟨⟨q, _, rfl, hc⟩, k67 T (by omega) g2 (fun h q' s' T' => ⟨_, rfl, rfl, Or.inr ⟨⟨_, rfl⟩, ?_⟩⟩) (fun h => absurd h (by omega))⟩)⟩
    rw [hey] at T'
    obtain ⟨vy, hvy⟩ := T'.tag
    have ezz : mt_els t = (zs ++ [y]) ++ ys := by rw [ez]; simp
    refine ⟨⟨q', _, rfl, hvy⟩, k69 T' ⟨_, rfl, ?_⟩⟩
    by_cases hk : mt_k y = 0
    · rw [if_pos hk]
      refine ⟨fun _ => ?_, fun g => absurd g (by decide)⟩
      have ef : (zs ++ [y]).filter aNn = zs.filter aNn := by
        rw [List.filter_append]
        have : [y].filter aNn = [] := by simp [aNn, hk]
        rw [this, List.append_nil]
      have := ih (zs ++ [y]) hp (some (.ref q')) ezz T (by rw [ef]; exact O) H1 H0
      rw [List.length_append] at this
      rw [nI_1]; exact this
    · rw [if_neg hk]
      refine ⟨fun g => absurd rfl g, fun _ => ⟨rfl, ⟨r2, _, rfl, z1⟩, k32 O T' s' hr (by omega) ?_ (fun a1 a2 hp1 E1 G1 O1 => ⟨_, rfl, fun _ => ?_, fun g => absurd g (by decide)⟩) (fun hno _ => absurd ⟨by omega, hyd.2⟩ hno)⟩⟩
      · have : mt_dp (mt_mk (zs.filter aNn)) ≤ 4 := mt_dp_mk3 (fun x hx => by
          have hx' := (List.mem_filter.mp hx).1
          have := (mt_gd_el hg (show x ∈ mt_els t by rw [ez]; exact List.mem_append_left _ hx')).2
          omega)
        omega
      · have ef : (zs ++ [y]).filter aNn = zs.filter aNn ++ [y] := by
          rw [List.filter_append]
          have : [y].filter aNn = [y] := by simp [aNn, hk]
          rw [this]
        have T1 : cT cS hp1 t q := T.keepr E1 z1 (fun u cs e => by rw [z2] at e; cases e; decide) hr hq
        have := ih (zs ++ [y]) hp1 (some (.ref q')) ezz T1 (by rw [ef]; exact O1) (fun u hu hp2 q2 E2 G2 L2 T2 z => H1 u hu hp2 q2 (E1.tr E2) (G1.tr G2) L2 T2 z) (fun hn hp2 E2 G2 L2 => H0 hn hp2 (E1.tr E2) (G1.tr G2) L2)
        rw [List.length_append] at this
        rw [nI_1]; exact this
/-- pick -/
theorem k68 {q r2 pk : Nat} {t : mT} (hg : mt_gd t) (hq : q ≠ r2) (hr : ¬ cS r2) (hpk : pk ≤ 3) (T : cT cS hp t q) (L : cLr hp r2)
    (H1 : ∀ u, aPk pk t = some u → ∀ hp' q', cE (fun x => x = r2 ∨ x = r2 + 1) hp hp' → cG 0 hp hp' → cLr hp' r2 → cT cS hp' u q' → (cS q' ∨ q' = r2 ∨ q' = q) → Q (some (.ref q')) hp')
    (H0 : aPk pk t = none → ∀ hp', cE (fun x => x = r2 ∨ x = r2 + 1) hp hp' → cG 0 hp hp' → cLr hp' r2 → Q (some .null) hp') : mm_R X (d + 2) 68 0 (mm_L0 68 [.int (nI pk), .ref q, .ref r2]) [] hp Q := by
  obtain ⟨vq, hvq⟩ := T.tag
  obtain ⟨x2, x3, x4, x5, x6, items, l1, l2, l3⟩ := id L
  refine w68_0 (pk_ne pk 0 (fun e0 => ?_) (fun e0 => ⟨rfl, ⟨q, _, rfl, hvq⟩, k65 T ⟨_, rfl, ?_⟩⟩))
  · have : aPk pk t = some t := by unfold aPk; rw [if_pos e0]
    exact ⟨rfl, Or.inr ⟨_, rfl⟩, H1 t this hp q cE.rf cG.rf L T (Or.inr (Or.inr rfl))⟩
  · by_cases hL : mt_isL t = true
    · rw [if_pos hL]
      refine ⟨fun _ => ⟨rfl, ⟨r2, _, rfl, l1⟩, k10r L (fun hp1 E1 G1 O1 => ⟨rfl, ?_⟩)⟩, fun g => absurd g (by decide)⟩
      have T1 : cT cS hp1 t q := T.keepr E1 l1 (fun u cs e => by rw [l2] at e; cases e; decide) hr hq
      refine k68_21 hL hg hq hr e0 hpk (mt_els t) [] hp1 none rfl T1 O1 (fun u hu hp2 q2 E2 G2 L2 T2 z => H1 u hu hp2 q2 (E1.tr E2) (G1.tr G2) L2 T2 (by rcases z with z | z; exact Or.inl z; exact Or.inr (Or.inl z))) (fun hn hp2 E2 G2 L2 => H0 hn hp2 (E1.tr E2) (G1.tr G2) L2)
    · rw [if_neg hL]
      refine ⟨fun g => absurd rfl g, fun _ => H0 ?_ hp cE.rf cG.rf L⟩
      unfold aPk; rw [if_neg e0, if_neg hL]
end CP
/-- the expander's cells -/
def cEx (hp : mm_H) : Prop := hp[13]? = some (4, [.ref 14, .ref 16, .ref 18, .ref 19, .ref 20, .ref 21, .ref 23, .ref 25, .ref 26, .ref 27]) ∧ hp[18]? = some (2002, [.ref 28, .ref 34, .ref 40, .ref 46]) ∧ hp[19]? = some (2002, [.ref 30, .ref 36, .ref 42, .ref 48]) ∧ hp[20]? = some (2002, [.ref 32, .ref 38, .ref 44, .ref 50]) ∧ cSc hp none 14 ∧ cSc hp (some (.inr [])) 16 ∧ cRm hp 21 ∧ cRm hp 23 ∧ (∀ p, p < 4 → cRm hp (32 + 6 * p) ∧ cLr hp (28 + 6 * p) ∧ cLr hp (30 + 6 * p)) ∧ (∃ q : Nat → Nat, hp[25]? = some (2002, row4 (fun i => .ref (q i)))) ∧ (∃ q : Nat → Nat, hp[26]? = some (2002, row4 (fun i => .ref (q i)))) ∧ ∃ q : Nat → Nat, hp[27]? = some (2002, row4 (fun i => .ref (q i)))
/-- the values that ports get, and those a rule may make -/
def zW (q : Nat) : Prop := q ≠ 21 ∧ q ≠ 23 ∧ q ≠ 32 ∧ q ≠ 38 ∧ q ≠ 44 ∧ q ≠ 50
def zA (q : Nat) : Prop := q ≠ 21 ∧ q ≠ 23
theorem cS_zW {q : Nat} (h : cS q) : zW q := by unfold cS at h; unfold zW; omega
theorem cS_zA {q : Nat} (h : cS q) : zA q := by unfold cS at h; unfold zA; omega
/-- a tool's cells: kind, ports (place, prefix, style), their order -/
abbrev mTo : Type := Nat × List (Int32 × Nat × Nat)
