/-! THE CLASS'S RESULTS -/
theorem aJs_pre (vs us : List (List Nat)) (w : List Nat) : ∃ tl, aJs (vs ++ w :: us) = aJs (vs ++ [w]) ++ tl := by
  induction us generalizing vs w with
  | nil => exact ⟨[], by simp⟩
  | cons u us ih =>
    obtain ⟨tl, e⟩ := ih (vs ++ [w]) u
    refine ⟨32 :: u ++ tl, ?_⟩
    have e1 : vs ++ w :: u :: us = (vs ++ [w]) ++ u :: us := by simp
    rw [e1, e, aJs_snoc (vs ++ [w]) u]
    simp
section CR2
variable {X : List Int32} {d : Nat} {hp : mm_H} {Q : Option Value → mm_H → Prop}
theorem k102_8 {j s n r : Nat} {ws : List (List Nat)} (hw : aWok ws) : ∀ (us vs : List (List Nat)) (hp : mm_H) (junk : List Value), ws = vs ++ us → cJw hp j s n ws → cTx hp r (aJs vs) junk → (aJs vs).length + junk.length = 24 → (∀ c ∈ aJs vs, mt_lt c) →
    (∀ t, rX (aJs ws) = some t → ∀ hp', cE (fun y => y = r ∨ y = r + 1) hp hp' → cG 0 hp hp' → cT cS hp' t r → Q (some (.ref r)) hp') →
    (rX (aJs ws) = none → ∀ hp', cE (fun y => y = r ∨ y = r + 1) hp hp' → cG 0 hp hp' → Q (some .null) hp') →
    mm_R X (d + 4) 102 8 [some (.ref j), some (.ref r), some (.int (nI vs.length))] [] hp Q := by
  intro us
  induction us with
  | nil =>
    intro vs hp junk ew J T hroom hlt H1 H0
    rw [List.append_nil] at ew
    subst ew
    obtain ⟨lb, jk, ej, a, _⟩ := id J
    have h8 := hw.1
    refine w102_8 ⟨j, _, _, rfl, a, rfl, ⟨fun _ => ⟨rfl, Or.inr ⟨_, rfl⟩, H1 _ ?_ hp cE.rf cG.rf T.t⟩, fun g => absurd (Int32.le_refl _) g⟩⟩
    unfold rX
    rw [if_pos ⟨by omega, hlt⟩]
  | cons w us ih =>
    intro vs hp junk ew J T hroom hlt H1 H0
    obtain ⟨lb, jk, ej, a, _⟩ := id J
    have h8 := hw.1
    have hwl : ws.length = vs.length + (us.length + 1) := by rw [ew]; simp
    have hwc : ∀ c ∈ w, c < 65536 := fun c hc => by have := (hw.2 w (by rw [ew]; simp)).2 c hc; omega
    obtain ⟨tl, etl⟩ := aJs_pre vs us w
    rw [← ew] at etl
    -- a word, behind what stands
    have word : ∀ (hp1 : mm_H) (x : List Nat) (junk1 : List Value), cE (fun y => y = r ∨ y = r + 1) hp hp1 → cG 0 hp hp1 → cJw hp1 j s n ws → cTx hp1 r x junk1 → x.length + junk1.length = 24 → (∀ c ∈ x, mt_lt c) → aJs (vs ++ [w]) = x ++ w → mw_rc (.ref j) 103 hp1 ∧ mm_R X (d + 3) 103 0 (mm_L0 103 [.ref j, .ref r, .int (nI vs.length)]) [] hp1 (mw_ri (fun x6 hp5 => ((¬ x6 = (0 : Int32) → mm_R X (d + 3 + 1) 102 8 [some (.ref j), some (.ref r), some (.int (nI vs.length + (1 : Int32)))] [] hp5 Q) ∧ (x6 = (0 : Int32) → Q (some .null) hp5)))) := by
      intro hp1 x junk1 E1 G1 J1 T1 r1 hx ex
      have J1' : cJw hp1 j s n (vs ++ w :: us) := by rw [← ew]; exact J1
      refine ⟨J1.rc rfl, k103 (R := 24) (by omega) (by rw [← ew]; exact h8) hwc J1' T1 r1 (fun a1 a2 hp2 junk2 E2 G2 T2 r2 => ⟨_, rfl, fun _ => ?_, fun g => absurd g (by decide)⟩) (fun hno hp2 E2 G2 => ⟨_, rfl, fun g => absurd rfl g, fun _ => H0 ?_ hp2 (E1.tr E2) (G1.tr G2)⟩)⟩
      · obtain ⟨⟨d1, d2⟩, ⟨d3, d4⟩, ⟨d5, d6⟩⟩ := T1.disJ J1
        have := ih (vs ++ [w]) hp2 junk2 (by rw [ew]; simp) (J1.keep E2 (by omega) (by omega) (by omega)) (by rw [ex]; exact T2) (by rw [ex, List.length_append]; omega) ?_ (fun t ht hp3 E3 G3 T3 => H1 t ht hp3 ((E1.tr E2).tr E3) ((G1.tr G2).tr G3) T3) (fun hn hp3 E3 G3 => H0 hn hp3 ((E1.tr E2).tr E3) ((G1.tr G2).tr G3))
        · rw [List.length_append] at this
          rw [nI_1]; exact this
        · rw [ex]
          intro c hc
          rcases List.mem_append.mp hc with g | g
          · exact hx c g
          · exact a2 c g
      · unfold rX
        rw [if_neg]
        rintro ⟨b1, b2⟩
        rw [etl, ex, List.length_append, List.length_append] at b1
        exact hno ⟨by omega, fun c hc => b2 c (by rw [etl, ex]; exact List.mem_append_left _ (List.mem_append_right _ hc))⟩
    refine w102_8 ⟨j, _, _, rfl, a, rfl, pk_le ws.length vs.length (fun g => absurd g (by omega)) (fun _ => pk_le vs.length 0 (fun h0 => ⟨rfl, ?_⟩) (fun h0 => ⟨rfl, ?_⟩))⟩
    · have hv : vs = [] := List.length_eq_zero_iff.mp (by omega)
      exact word hp (aJs vs) junk cE.rf cG.rf J T hroom hlt (by rw [aJs_snoc, if_pos hv]; rfl)
    · have hv : vs ≠ [] := fun g => by rw [g] at h0; simp at h0
      obtain ⟨nt, t1, t2, _⟩ := id T
      have ex : aJs (vs ++ [w]) = (aJs vs ++ [32]) ++ w := by rw [aJs_snoc, if_neg hv]; simp
      refine ⟨⟨r, _, rfl, t1⟩, k34c (c := 32) T hroom (by omega) (by decide) (fun h1 h2 hp1 junk1 E1 G1 T1 r1 => ⟨_, rfl, fun _ => ?_, fun g => absurd g (by decide)⟩) (fun hno => ⟨_, rfl, fun g => absurd rfl g, fun _ => H0 ?_ hp cE.rf cG.rf⟩)⟩
      · obtain ⟨⟨d1, d2⟩, ⟨d3, d4⟩, ⟨d5, d6⟩⟩ := T.disJ J
        refine word hp1 (aJs vs ++ [32]) junk1 E1 G1 (J.keep E1 (by omega) (by omega) (by omega)) T1 (by simp; omega) ?_ ex
        intro c hc
        rcases List.mem_append.mp hc with g | g
        · exact hlt c g
        · rw [List.mem_singleton] at g; rw [g]; exact h2
      · unfold rX
        rw [if_neg]
        rintro ⟨b1, _⟩
        rw [etl, ex, List.length_append, List.length_append, List.length_append] at b1
        simp only [List.length_cons, List.length_nil] at b1
        exact hno ⟨by omega, ⟨by omega, by omega, by omega, by omega⟩⟩
theorem k106_4 {j s n : Nat} {ws : List (List Nat)} (hw : aWok ws) : ∀ (us vs : List (List Nat)) (z : Int32) (o3 : Option Value), ws = vs ++ us → cJw hp j s n ws →
    (∀ t, (aSm us z).bind aNu = some t → ∀ hp' q, cE (fun _ => False) hp hp' → cG 2 hp hp' → q = hp.length → cT cS hp' t q → Q (some (.ref q)) hp') →
    ((aSm us z).bind aNu = none → ∀ hp', cE (fun _ => False) hp hp' → cG 2 hp hp' → Q (some .null) hp') →
    mm_R X (d + 4) 106 4 [some (.ref j), some (.int z), some (.int (nI vs.length)), o3] [] hp Q := by
  have h8 := hw.1
  intro us
  induction us with
  | nil =>
    intro vs z o3 ew J H1 H0
    rw [List.append_nil] at ew
    subst ew
    obtain ⟨lb, jk, ej, a, _⟩ := id J
    refine w106_4 ⟨j, _, _, rfl, a, rfl, ⟨fun _ => k39 (fun n1 n2 q hp1 hq E1 G1 L1 T1 => ⟨_, rfl, Or.inr ⟨_, rfl⟩, H1 (.leaf (some (.inl z))) ?_ hp1 q E1 G1 hq T1⟩) (fun hno hp1 E1 G1 => ⟨_, rfl, Or.inl rfl, H0 ?_ hp1 E1 G1⟩), fun g => absurd (Int32.le_refl _) g⟩⟩
    · show aNu z = _
      unfold aNu; rw [if_pos ⟨n1, n2⟩]
    · show aNu z = _
      unfold aNu; rw [if_neg hno]
  | cons w us ih =>
    intro vs z o3 ew J H1 H0
    obtain ⟨lb, jk, ej, a, bb, c, e, f, _⟩ := id J
    have hwl : ws.length = vs.length + (us.length + 1) := by rw [ew]; simp
    have hwc : ∀ c ∈ w, c < 65536 := fun c hc => by have := (hw.2 w (by rw [ew]; simp)).2 c hc; omega
    have J' : cJw hp j s n (vs ++ w :: us) := by rw [← ew]; exact J
    have hfl : ws.flatten.length = vs.flatten.length + (w.length + us.flatten.length) := by rw [ew]; simp only [List.flatten_append, List.flatten_cons, List.length_append]
    have hcn : (ws.flatten.map mI ++ jk).length = 192 := by rw [List.length_append, List.length_map]; exact c
    have hlet : ∀ i (h : i < w.length), (ws.flatten.map mI ++ jk)[vs.flatten.length + i]? = some (mI w[i]) := fun i hil => by
      rw [List.getElem?_append_left (by rw [List.length_map]; omega), List.getElem?_map, ew, List.flatten_append, List.flatten_cons, List.getElem?_append_right (by omega), show vs.flatten.length + i - vs.flatten.length = i by omega, List.getElem?_append_left hil, List.getElem?_eq_getElem hil]; rfl
    have eS : aSm (w :: us) z = (mt_pn w).bind (fun n => aSm us (z + n)) := rfl
    rw [eS] at H1 H0
    refine w106_4 ⟨j, _, _, rfl, a, rfl, pk_le ws.length vs.length (fun g => absurd g (by omega)) (fun _ => ⟨j, _, _, rfl, a, rfl, J.rc rfl, rfl, k105 J' (by rw [← ew]; exact h8) ⟨_, rfl, J.rc rfl, k104 J' (by rw [← ew]; exact h8) ⟨_, rfl, ?_⟩⟩⟩)⟩
    refine k38 bb (by omega) rfl (by omega) hlet hwc ⟨_, rfl, ?_⟩
    cases hp' : mt_pn w with
    | none =>
      rw [hp'] at H0
      exact ⟨fun g => absurd rfl g, fun _ => H0 rfl hp cE.rf (cG.rf.mono (by omega))⟩
    | some m =>
      rw [hp'] at H1 H0
      have rg : -999999 ≤ m := by
        cases w with
        | nil => cases hp'
        | cons c0 es =>
          rw [mt_pn] at hp'
          split at hp'
          · exact (mt_pu_rg hp').1
          · exact (mt_pu_rg hp').1
      refine ⟨fun _ => ?_, fun g => ?_⟩
      · have := ih (vs ++ [w]) (z + m) (some (.int m)) (by rw [ew]; simp) J H1 H0
        rw [List.length_append] at this
        rw [nI_1]; exact this
      · have g' : m = -1000000 := g
        rw [g'] at rg
        exact absurd rg (by decide)
/-- an empty list without room -/
theorem k9z (H : ∀ q, q = hp.length → Q (some (.ref q)) (hp ++ [(2, [.null, .null, .int 3, .int 0, .int 0, .int 1, .int 2])])) : mm_R X (d + 2) 9 0 (mm_L0 9 [.int 0]) [] hp Q := by
  have g0 : ∀ c : mm_C, (hp ++ [c])[hp.length]? = some c := fun c => by simp
  have s0 : ∀ c c' : mm_C, (hp ++ [c]).set hp.length c' = hp ++ [c'] := fun c c' => by
    rw [List.set_append_right _ _ (Nat.le_refl _), Nat.sub_self]; rfl
  refine w9_0 ?_
  rintro q hp2 rfl rfl
  refine w3_0 ⟨fun _ => ⟨hp.length, _, rfl, g0 _, Nat.le_of_ble_eq_true rfl, rfl, ⟨fun _ => ?_, fun g => absurd (by decide) g⟩⟩, fun g => absurd (by decide) g⟩
  rw [s0]
  refine ⟨hp.length, _, rfl, g0 _, Nat.le_of_ble_eq_true rfl, rfl, ?_⟩
  rw [s0]
  refine ⟨rfl, ⟨hp.length, _, rfl, g0 _⟩, k10 (g0 _) ⟨rfl, ?_⟩⟩
  rw [s0]
  exact H _ rfl
end CR2
