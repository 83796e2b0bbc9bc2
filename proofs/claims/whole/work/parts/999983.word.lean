/-! READERS: word, state, output -/
section RDW
variable {X : List Int32} {t d : Nat} {hp : mm_H} {Q : Option Value → mm_H → Prop}
theorem k114 {j s n : Nat} {ws : List (List Nat)} {y2 y3 : Int32} (J : cJw hp j s n ws) (h8 : ws.length ≤ 8)
    (H1 : ∀ a b : Nat, ∀ ha : a < ws.length, ∀ hb : b < ws[a].length, y2 = nI a → y3 = nI b → Q (some (.int (nI ws[a][b]))) hp)
    (H0 : ((∀ a : Nat, a < ws.length → y2 ≠ nI a) ∨ ∃ a : Nat, ∃ ha : a < ws.length, y2 = nI a ∧ ∀ b : Nat, b < ws[a].length → y3 ≠ nI b) → Q (some (.int (-1))) hp) : mm_R X (d + 2) 114 0 (mm_L0 114 [.ref j, .int y2, .int y3]) [] hp Q := by
  have h24 := J.w24
  obtain ⟨lb, jk, ej, a0, a1, a2, a3, a4, _⟩ := id J
  rcases nI_arg y2 (L := ws.length) (by omega) with ⟨a, rfl, ha⟩ | ⟨h, hno⟩
  · have ew : ws = ws.take a ++ ws[a] :: ws.drop (a + 1) := by rw [← List.drop_eq_getElem_cons ha, List.take_append_drop]
    have hta : (ws.take a).length = a := by rw [List.length_take]; omega
    have hw := h24 _ (List.getElem_mem ha)
    have hfl : (ws.take a).flatten.length + ws[a].length ≤ ws.flatten.length := by
      conv => rhs; rw [ew]
      rw [List.flatten_append, List.flatten_cons, List.length_append, List.length_append]; omega
    refine w114_0 ⟨fun g => absurd g (nI_pos (by omega)), fun _ => ⟨_, _, _, rfl, a0, rfl, pk_le ws.length a (fun g => absurd g (by omega)) (fun _ => ?_)⟩⟩
    rcases nI_arg y3 (L := ws[a].length) (by omega) with ⟨b, rfl, hb⟩ | ⟨h, hno⟩
    · have hJ : cJw hp j s n (ws.take a ++ ws[a] :: ws.drop (a + 1)) := by rw [← ew]; exact J
      have hl : (ws.take a ++ ws[a] :: ws.drop (a + 1)).length ≤ 8 := by rw [← ew]; exact h8
      refine ⟨fun g => absurd g (nI_pos (by omega)), fun _ => ⟨J.rc rfl, ?_⟩⟩
      have q4 := k104 (X := X) (d := d) (Q := mw_ri (fun x4 hp3 => mw_rc (.ref j) 105 hp3 ∧ mm_R X (d + 1) 105 0 (mm_L0 105 [(.ref j), .int (nI a)]) [] hp3 (mw_ri (fun x7 hp6 => ((nI b < (x4 - x7) → mw_rc (.ref j) 105 hp6 ∧ mm_R X (d + 1) 105 0 (mm_L0 105 [(.ref j), .int (nI a)]) [] hp6 (mw_ri (fun x10 hp9 => (((x10 + nI b) < (0 : Int32) → Q (some (.int (-1))) hp9) ∧ (¬ (x10 + nI b) < (0 : Int32) → mw_gv 9 2 (.ref j) hp9 (fun v11 => mw_ln v11 hp9 (fun x12 => (((x10 + nI b) < x12 → mw_gv 9 2 (.ref j) hp9 (fun v13 => mw_ai 1001 v13 (x10 + nI b) hp9 (fun x14 => Q (some (.int x14)) hp9))) ∧ (¬ (x10 + nI b) < x12 → Q (some (.int (-1))) hp9))))))))) ∧ (¬ nI b < (x4 - x7) → Q (some (.int (-1))) hp6)))))) hJ hl
      have q5 : ∀ Q' : Option Value → mm_H → Prop, Q' (some (.int (nI (ws.take a).flatten.length))) hp → mm_R X (d + 1) 105 0 (mm_L0 105 [(.ref j), .int (nI a)]) [] hp Q' := fun Q' H => by
        have := k105 (X := X) (d := d) (Q := Q') (vs := ws.take a) (us := ws[a] :: ws.drop (a + 1)) hJ hl H
        rw [hta] at this; exact this
      rw [hta] at q4
      refine q4 ⟨_, rfl, J.rc rfl, q5 _ ⟨_, rfl, ?_⟩⟩
      dsimp only
      rw [pk_sub (by omega), Nat.add_sub_cancel_left]
      refine pk_lt b ws[a].length (fun _ => ⟨J.rc rfl, q5 _ ⟨_, rfl, ?_⟩⟩) (fun g => absurd g (by omega))
      dsimp only
      rw [nI_add]
      refine ⟨fun g => absurd g (nI_pos (by omega)), fun _ => ⟨_, _, _, rfl, a0, rfl, _, _, _, rfl, a1, by decide, rfl, ?_⟩⟩
      rw [List.length_append, List.length_map]
      refine pk_lt _ _ (fun _ => ⟨_, _, _, rfl, a0, rfl, ?_⟩) (fun g => absurd g (by omega)) rfl rfl (by omega) (by omega)
      refine ⟨_, _, nI ws[a][b], rfl, a1, nI_pos' (by omega), ?_, H1 a b ha hb rfl rfl⟩
      rw [nI_clamp (by omega), List.getElem?_append_left (by rw [List.length_map]; omega), List.getElem?_map]
      have : (ws.take a ++ ws[a] :: ws.drop (a + 1)).flatten[(ws.take a).flatten.length + b]? = some ws[a][b] := by
        rw [List.flatten_append, List.getElem?_append_right (by omega), Nat.add_sub_cancel_left, List.flatten_cons, List.getElem?_append_left hb, List.getElem?_eq_getElem hb]
      rw [← ew] at this
      rw [this]; rfl
    · have z := H0 (Or.inr ⟨a, ha, rfl, hno⟩)
      refine ⟨fun _ => z, fun g => ⟨J.rc rfl, ?_⟩⟩
      have h' := h.resolve_left g
      have hJ : cJw hp j s n (ws.take a ++ ws[a] :: ws.drop (a + 1)) := by rw [← ew]; exact J
      have hl : (ws.take a ++ ws[a] :: ws.drop (a + 1)).length ≤ 8 := by rw [← ew]; exact h8
      have q5 : ∀ Q' : Option Value → mm_H → Prop, Q' (some (.int (nI (ws.take a).flatten.length))) hp → mm_R X (d + 1) 105 0 (mm_L0 105 [(.ref j), .int (nI a)]) [] hp Q' := fun Q' H => by
        have := k105 (X := X) (d := d) (Q := Q') (vs := ws.take a) (us := ws[a] :: ws.drop (a + 1)) hJ hl H
        rw [hta] at this; exact this
      have q4 : ∀ Q' : Option Value → mm_H → Prop, Q' (some (.int (nI ((ws.take a).flatten.length + ws[a].length)))) hp → mm_R X (d + 1) 104 0 (mm_L0 104 [(.ref j), .int (nI a)]) [] hp Q' := fun Q' H => by
        have := k104 (X := X) (d := d) (Q := Q') (vs := ws.take a) (w := ws[a]) (us := ws.drop (a + 1)) hJ hl H
        rw [hta] at this; exact this
      refine q4 _ ⟨_, rfl, J.rc rfl, q5 _ ⟨_, rfl, ?_⟩⟩
      dsimp only
      rw [pk_sub (by omega), Nat.add_sub_cancel_left]
      exact ⟨fun g2 => absurd h' (Int32.not_le.mpr g2), fun _ => z⟩
  · have z := H0 (Or.inl hno)
    exact w114_0 ⟨fun _ => z, fun g => ⟨_, _, _, rfl, a0, rfl, fun _ => z, fun g2 => absurd (h.resolve_left g) g2⟩⟩
theorem ob_word {y1 y2 y3 : Int32} (I : IV X t hp) : mL_ob X (IV X) t hp 113 206 [.int y1, .int y2, .int y3] := ob_ro rfl I (fun D x E tr sr R JL σ hC hS hA => by
  have hL := hA.len
  have c5 : σ.1 27 = nI (nAc R).length := hS.2.2.2.1.1.2.2.2.2.1
  have rn := hC.2.2.2.2.1
  obtain ⟨⟨s1, i1, r12, _⟩, _⟩ := id rn
  rcases nI_arg y1 (L := (nAc R).length) (by omega) with ⟨n, rfl, hn⟩ | ⟨h, hno⟩
  · obtain ⟨e1, hR⟩ := hA.act hn
    have hs := hS.2.2.2.2 e1
    obtain ⟨q1, q2⟩ := hs.2.2.2.1 n hn
    obtain ⟨z1, z2, z3, ⟨ws, z4, z5⟩, _⟩ := hR.2.2.2.1 (nAc R)[n].1 (nAc R)[n].2 (List.getElem_mem hn)
    obtain ⟨h8, U1, U2⟩ := q2 ws z4
    have hk6 : (nAc R)[n].1 < 6 := by have := hR.1; have := hA.1.2.2.1; omega
    have cls : ∀ y : Int32, (∀ j, cJw hp j (nAc R)[n].1 (nAc R)[n].2 ws → ∀ Q : Option Value → mm_H → Prop, Q (some (.int y)) hp → mm_R X 998 114 0 (mm_L0 114 [.ref j, .int y2, .int y3]) [] hp Q) → ∀ Q : Option Value → mm_H → Prop, Q (some (.int y)) hp → mm_R X 999 113 0 (mm_L0 113 [.ref 0, .int (nI n), .int y2, .int y3]) [] hp Q := fun y hy Q H => w113_0 ⟨_, _, _, rfl, hC.1, rfl, ⟨_, _, rfl, r12⟩, k100 rn (fun m e hm s p j ws' a b c dd => by
        have := (nI_eq (by omega) (by omega)).mp e
        subst this
        rw [List.getElem?_eq_getElem hn] at a
        have a' := Option.some.inj a
        rw [a'] at z4 hy
        have : ws' = ws := Option.some.inj (b.symm.trans z4)
        subst this
        exact ⟨_, rfl, rfl, Or.inr ⟨⟨_, rfl⟩, c.rc rfl, hy j c _ ⟨_, rfl, H⟩⟩⟩) (fun hno => absurd rfl (hno n hn))⟩
    have ref : ∀ Q : Option Value → mS → Prop, ((y2 < 0 → Q (some (.int (-1))) σ) ∧ (¬ y2 < 0 → ((nI ws.length ≤ y2 → Q (some (.int (-1))) σ) ∧ (¬ nI ws.length ≤ y2 → ((y3 < 0 → Q (some (.int (-1))) σ) ∧ (¬ y3 < 0 → (0 ≤ nI (8 * (16 * (nAc R)[n].1 + (nAc R)[n].2)) + y2 ∧ Int32.toNatClampNeg (nI (8 * (16 * (nAc R)[n].1 + (nAc R)[n].2)) + y2) < 768) ∧ ((y3 < mGet σ 110 (nI (8 * (16 * (nAc R)[n].1 + (nAc R)[n].2)) + y2) → mM X 998 154 0 (mm_L0 154 [(.ref 86), .int (nI (600 + 192 * (16 * (nAc R)[n].1 + (nAc R)[n].2)) + 24 * y2 + y3)]) [] σ (mi_K (fun x7 σ6 => Q (some (.int x7)) σ6))) ∧ (¬ y3 < mGet σ 110 (nI (8 * (16 * (nAc R)[n].1 + (nAc R)[n].2)) + y2) → Q (some (.int (-1))) σ)))))))) → mM X 999 206 0 (mm_L0 206 [.ref 86, .int (nI n), .int y2, .int y3]) [] σ Q := by
      intro Q H
      refine u206_0 ⟨fun g => absurd g (nI_pos (by omega)), fun _ => ?_⟩
      rw [c5]
      refine pk_le (nAc R).length n (fun g => absurd g (by omega)) (fun _ => ⟨H.1, fun g => ⟨m_ix (by omega) (by decide), ?_⟩⟩)
      rw [mGet_e (by omega), q1]
      refine ⟨m_ix (by omega) (by decide), ?_⟩
      rw [mGet_e (by omega), U1, show (8 : Int32) = nI 8 from rfl, show (600 : Int32) = nI 600 from rfl, show (192 : Int32) = nI 192 from rfl, pk_mul, pk_mul, nI_add]
      obtain ⟨x1, x2⟩ := H.2 g
      exact ⟨x1, fun g2 => ⟨(x2 g2).1, fun g3 => ⟨m_ix (by omega) (by decide), ((x2 g2).2 g3).1, fun g4 => ⟨m_ix (by omega) (by decide), ((x2 g2).2 g3).2.1 g4⟩, ((x2 g2).2 g3).2.2⟩⟩⟩
    rcases nI_arg y2 (L := ws.length) (by omega) with ⟨a, rfl, ha⟩ | ⟨h2, hno2⟩
    · obtain ⟨x1, x2, x3⟩ := U2 a ha
      have r1 : ∀ Q : Option Value → mS → Prop, ((y3 < 0 → Q (some (.int (-1))) σ) ∧ (¬ y3 < 0 → ((y3 < nI ws[a].length → mM X 998 154 0 (mm_L0 154 [(.ref 86), .int (nI (600 + 192 * (16 * (nAc R)[n].1 + (nAc R)[n].2) + 24 * a) + y3)]) [] σ (mi_K (fun x7 σ6 => Q (some (.int x7)) σ6))) ∧ (¬ y3 < nI ws[a].length → Q (some (.int (-1))) σ)))) → mM X 999 206 0 (mm_L0 206 [.ref 86, .int (nI n), .int (nI a), .int y3]) [] σ Q := by
        intro Q H
        refine ref Q ⟨fun g => absurd g (nI_pos (by omega)), fun _ => pk_le ws.length a (fun g => absurd g (by omega)) (fun _ => ?_)⟩
        rw [nI_add, mGet_e (by omega), x2, show (24 : Int32) = nI 24 from rfl, pk_mul, nI_add]
        exact ⟨H.1, fun g => ⟨m_ix (by omega) (by decide), H.2 g⟩⟩
      rcases nI_arg y3 (L := ws[a].length) (by omega) with ⟨b, rfl, hb⟩ | ⟨h3, hno3⟩
      · refine ⟨nI ws[a][b], cls _ (fun j J Q H => k114 (d := 996) J h8 (fun a' b' ha' hb' e e' => ?_) (fun hh => ?_)), fun Q H => r1 Q ⟨fun g => absurd g (nI_pos (by omega)), fun _ => pk_lt b ws[a].length (fun _ => ?_) (fun g => absurd g (by omega))⟩⟩
        · have ea := (nI_eq (by omega) (by omega)).mp e
          subst ea
          have hw' := (z5.2 _ (List.getElem_mem ha)).1
          have eb := (nI_eq (by omega) (by omega)).mp e'
          subst eb
          exact H
        · rcases hh with hh | ⟨a', ha', e, hh⟩
          · exact absurd rfl (hh a ha)
          · have ea := (nI_eq (by omega) (by omega)).mp e
            subst ea
            exact absurd rfl (hh b hb)
        · rw [nI_add]
          refine s154 (by omega) ⟨_, rfl, ?_⟩
          rw [x3 b hb]; exact H
      · refine ⟨-1, cls _ (fun j J Q H => k114 (d := 996) J h8 (fun a' b' ha' hb' e e' => ?_) (fun _ => H)), fun Q H => r1 Q ⟨fun _ => H, fun g => ⟨fun g2 => absurd (h3.resolve_left g) (Int32.not_le.mpr g2), fun _ => H⟩⟩⟩
        have ea := (nI_eq (by omega) (by omega)).mp e
        subst ea
        exact absurd e' (hno3 b' hb')
    · refine ⟨-1, cls _ (fun j J Q H => k114 (d := 996) J h8 (fun a' b' ha' hb' e e' => absurd e (hno2 a' ha')) (fun _ => H)), fun Q H => ref Q ⟨fun _ => H, fun g => ⟨fun _ => H, fun g2 => absurd (h2.resolve_left g) g2⟩⟩⟩
  · refine ⟨-1, fun Q H => w113_0 ⟨_, _, _, rfl, hC.1, rfl, ⟨_, _, rfl, r12⟩, k100 rn (fun m e hm => absurd e (hno m hm)) (fun _ => ⟨_, rfl, rfl, Or.inl ⟨rfl, H⟩⟩)⟩, fun Q H => u206_0 ?_⟩
    rw [c5]
    exact ⟨fun _ => H, fun g => ⟨fun _ => H, fun g2 => absurd (h.resolve_left g) g2⟩⟩)
end RDW
