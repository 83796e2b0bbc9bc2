/-! BUILDING: helpers; write -/
def wF (x : Nat) : Prop := x = 0 ∨ x = 1 ∨ x = 2 ∨ x = 3 ∨ x = 10 ∨ x = 11
theorem qB_tag {hp : mm_H} {x u : Nat} {cs : List Value} (h : hp[x]? = some (u, cs)) (hu : u ≠ 2 ∧ u ≠ 5 ∧ u ≠ 8 ∧ u ≠ 9 ∧ u ≠ 2009) (hr : x < 12 ∨ 86 ≤ x) (hp1 : u = 1001 ∨ u = 2002 → ∀ y, x = y + 1 → ∃ v vs, hp[y]? = some (v, vs) ∧ v ≠ 2 ∧ v ≠ 9) (hp2 : u = 1000 → ∀ y, x = y + 1 → ∃ v vs, hp[y]? = some (v, vs) ∧ v ≠ 8 ∧ v ≠ 1001) : nV hp x ∧ ¬ isJ hp x ∧ (x < 12 ∨ 86 ≤ x) ∧ nR hp x := by
  refine ⟨⟨fun cs' e => ?_, fun y u' cs' vs e hx' hu' hy => ?_⟩, ?_, hr, ⟨fun cs' e => ?_, fun y cs' ds e hy hx' => ?_⟩⟩
  · rw [h] at e; cases e; exact hu.1 rfl
  · rw [h] at hx'; cases hx'
    obtain ⟨v, vs', g1, g2, _⟩ := hp1 hu' y e
    rw [g1] at hy; cases hy; exact g2 rfl
  · rintro (⟨cs', e⟩ | ⟨cs', e⟩ | ⟨cs', e⟩ | ⟨y, cs', ds, e, hy, hx'⟩ | ⟨y, cs', ds, es, e, hy, hy1, hx'⟩)
    · rw [h] at e; cases e; exact hu.2.1 rfl
    · rw [h] at e; cases e; exact hu.2.2.2.1 rfl
    · rw [h] at e; cases e; exact hu.2.2.2.2 rfl
    · rw [h] at hx'; cases hx'
      obtain ⟨v, vs', g1, _, g2⟩ := hp1 (Or.inl rfl) y e
      rw [g1] at hy; cases hy; exact g2 rfl
    · rw [h] at hx'; cases hx'
      obtain ⟨v, vs', g1, _, g2⟩ := hp2 rfl (y + 1) (by omega)
      rw [g1] at hy1; cases hy1; exact g2 rfl
  · rw [h] at e; cases e; exact hu.2.2.1 rfl
  · rw [h] at hx'; cases hx'
    obtain ⟨v, vs', g1, g2, _⟩ := hp2 rfl y e
    rw [g1] at hy; cases hy; exact g2 rfl
theorem CI.qF {hp : mm_H} {D : List Nat} {x : Int32} {E : mEv} {tr sr : Nat → Nat} {R : mRn} {JL : Nat → List Value} (h : CI hp D x E tr sr R JL) : qB hp wF := by
  obtain ⟨h0, ⟨_, h1, junk, h2, _⟩, _, ⟨⟨l3, h3, _⟩, ⟨l10, h10, _⟩, ⟨l11, h11, _⟩⟩, _⟩ := h
  intro y hy w
  rcases w with rfl | rfl | rfl | rfl | rfl | rfl
  · exact qB_tag h0 (by decide) (by omega) (fun e => by omega) (fun e => by omega)
  · exact qB_tag h1 (by decide) (by omega) (fun e => by omega) (fun e => by omega)
  · exact qB_tag h2 (by decide) (by omega) (fun e y hy => by { obtain rfl : y = 1 := (by omega); exact ⟨_, _, h1, by decide, by decide⟩ }) (fun e => by omega)
  · exact qB_tag h3 (by decide) (by omega) (fun e y hy => by { obtain rfl : y = 2 := (by omega); exact ⟨_, _, h2, by decide, by decide⟩ }) (fun e => by omega)
  · exact qB_tag h10 (by decide) (by omega) (fun e => by omega) (fun e => by omega)
  · exact qB_tag h11 (by decide) (by omega) (fun e => by omega) (fun e => by omega)
theorem qB.mono {hp : mm_H} {W V : Nat → Prop} (h : qB hp W) (f : ∀ x, V x → W x) : qB hp V := fun x hx w => h x hx (f x w)
theorem mD_snoc {D : List Nat} {c : Nat} (h : mD_ok D) (hl : D.length < 60) (h1 : 32 ≤ c) (h2 : c ≤ 126) : mD_ok (D ++ [c]) := by
  refine ⟨by rw [List.length_append, List.length_singleton]; omega, fun c' hc' => ?_⟩
  rcases List.mem_append.mp hc' with z | z
  · exact h.2 c' z
  · rw [List.mem_singleton] at z; omega
theorem cH_set {hp : mm_H} {k u : Nat} {l l' : List Value} (h : hp[k]? = some (u, l)) (hl : l'.length = l.length) : cH 0 0 hp (hp.set k (u, l')) := ⟨by rw [List.length_set]; omega, by rw [mm_sz_set h hl]; omega⟩
/-- frames of building in the reference -/
def bK (σ σ' : mS) : Prop := mKp (fun k => k = 1 ∨ k = 3 ∨ k = 6 ∨ k = 12) (fun b _ => 88 ≤ b ∧ b ≤ 105) (fun p => p < 600 ∨ 19032 ≤ p) (fun x => x < 27 ∨ 129 ≤ x) σ σ'
theorem sR0.bk {σ σ' : mS} {R : mRn} (h : sR0 σ R) (K : bK σ σ') : sR0 σ' R := by
  obtain ⟨⟨c1, c2, c3, c4, c5, c6⟩, h2⟩ := h
  refine ⟨⟨(K.1 23 (by omega)).trans c1, (K.1 24 (by omega)).trans c2, (K.1 25 (by omega)).trans c3, (K.1 26 (by omega)).trans c4, (K.1 27 (by omega)).trans c5, (K.1 28 (by omega)).trans c6⟩, fun s hs => ⟨(K.2.1 106 _ (by decide) (by omega)).trans (h2 s hs).1, fun e => ((h2 s hs).2 e).keep K (by omega) (fun p hp hP => by unfold aW at hp; omega)⟩⟩
theorem GI.h {hp hp' : mm_H} {JL : Nat → List Value} {t c w : Nat} (h : GI hp JL t) (ht : t < 512) (H : cH c w hp hp') (hc : c ≤ 1100) (hw : w ≤ 14000) : GI hp' JL (t + 1) := h.run ht H.b hc hw
section BLD
variable {X : List Int32} {t d : Nat} {hp : mm_H} {Q : Option Value → mm_H → Prop}
theorem ob_write {y1 : Int32} (I : IV X t hp) (ht : t < 512) : mL_ob X (IV X) t hp 12 124 [.int ((Int32.toUInt32 y1 % 65536).toInt32)] := by
  obtain ⟨D, x, E, tr, sr, R, JL, σ, hC, M, hS, hA, hP, hG⟩ := I
  rw [pk_char]
  have hc : y1.toBitVec.toNat % 65536 < 65536 := Nat.mod_lt _ (by omega)
  generalize y1.toBitVec.toNat % 65536 = c at *
  obtain ⟨hD, d1, junk, d2, d3⟩ := id hC.2.1
  have d60 := hD.1
  have same : mM X 999 124 0 (mm_L0 124 [.ref 86, .int (nI c)]) [] σ (fun r2 σ' => r2 = some (.int 0) ∧ SI σ' D E R ∧ PC σ' D E (t + 1)) → ∃ y, some (Value.int 0) = some (.int y) ∧ ∃ D x E tr sr R JL σ, CI hp D x E tr sr R JL ∧ mR hp σ ∧ AI E tr sr R ∧ GI hp JL (t + 1) ∧ mM X 999 124 0 (mm_L0 124 [.ref 86, .int (nI c)]) [] σ (fun r2 σ' => r2 = some (.int y) ∧ SI σ' D E R ∧ PC σ' D E (t + 1)) := fun h => ⟨0, rfl, D, x, E, tr, sr, R, JL, σ, hC, M, hA, hG.up, h⟩
  have no : mM X 999 124 0 (mm_L0 124 [.ref 86, .int (nI c)]) [] σ (fun r2 σ' => r2 = some (.int 0) ∧ SI σ' D E R ∧ PC σ' D E (t + 1)) ∨ (32 ≤ c ∧ c ≤ 126 ∧ D.length < 60) := by
    by_cases g : 32 ≤ c ∧ c ≤ 126 ∧ D.length < 60
    · exact Or.inr g
    · left
      have fin : some (Value.int 0) = some (.int 0) ∧ SI σ D E R ∧ PC σ D E (t + 1) := ⟨rfl, hS, hP.up⟩
      refine u124_0 (pk_lt c 32 (fun _ => fin) (fun g1 => pk_lt 126 c (fun _ => fin) (fun g2 => ?_)))
      rw [hS.1.2.1]
      exact pk_lt D.length 60 (fun g3 => absurd ⟨g1, g2, g3⟩ g) (fun _ => fin)
  refine ob_of rfl (w12_0 ⟨_, _, _, rfl, hC.1, rfl, ⟨_, _, rfl, d1⟩, w13_0 (w14_0 (pk_lt c 32 (fun g => ⟨_, rfl, fun _ => ⟨_, rfl, rfl, same (no.resolve_right (by omega))⟩, fun z => absurd rfl z⟩) (fun g1 => pk_lt 126 c (fun g => ⟨_, rfl, fun _ => ⟨_, rfl, rfl, same (no.resolve_right (by omega))⟩, fun z => absurd rfl z⟩) (fun g2 => ⟨_, rfl, fun z => absurd z (by decide), fun _ => ⟨_, _, _, rfl, d1, rfl, _, _, _, rfl, d1, rfl, hC.2.1.ln (pk_lt D.length 60 (fun g3 => ?_) (fun g => ⟨_, rfl, rfl, same (no.resolve_right (by omega))⟩))⟩⟩))))⟩)
  obtain ⟨j, junk', rfl⟩ : ∃ j junk', junk = j :: junk' := by
    cases junk with
    | nil => simp at d3; omega
    | cons j js => exact ⟨j, js, rfl⟩
  have hset : (D.map mI ++ j :: junk').set D.length (.int (nI c)) = (D ++ [c]).map mI ++ junk' := by
    rw [List.set_append_right _ _ (by rw [List.length_map]; exact Nat.le_refl _), List.length_map, Nat.sub_self, List.set_cons_zero, List.map_append, List.append_assoc]
    rfl
  have hlen : (D.map mI ++ j :: junk').length = 60 := by rw [List.length_append, List.length_map]; exact d3
  refine ⟨_, _, _, rfl, d1, rfl, _, _, _, rfl, d1, rfl, _, _, rfl, d2, nI_pos' (by omega), ?_, ?_, ?_⟩
  · rw [nI_clamp (by omega), hlen]; exact g3
  · show mm_fv .char (.int (nI c)) = true
    exact m_fc (m_cb hc)
  · rw [nI_clamp (by omega), hset]
    have h1' : (hp.set 2 (1001, (D ++ [c]).map mI ++ junk'))[1]? = some (1, [.ref 2, .int (nI D.length), .int x]) := by rw [List.getElem?_set_ne (by decide)]; exact d1
    refine ⟨_, _, _, rfl, h1', rfl, _, _, rfl, h1', by show 1 < 3; decide, rfl, _, rfl, rfl, _, rfl, ?_⟩
    rw [nI_1]
    have hw : cE (fun x => x = 1 ∨ x = 2) hp ((hp.set 2 (1001, (D ++ [c]).map mI ++ junk')).set 1 (1, [.ref 2, .int (nI (D.length + 1)), .int x])) := (cE.set (Or.inr rfl)).tr (cE.set (Or.inl rfl))
    have hH : cH 0 0 hp ((hp.set 2 (1001, (D ++ [c]).map mI ++ junk')).set 1 (1, [.ref 2, .int (nI (D.length + 1)), .int x])) := cH.mono ((cH_set d2 (by rw [← hset, List.length_set])).tr (cH_set h1' (l' := [.ref 2, .int (nI (D.length + 1)), .int x]) rfl)) (by omega) (by omega)
    have q : qB hp (fun x => x = 1 ∨ x = 2) := hC.qF.mono (fun x h => by unfold wF; omega)
    have l1 := (List.getElem?_eq_some_iff.mp d1).1
    have l2 := (List.getElem?_eq_some_iff.mp d2).1
    refine ⟨D ++ [c], x, E, tr, sr, R, JL, σ, ⟨hw.at hC.1 (by decide), ⟨mD_snoc hD g3 g1 g2, ?_, junk', ?_, ?_⟩, hC.2.2.keepB hw q (by decide) (by decide) (by decide) (fun y hy => by omega)⟩, hw.mR M (fun y h1 h2 => by omega), hA, hG.h ht hH (by omega) (by omega), ?_⟩
    · rw [List.getElem?_set_self (by rw [List.length_set]; exact l1), List.length_append]; rfl
    · rw [List.getElem?_set_ne (by decide), List.getElem?_set_self l2]
    · rw [List.length_append, List.length_singleton]; simp at d3; omega
    · refine u124_0 (pk_lt c 32 (fun g => absurd g (by omega)) (fun _ => pk_lt 126 c (fun g => absurd g (by omega)) (fun _ => ?_)))
      rw [hS.1.2.1]
      refine pk_lt D.length 60 (fun _ => ⟨m_ix g3 (by decide), ⟨nI_pos' (by omega), nI_le (b := 65535) (by omega) (by decide)⟩, ?_⟩) (fun g => absurd g (by omega))
      rintro σ2 rfl σ3 rfl
      rw [uI_e (by omega)]
      have e3 : (uI σ 88 D.length (nI c)).1 3 + 1 = nI (D.length + 1) := by
        show σ.1 3 + 1 = _
        rw [hS.1.2.1, nI_1]
      rw [e3]
      have K : mKp (fun k => k = 3) (fun b j => b = 88 ∧ j = D.length) mN1 mN1 σ (mSet (uI σ 88 D.length (nI c)) 3 (nI (D.length + 1))) := (uI_kp (by decide) ⟨rfl, rfl⟩).tr (mSet_kp rfl)
      have Kb : bK σ (mSet (uI σ 88 D.length (nI c)) 3 (nI (D.length + 1))) := K.mono (fun k h => by omega) (fun b j h => by omega) (fun _ h => h.elim) (fun _ h => h.elim)
      refine ⟨rfl, ⟨⟨mD_snoc hD g3 g1 g2, ?_, fun i hi => ?_⟩, hS.2.1.kp K (by omega) (fun b j h1 h2 h => by omega) (fun _ _ h => h) (fun _ _ h => h), (K.1 44 (by decide)).trans hS.2.2.1, hS.2.2.2.1.bk Kb, fun e1 => ?_⟩, ?_⟩
      · rw [mSet_g, if_pos rfl, List.length_append]; rfl
      · show (uI σ 88 D.length (nI c)).2.1 88 i = _
        rw [uI_at]
        unfold mc
        rw [List.getD_eq_getElem?_getD]
        by_cases e : i = D.length
        · subst e
          rw [if_pos ⟨rfl, rfl⟩, List.getElem?_append_right (Nat.le_refl _), Nat.sub_self]; rfl
        · have hi' : i < D.length := by rw [List.length_append, List.length_singleton] at hi; omega
          rw [if_neg (by omega), hS.1.2.2 i hi', List.getElem?_append_left hi']
          unfold mc
          rw [List.getD_eq_getElem?_getD]
      · obtain ⟨z1, z2, ⟨⟨c1, c2, c3, c4, c5, c6⟩, z3⟩, z4, z5⟩ := hS.2.2.2.2 e1
        refine ⟨z1.kp K (by omega) (fun b j h1 h2 h => by omega) (fun _ _ h => h) (fun _ _ h => h), (K.1 44 (by decide)).trans z2, hS.2.2.2.1.bk Kb, fun i hi => ⟨(K.2.1 111 _ (by decide) (by omega)).trans (z4 i hi).1, fun ws hw => ((z4 i hi).2 ws hw).keep K (fun b j hb hB => by unfold wdB at hb; omega) (fun _ _ h => h)⟩, fun s hs => ⟨fun g => ?_, fun n hn hg => ?_⟩⟩
        · obtain ⟨q1, ⟨ln, q2, q3⟩, q4⟩ := (z5 s hs).1 g
          refine ⟨(K.2.1 107 _ (by decide) (by omega)).trans q1, ⟨ln, q2, fun p hp hb => ⟨(q3 p hp hb).1, (K.2.1 112 _ (by decide) (by omega)).trans (q3 p hp hb).2⟩⟩, fun m hm => ?_⟩
          obtain ⟨b1, b2, b3, b4⟩ := q4 m hm
          exact ⟨b1, (K.2.1 108 _ (by decide) (by omega)).trans b2, fun t ht => (b3 t ht).keep K id (fun _ _ h => h), fun hr ws hw => (b4 hr ws hw).keep K (fun b j hb hB => by unfold wdB at hb; omega) (fun _ _ h => h)⟩
        · rw [K.2.1 108 _ (by decide) (by omega)]; exact (z5 s hs).2 n hn hg
      · obtain ⟨p0, a, b, e⟩ := hP
        have := (PC.kp (D := D) (t := t) ⟨p0, a, b, e⟩ K (by decide) (fun _ _ h => h) (fun _ _ h => h))
        refine ⟨p0, (K.1 1 (by decide)).trans a, ?_, ?_⟩
        · rw [List.length_append, List.length_singleton]; omega
        · exact ⟨fun c' hc' => (e.1 c' hc').keep K id (fun _ _ h => h), fun s p t' hs hp' e' => (e.2 s p t' hs hp' e').keep K id (fun _ _ h => h)⟩
end BLD
