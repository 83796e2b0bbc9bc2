/-! PORT: in the class -/
section OPC
variable {X : List Int32} {t d : Nat} {hp : mm_H} {Q : Option Value → mm_H → Prop}
theorem set_snoc {α : Type} {l l' : List α} {a v : α} {n : Nat} (h : n = l.length) : (l ++ a :: l').set n v = (l ++ [v]) ++ l' := by
  subst h
  rw [List.set_append_right _ _ (Nat.le_refl _), Nat.sub_self, List.set_cons_zero, List.append_assoc]; rfl
theorem k19 {r i0 c st : Nat} {to : mTo} (C : cTo hp r to) (hord : (aOrd to.2).length = to.2.length) (hi0 : i0 ≤ 18) (hc : c < 65536) (hst : st < 1000)
    (H1 : to.2.length < 4 → ∀ hp', cE (wTo r) hp hp' → cH 0 0 hp hp' → cTo hp' r (to.1, to.2 ++ [(nI i0 - 9, c, st)]) → Q (some (.int (nI to.2.length))) hp')
    (H0 : to.2.length = 4 → Q (some (.int (-1))) hp) : mm_R X (d + 1) 19 0 (mm_L0 19 [.ref r, .int (nI i0 - 9), .int (nI c), .int (nI st)]) [] hp Q := by
  obtain ⟨j1, j2, j3, j4, h0, h1, h2, h3, h4, l1, l2, l3, l4, lz⟩ := id C
  have hle := C.le
  refine w19_0 ⟨_, _, _, rfl, h0, rfl, pk_lt to.2.length 4 (fun hn => ⟨_, _, _, rfl, h0, rfl, ?_⟩) (fun g => H0 (by omega))⟩
  have eAB := aOrd_split (ps := to.2) hi0
  have lAB : (ordA to.2 i0).length + (ordB to.2 i0).length = to.2.length := by rw [← List.length_append, ← eAB]; exact hord
  have loop := k19_16 (X := X) (d := d) (Q := Q) (hp := hp) (r := r) (n := to.2.length) (i0 := i0) (to := to) (i2 := nI c) (i3 := nI st) (vs := []) (j1 := j1) (A := ordA to.2 i0) (B := ordB to.2 i0) h0 h1 rfl hn hi0 lAB (fun p hp => ordA_mem hp) (fun p hp => ordB_mem hp) ?_ (ordB to.2 i0).length hp ((aOrd to.2).map mI ++ j4) (Nat.le_refl _) cE.rf cH.rf h4 (by rw [List.length_append, List.length_map]; exact l4) (fun i hi => ?_) (fun i hi hi' => absurd hi' (by omega)) (fun i hi hi' => ?_)
  · rw [lAB] at loop
    exact loop
  · intro hp' L F G g4 hL m1 m2 m3
    have g0 := F.at h0 (by omega)
    have g1 := F.at h1 (by omega)
    have g2 := F.at h2 (by omega)
    have g3 := F.at h3 (by omega)
    have lt : ∀ {y : Nat} {cc : mm_C}, hp'[y]? = some cc → y < hp'.length := fun h => (List.getElem?_eq_some_iff.mp h).1
    obtain ⟨a1, k1, rfl⟩ : ∃ a k, j1 = a :: k := by
      cases j1 with
      | nil => simp at l1; omega
      | cons a k => exact ⟨a, k, rfl⟩
    obtain ⟨a2, k2, rfl⟩ : ∃ a k, j2 = a :: k := by
      cases j2 with
      | nil => simp at l2
      | cons a k => exact ⟨a, k, rfl⟩
    obtain ⟨a3, k3, rfl⟩ : ∃ a k, j3 = a :: k := by
      cases j3 with
      | nil => simp at l3
      | cons a k => exact ⟨a, k, rfl⟩
    have e4 : L.set (ordA to.2 i0).length (.int (nI to.2.length)) = (ordA to.2 i0 ++ to.2.length :: ordB to.2 i0).map mI ++ List.replicate (3 - to.2.length) (.int 0) := by
      apply List.ext_getElem?
      intro i
      by_cases c1 : i < (ordA to.2 i0).length
      · rw [List.getElem?_set_ne (by omega), m1 i c1, List.getElem?_append_left (by rw [List.length_map, List.length_append]; omega), List.getElem?_map, List.getElem?_append_left c1]
      · by_cases c2 : i = (ordA to.2 i0).length
        · subst c2
          rw [List.getElem?_set_self (by omega), List.getElem?_append_left (by rw [List.length_map, List.length_append, List.length_cons]; omega), List.getElem?_map, List.getElem?_append_right (Nat.le_refl _), Nat.sub_self]; rfl
        · by_cases c3 : i ≤ to.2.length
          · rw [List.getElem?_set_ne (by omega), m2 i (by omega) c3, List.getElem?_append_left (by rw [List.length_map, List.length_append, List.length_cons]; omega), List.getElem?_map, List.getElem?_append_right (by omega), show i - (ordA to.2 i0).length = (i - 1 - (ordA to.2 i0).length) + 1 by omega, List.getElem?_cons_succ]
          · rw [List.getElem?_set_ne (by omega)]
            by_cases c4 : i < 4
            · rw [m3 i (by omega) c4, List.getElem?_append_right (by rw [List.length_map, List.length_append, List.length_cons]; omega), List.getElem?_replicate, if_pos (by rw [List.length_map, List.length_append, List.length_cons]; omega)]
            · rw [List.getElem?_eq_none (by omega), List.getElem?_eq_none (by rw [List.length_append, List.length_map, List.length_append, List.length_cons, List.length_replicate]; omega)]
    refine w19_61 ⟨_, _, _, rfl, g0, rfl, _, _, _, rfl, g0, rfl, _, _, rfl, g4, nI_pos' (by omega), by rw [nI_clamp (by omega), hL]; omega, rfl, ?_⟩
    rw [nI_clamp (by omega), e4]
    generalize ea : hp'.set (r + 4) (1000, (ordA to.2 i0 ++ to.2.length :: ordB to.2 i0).map mI ++ List.replicate (3 - to.2.length) (.int 0)) = hpa
    have La : hpa.length = hp'.length := by subst ea; exact List.length_set ..
    have na : ∀ y, y ≠ r + 4 → hpa[y]? = hp'[y]? := fun y hy => by subst ea; rw [List.getElem?_set_ne (fun z => hy z.symm)]
    have va : hpa[r + 4]? = some (1000, (ordA to.2 i0 ++ to.2.length :: ordB to.2 i0).map mI ++ List.replicate (3 - to.2.length) (.int 0)) := by subst ea; exact List.getElem?_set_self (lt g4)
    have Ha : cH 0 0 hp' hpa := by subst ea; exact cH_set g4 (by rw [← e4, List.length_set])
    have a0 : hpa[r]? = _ := (na r (by omega)).trans g0
    have a1' : hpa[r + 1]? = _ := (na (r + 1) (by omega)).trans g1
    refine ⟨_, _, _, rfl, a0, rfl, _, _, _, rfl, a0, rfl, _, _, rfl, a1', nI_pos' (by omega), by rw [nI_clamp (by omega), List.length_append, List.length_map, List.length_cons]; omega, rfl, ?_⟩
    rw [nI_clamp (by omega), set_snoc (by rw [List.length_map])]
    generalize eb : hpa.set (r + 1) (1000, (to.2.map (fun x => Value.int x.1) ++ [.int (nI i0 - 9)]) ++ k1) = hpb
    have Lb : hpb.length = hpa.length := by subst eb; exact List.length_set ..
    have nb : ∀ y, y ≠ r + 1 → hpb[y]? = hpa[y]? := fun y hy => by subst eb; rw [List.getElem?_set_ne (fun z => hy z.symm)]
    have vb : hpb[r + 1]? = some (1000, (to.2.map (fun x => Value.int x.1) ++ [.int (nI i0 - 9)]) ++ k1) := by subst eb; exact List.getElem?_set_self (by rw [La]; exact lt g1)
    have Hb : cH 0 0 hpa hpb := by subst eb; exact cH_set a1' (by simp)
    have b0 : hpb[r]? = _ := (nb r (by omega)).trans a0
    have b2 : hpb[r + 2]? = _ := (nb (r + 2) (by omega)).trans ((na (r + 2) (by omega)).trans g2)
    refine ⟨_, _, _, rfl, b0, rfl, _, _, _, rfl, b0, rfl, _, _, rfl, b2, nI_pos' (by omega), by rw [nI_clamp (by omega), List.length_append, List.length_map, List.length_cons]; omega, m_fc (m_cb hc), ?_⟩
    rw [nI_clamp (by omega), set_snoc (by rw [List.length_map])]
    generalize ec : hpb.set (r + 2) (1001, (to.2.map (fun x => mI x.2.1) ++ [.int (nI c)]) ++ k2) = hpc
    have Lc : hpc.length = hpb.length := by subst ec; exact List.length_set ..
    have nc : ∀ y, y ≠ r + 2 → hpc[y]? = hpb[y]? := fun y hy => by subst ec; rw [List.getElem?_set_ne (fun z => hy z.symm)]
    have vc : hpc[r + 2]? = some (1001, (to.2.map (fun x => mI x.2.1) ++ [.int (nI c)]) ++ k2) := by subst ec; exact List.getElem?_set_self (by rw [Lb, La]; exact lt g2)
    have Hc : cH 0 0 hpb hpc := by subst ec; exact cH_set b2 (by simp)
    have c0 : hpc[r]? = _ := (nc r (by omega)).trans b0
    have c3 : hpc[r + 3]? = _ := (nc (r + 3) (by omega)).trans ((nb (r + 3) (by omega)).trans ((na (r + 3) (by omega)).trans g3))
    refine ⟨_, _, _, rfl, c0, rfl, _, _, _, rfl, c0, rfl, _, _, rfl, c3, nI_pos' (by omega), by rw [nI_clamp (by omega), List.length_append, List.length_map, List.length_cons]; omega, rfl, ?_⟩
    rw [nI_clamp (by omega), set_snoc (by rw [List.length_map])]
    generalize ed : hpc.set (r + 3) (1000, (to.2.map (fun x => mI x.2.2) ++ [.int (nI st)]) ++ k3) = hpd
    have Ld : hpd.length = hpc.length := by subst ed; exact List.length_set ..
    have nd : ∀ y, y ≠ r + 3 → hpd[y]? = hpc[y]? := fun y hy => by subst ed; rw [List.getElem?_set_ne (fun z => hy z.symm)]
    have vd : hpd[r + 3]? = some (1000, (to.2.map (fun x => mI x.2.2) ++ [.int (nI st)]) ++ k3) := by subst ed; exact List.getElem?_set_self (by rw [Lc, Lb, La]; exact lt g3)
    have Hd : cH 0 0 hpc hpd := by subst ed; exact cH_set c3 (by simp)
    have d0 : hpd[r]? = _ := (nd r (by omega)).trans c0
    refine ⟨_, _, _, rfl, d0, rfl, _, _, rfl, d0, by show 5 < 6; decide, rfl, ?_⟩
    rw [nI_1]
    generalize ee : hpd.set r (6, ([.int (nI to.1), .ref (r + 1), .ref (r + 2), .ref (r + 3), .ref (r + 4), .int (nI to.2.length)] : List Value).set 5 (.int (nI (to.2.length + 1)))) = hpe
    have ne : ∀ y, y ≠ r → hpe[y]? = hpd[y]? := fun y hy => by subst ee; rw [List.getElem?_set_ne (fun z => hy z.symm)]
    have Le : hpe.length = hpd.length := by subst ee; exact List.length_set ..
    have ve : hpe[r]? = some (6, [.int (nI to.1), .ref (r + 1), .ref (r + 2), .ref (r + 3), .ref (r + 4), .int (nI (to.2.length + 1))]) := by subst ee; rw [List.getElem?_set_self (by rw [Ld, Lc, Lb, La]; exact lt g0)]; rfl
    have He : cH 0 0 hpd hpe := by subst ee; exact cH_set d0 (by rfl)
    refine ⟨_, _, _, rfl, ve, rfl, ?_⟩
    dsimp only
    rw [show (1 : Int32) = nI 1 from rfl, pk_sub (by omega), Nat.add_sub_cancel]
    refine H1 hn hpe ⟨by rw [Le, Ld, Lc, Lb, La]; exact F.1, fun y hy w => ?_⟩ (cH.mono (((((G.tr Ha).tr Hb).tr Hc).tr Hd).tr He) (by omega) (by omega)) ?_
    · unfold wTo at w
      rw [ne y (by omega), nd y (by omega), nc y (by omega), nb y (by omega), na y (by omega)]
      exact F.2 y hy (by omega)
    · have eo : aOrd (to.2 ++ [(nI i0 - 9, c, st)]) = ordA to.2 i0 ++ to.2.length :: ordB to.2 i0 := aOrd_snoc hi0 rfl
      refine ⟨k1, k2, k3, List.replicate (3 - to.2.length) (.int 0), ?_, ?_, ?_, ?_, ?_, ?_, ?_, ?_, ?_, ?_⟩
      · rw [ve]; simp
      · rw [ne _ (by omega), nd _ (by omega), nc _ (by omega), vb]; simp
      · rw [ne _ (by omega), nd _ (by omega), vc]; simp [mI]
      · rw [ne _ (by omega), vd]; simp [mI]
      · rw [ne _ (by omega), nd _ (by omega), nc _ (by omega), nb _ (by omega), va, eo]
      · simp at l1 ⊢; omega
      · simp at l2 ⊢; omega
      · simp at l3 ⊢; omega
      · rw [eo]; simp at l1 ⊢; omega
      · intro v hv
        simp only [List.mem_append] at hv
        rcases hv with z | z | z | z
        · exact lz v (by simp [z])
        · exact lz v (by simp [z])
        · exact lz v (by simp [z])
        · exact List.eq_of_mem_replicate z
  · rw [List.getElem?_append_left (by rw [List.length_map, hord]; omega), List.getElem?_map, eAB]
  · rw [List.getElem?_append_right (by rw [List.length_map, hord]; omega), List.length_map, hord]
    obtain ⟨v, hv⟩ : ∃ v, j4[i - to.2.length]? = some v := ⟨_, List.getElem?_eq_getElem (by omega)⟩
    rw [hv, lz v (by simp [List.mem_of_getElem? hv])]
end OPC
