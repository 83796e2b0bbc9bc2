/-! THE DRAFT, and its reading as a value -/
def mc (D : List Nat) (k : Nat) : Nat := D.getD k 0
def mD_ok (D : List Nat) : Prop := D.length ≤ 60 ∧ ∀ c ∈ D, 32 ≤ c ∧ c ≤ 126
theorem mc_0 {D : List Nat} {k : Nat} (h : D.length ≤ k) : mc D k = 0 := by
  unfold mc; rw [List.getD_eq_getElem?_getD, List.getElem?_eq_none h]; rfl
theorem mc_get {D : List Nat} {k : Nat} (h : k < D.length) : D[k]? = some (mc D k) := by
  unfold mc; rw [List.getD_eq_getElem?_getD, List.getElem?_eq_getElem h]; rfl
theorem mc_in {D : List Nat} {k : Nat} (h : k < D.length) : mc D k ∈ D := List.mem_of_getElem? (mc_get h)
theorem mc_drop {D : List Nat} {k : Nat} (h : k < D.length) : D.drop k = mc D k :: D.drop (k + 1) := by
  rw [List.drop_eq_getElem_cons h]
  have := mc_get h
  rw [List.getElem?_eq_getElem h] at this
  rw [Option.some.inj this]
theorem mc_lt {D : List Nat} (h : mD_ok D) (k : Nat) : mc D k ≤ 126 := by
  rcases Nat.lt_or_ge k D.length with hk | hk
  · exact (h.2 _ (mc_in hk)).2
  · rw [mc_0 hk]; omega
theorem mc_ne {D : List Nat} {k : Nat} (h : mc D k ≠ 0) : k < D.length := by
  rcases Nat.lt_or_ge k D.length with hk | hk
  · exact hk
  · exact absurd (mc_0 hk) h
def pU (D : List Nat) (j : Nat) : List Nat := (D.drop j).takeWhile (fun c => !(c == 34))
def pE (D : List Nat) (j : Nat) : List Nat := (D.drop j).takeWhile (fun c => Nat.ble 48 c && Nat.ble c 57)
theorem pU_c {D : List Nat} {j : Nat} (h : j < D.length) : pU D j = if mc D j = 34 then [] else mc D j :: pU D (j + 1) := by
  unfold pU
  rw [mc_drop h, List.takeWhile_cons]
  by_cases e : mc D j = 34
  · rw [if_pos e, if_neg (by simp [e])]
  · rw [if_neg e, if_pos (by simp [e])]
theorem pU_n {D : List Nat} {j : Nat} (h : D.length ≤ j) : pU D j = [] := by
  unfold pU; rw [List.drop_eq_nil_of_le h]; rfl
theorem pE_c {D : List Nat} {j : Nat} (h : j < D.length) : pE D j = if 48 ≤ mc D j ∧ mc D j ≤ 57 then mc D j :: pE D (j + 1) else [] := by
  unfold pE
  rw [mc_drop h, List.takeWhile_cons]
  by_cases e : 48 ≤ mc D j ∧ mc D j ≤ 57
  · rw [if_pos e, if_pos (by rw [Bool.and_eq_true, Nat.ble_eq, Nat.ble_eq]; exact e)]
  · rw [if_neg e, if_neg (by rw [Bool.and_eq_true, Nat.ble_eq, Nat.ble_eq]; exact e)]
theorem pE_n {D : List Nat} {j : Nat} (h : D.length ≤ j) : pE D j = [] := by
  unfold pE; rw [List.drop_eq_nil_of_le h]; rfl
theorem pE_len {D : List Nat} : ∀ (m j : Nat), D.length - j = m → j ≤ D.length → j + (pE D j).length ≤ D.length := by
  intro m
  induction m with
  | zero => intro j hm hj; rw [pE_n (by omega)]; simp; omega
  | succ m ih =>
    intro j hm hj
    rw [pE_c (by omega)]
    split
    · have := ih (j + 1) (by omega) (by omega)
      rw [List.length_cons]; omega
    · simp; omega
theorem pE_get {D : List Nat} {i j : Nat} (h : i < (pE D j).length) : j + i < D.length ∧ (pE D j)[i] = mc D (j + i) := by
  have hs : pE D j <+: D.drop j := List.takeWhile_prefix _
  have h1 := hs.length_le
  have e := hs.getElem h
  rw [List.length_drop] at h1
  refine ⟨by omega, ?_⟩
  rw [e, List.getElem_drop]
  have := mc_get (D := D) (k := j + i) (by omega)
  rw [List.getElem?_eq_getElem (by omega)] at this
  exact Option.some.inj this
/-- a scalar, from place k -/
def pS (D : List Nat) (k : Nat) : Option (mSc × Nat) :=
  if mc D k = 110 then (if mc D (k + 1) = 117 ∧ mc D (k + 2) = 108 ∧ mc D (k + 3) = 108 then some (none, k + 4) else none)
  else if mc D k = 34 then (if (pU D (k + 1)).length ≤ 24 ∧ 92 ∉ pU D (k + 1) ∧ mc D (k + 1 + (pU D (k + 1)).length) = 34 then some (some (.inr (pU D (k + 1))), k + 1 + (pU D (k + 1)).length + 1) else none)
  else if mc D k = 45 then (mt_pu true (pE D (k + 1))).map (fun n => (some (.inl n), k + 1 + (pE D (k + 1)).length))
  else (mt_pu false (pE D k)).map (fun n => (some (.inl n), k + (pE D k).length))
/-- values (false) and the rest of a list (true), from place k -/
def pP (D : List Nat) : Nat → Bool → Nat → Option (List mT × Nat)
  | 0, _, _ => none
  | n + 1, false, k => if mc D k = 91 then (if mc D (k + 1) = 93 then some ([mt_mk []], k + 2) else (pP D n true (k + 1)).map (fun p => ([mt_mk p.1], p.2))) else (pS D k).map (fun p => ([.leaf p.1], p.2))
  | n + 1, true, k => (pP D n false k).bind (fun p => if mc D p.2 = 93 then some (p.1, p.2 + 1) else if mc D p.2 = 44 then (pP D n true (p.2 + 1)).map (fun r => (p.1 ++ r.1, r.2)) else none)
theorem pP_one {D : List Nat} {n k k' : Nat} {xs : List mT} (h : pP D n false k = some (xs, k')) : ∃ t, xs = [t] := by
  cases n with
  | zero => cases h
  | succ n =>
    rw [pP] at h
    split at h
    · split at h
      · cases h; exact ⟨_, rfl⟩
      · rw [Option.map_eq_some_iff] at h
        obtain ⟨p, _, e⟩ := h
        cases e; exact ⟨_, rfl⟩
    · rw [Option.map_eq_some_iff] at h
      obtain ⟨p, _, e⟩ := h
      cases e; exact ⟨_, rfl⟩
/-- the draft's two cells -/
def cD (hp : mm_H) (D : List Nat) (x : Int32) : Prop := mD_ok D ∧ hp[1]? = some (1, [.ref 2, .int (nI D.length), .int x]) ∧ ∃ junk, hp[2]? = some (1001, D.map mI ++ junk) ∧ D.length + junk.length = 60
theorem cD.eq {hp hp' : mm_H} {D : List Nat} {x : Int32} (h : cD hp D x) (h1 : hp'[1]? = hp[1]?) (h2 : hp'[2]? = hp[2]?) : cD hp' D x := by
  obtain ⟨a, b, c⟩ := h
  exact ⟨a, h1.trans b, by rw [h2]; exact c⟩
theorem cD.keep {hp hp' : mm_H} {D : List Nat} {x : Int32} {W : Nat → Prop} (h : cD hp D x) (E : cE W hp hp') (h1 : ¬ W 1) (h2 : ¬ W 2) : cD hp' D x := by
  obtain ⟨_, b, j, c, _⟩ := id h
  exact h.eq (E.2 1 (List.getElem?_eq_some_iff.mp b).1 h1) (E.2 2 (List.getElem?_eq_some_iff.mp c).1 h2)
theorem cD.gi {hp : mm_H} {D : List Nat} {x : Int32} {K : Int32 → Prop} (h : cD hp D x) (H : K x) : mw_gi 1 2 (.ref 1) hp K := ⟨1, _, _, rfl, h.2.1, rfl, H⟩
theorem cD.pt {hp : mm_H} {D : List Nat} {x y : Int32} {K : mm_H → Prop} (h : cD hp D x) (H : ∀ hp', cE (fun z => z = 1) hp hp' → cG 0 hp hp' → hp'.length = hp.length → cD hp' D y → K hp') : mw_pt 1 2 (.ref 1) (.int y) hp K := by
  obtain ⟨a, b, j, c, e⟩ := h
  have hl := (List.getElem?_eq_some_iff.mp b).1
  refine ⟨1, _, rfl, b, Nat.le_of_ble_eq_true rfl, rfl, H _ (cE.set rfl) ⟨by simp, by rw [mm_sz_set b (by rfl)]; omega⟩ (by simp) ⟨a, List.getElem?_set_self hl, j, ?_, e⟩⟩
  rw [List.getElem?_set_ne (by decide)]; exact c
section CDR
variable {X : List Int32} {d : Nat} {hp : mm_H} {Q : Option Value → mm_H → Prop} {S : Nat → Prop} {D : List Nat}
/-- peek -/
theorem k30 {k : Nat} (h : cD hp D (nI k)) (hk : k < 2 ^ 30) (H : Q (some (.int (nI (mc D k)))) hp) : mm_R X (d + 1) 30 0 (mm_L0 30 [.ref 1]) [] hp Q := by
  obtain ⟨⟨a1, a2⟩, b, j, c, e⟩ := h
  refine w30_0 ⟨1, _, _, rfl, b, rfl, pk_lt k 0 (fun h => absurd h (by omega)) (fun _ => ⟨1, _, _, rfl, b, rfl, ⟨1, _, _, rfl, b, rfl, pk_le D.length k (fun h => ?_) (fun h => ⟨1, _, _, rfl, b, rfl, ⟨1, _, _, rfl, b, rfl, ⟨2, _, _, rfl, c, by decide, rfl, ?_⟩⟩⟩)⟩⟩)⟩
  · rw [mc_0 h] at H; exact H
  · have hl : (D.map mI ++ j).length = 60 := by simp; omega
    have hm := (a2 _ (mc_in h)).2
    rw [hl]
    refine pk_le 60 k (fun h => absurd h (by omega)) (fun _ => ⟨1, _, _, rfl, b, rfl, ⟨1, _, _, rfl, b, rfl, ⟨2, _, nI (mc D k), rfl, c, nI_pos' (by omega), ?_, m_fc (m_cb (by omega)), H⟩⟩⟩)
    rw [nI_clamp (by omega), List.getElem?_append_left (by simpa using h), List.getElem?_map, mc_get h]; rfl
theorem k33_18 {r : Nat} (hr : 3 ≤ r) : ∀ (m : Nat) (s : List Nat) (j : Nat) (hp : mm_H) (junk : List Value) (o3 : Option Value), s.length + m = 25 → j ≤ 100 → cD hp D (nI j) → cTx hp r s junk → s.length + junk.length = 24 →
    (s.length + (pU D j).length ≤ 24 → 92 ∉ pU D j → mc D (j + (pU D j).length) = 34 → ∀ hp' junk', cE (fun x => x = 1 ∨ r ≤ x) hp hp' → cG 0 hp hp' → cD hp' D (nI (j + (pU D j).length + 1)) → cTx hp' r (s ++ pU D j) junk' → Q (some (.ref r)) hp') →
    (¬ (s.length + (pU D j).length ≤ 24 ∧ 92 ∉ pU D j ∧ mc D (j + (pU D j).length) = 34) → ∀ hp' x, cE (fun x => x = 1 ∨ r ≤ x) hp hp' → cG 0 hp hp' → cD hp' D x → Q (some .null) hp') →
    mm_R X (d + 2) 33 18 [some (.ref 1), some (.ref r), some (.int (nI s.length)), o3] [] hp Q := by
  intro m
  induction m with
  | zero =>
    intro s j hp junk o3 hm hj hD T hroom H1 H0
    omega
  | succ m ih =>
    intro s j hp junk o3 hm hj hD T hroom H1 H0
    have hok := hD.1
    have hml := mc_lt hok j
    refine w33_18 (pk_lt 24 s.length (fun h => absurd h (by omega)) (fun _ => ⟨⟨1, _, rfl, hD.2.1⟩, k30 hD (by omega) ⟨_, rfl, hD.gi (hD.pt ?_)⟩⟩))
    rw [nI_1]
    intro hp1 E1 G1 L1 D1
    have T0 := T
    obtain ⟨n0, z1, z2, _⟩ := T0
    have T1 : cTx hp1 r s junk := by
      obtain ⟨n0, z1, z2, z3⟩ := T
      exact ⟨n0, E1.at z1 (by omega), E1.at z2 (by omega), z3⟩
    have E1' : cE (fun x => x = 1 ∨ r ≤ x) hp hp1 := E1.mono (fun x _ h => Or.inl h)
    refine pk_eq (mc D j) 34 (B := _) (A := _) (fun e34 => ?_) (fun e34 => ?_) |>.symm
    · have hu : pU D j = [] := by
        rw [pU_c (mc_ne (by omega)), if_pos e34]
      rw [hu] at H1
      exact ⟨rfl, Or.inr ⟨_, rfl⟩, H1 (by simp; omega) (by simp) (by simpa using e34) hp1 junk E1' G1 (by simpa using D1) (by simpa using T1)⟩
    · refine ⟨rfl, ⟨r, _, rfl, E1.at z1 (by omega)⟩, k34b T1 hroom (by omega) (fun h24 hlt hp2 junk2 E2 G2 T2 r2 => ⟨_, rfl, fun _ => ?_, fun h => absurd h (by decide)⟩) (fun hno => ⟨_, rfl, fun h => absurd rfl h, fun _ => ?_⟩)⟩
      · have hjl : j < D.length := mc_ne (by have := hlt.1; omega)
        have hu : pU D j = mc D j :: pU D (j + 1) := by rw [pU_c hjl, if_neg e34]
        have E2' : cE (fun x => x = 1 ∨ r ≤ x) hp hp2 := E1'.tr (E2.mono (fun x _ h => by omega))
        have D2 : cD hp2 D (nI (j + 1)) := D1.keep E2 (by omega) (by omega)
        have el : (s ++ [mc D j]).length = s.length + 1 := by simp
        have := ih (s ++ [mc D j]) (j + 1) hp2 junk2 (some (.int (nI (mc D j)))) (by omega) (by have := hok.1; omega) D2 T2 (by omega) ?_ ?_
        · rw [el] at this; rw [nI_1]; exact this
        · intro a1 a2 a3 hp3 junk3 E3 G3 D3 T3
          refine H1 (by rw [hu, List.length_cons]; omega) ?_ ?_ hp3 junk3 (E2'.tr E3) ((G1.tr G2).tr G3) ?_ ?_
          · rw [hu]; rintro h
            rcases List.mem_cons.mp h with h | h
            · exact hlt.2.2.2 h.symm
            · exact a2 h
          · rw [hu, List.length_cons, show j + ((pU D (j + 1)).length + 1) = j + 1 + (pU D (j + 1)).length by omega]; exact a3
          · rw [hu, List.length_cons, show j + ((pU D (j + 1)).length + 1) + 1 = j + 1 + (pU D (j + 1)).length + 1 by omega]; exact D3
          · rw [hu]; simpa using T3
        · intro no hp3 x E3 G3 D3
          refine H0 ?_ hp3 x (E2'.tr E3) ((G1.tr G2).tr G3) D3
          rintro ⟨a1, a2, a3⟩
          rw [hu, List.length_cons] at a1 a3
          rw [hu] at a2
          refine no ⟨by omega, fun h => a2 (List.mem_cons_of_mem _ h), ?_⟩
          rw [show j + 1 + (pU D (j + 1)).length = j + ((pU D (j + 1)).length + 1) by omega]; exact a3
      · refine H0 ?_ hp1 _ E1' G1 D1
        rintro ⟨a1, a2, a3⟩
        rcases Nat.lt_or_ge j D.length with hjl | hjl
        · have hu : pU D j = mc D j :: pU D (j + 1) := by rw [pU_c hjl, if_neg e34]
          rw [hu, List.length_cons] at a1
          rw [hu] at a2
          have hr := hok.2 _ (mc_in hjl)
          exact hno ⟨by omega, hr.1, hr.2, e34, fun h => a2 (by rw [h]; exact List.mem_cons_self)⟩
        · rw [pU_n hjl] at a3
          simp only [List.length_nil, Nat.add_zero] at a3
          exact e34 a3
/-- what reading a value gives -/
def cRd (D : List Nat) (hp : mm_H) (o : Option (mT × Nat)) (Q : Option Value → mm_H → Prop) (b : Nat) : Prop := (∀ t k', o = some (t, k') → ∀ hp' q, hp.length ≤ q → cE (fun x => x = 1) hp hp' → cG b hp hp' → cD hp' D (nI k') → cT (fun x => hp.length ≤ x) hp' t q → Q (some (.ref q)) hp') ∧ (o = none → ∀ hp' x, cE (fun x => x = 1) hp hp' → cG b hp hp' → cD hp' D x → Q (some .null) hp')
theorem k33 {k : Nat} (hD : cD hp D (nI k)) (hl : 3 ≤ hp.length) (hk : k ≤ 60) (hc : mc D k = 34) (H : cRd D hp ((pS D k).map (fun p => (.leaf p.1, p.2))) Q 2) : mm_R X (d + 3) 33 0 (mm_L0 33 [.ref 1]) [] hp Q := by
  have eS : pS D k = if (pU D (k + 1)).length ≤ 24 ∧ 92 ∉ pU D (k + 1) ∧ mc D (k + 1 + (pU D (k + 1)).length) = 34 then some (some (.inr (pU D (k + 1))), k + 1 + (pU D (k + 1)).length + 1) else none := by
    unfold pS; rw [if_neg (by omega), if_pos hc]
  refine w33_0 (k7 (room := 24) (by omega) ?_)
  rintro n rfl
  have E0 : ∀ l : mm_H, cE (fun x => x = 1) hp (hp ++ l) := fun l => cE.app
  have D0 : cD (hp ++ [(2, [.ref (hp.length + 1), .null, .int 2, .int 0, .int 0, .int 0, .int 2]), (1001, .int 34 :: .int 34 :: List.replicate 24 (.int 0))]) D (nI k) := by
    refine hD.eq ?_ ?_ <;> exact List.getElem?_append_left (by omega)
  refine ⟨_, rfl, rfl, D0.gi (D0.pt ?_)⟩
  rw [nI_1]
  intro hp1 E1 G1 L1 D1
  have G0 : cG 2 hp (hp ++ [(2, [.ref (hp.length + 1), .null, .int 2, .int 0, .int 0, .int 0, .int 2]), (1001, .int 34 :: .int 34 :: List.replicate 24 (.int 0))]) := c2_appG (by simp)
  have T1 : cTx hp1 hp.length [] (List.replicate 24 (.int 0)) := by
    refine ⟨.int 0, E1.at c2_app0 (by omega), (E1.at c2_app1 (by omega)).trans rfl, ⟨0, rfl⟩, by simp⟩
  have fr : ∀ hp', cE (fun x => x = 1 ∨ hp.length ≤ x) hp1 hp' → cE (fun x => x = 1) hp hp' := fun hp' E =>
    (((E0 _).mono (W' := fun x => x = 1 ∨ hp.length ≤ x) (fun x _ h => Or.inl h)).tr ((E1.mono (fun x _ h => Or.inl h)).tr E)).mono (fun x hx h => by omega)
  refine k33_18 (D := D) hl 25 [] (k + 1) hp1 _ none rfl (by omega) D1 T1 (by simp) ?_ ?_
  · intro a1 a2 a3 hp2 junk2 E2 G2 D2 T2
    rw [eS, if_pos ⟨by simpa using a1, a2, a3⟩] at H
    exact H.1 _ _ rfl hp2 hp.length (Nat.le_refl _) (fr hp2 E2) ((G0.tr G1).tr G2) D2 T2.t
  · intro no hp2 x E2 G2 D2
    rw [eS, if_neg (fun h => no ⟨by simpa using h.1, h.2.1, h.2.2⟩)] at H
    exact H.2 rfl hp2 x (fr hp2 E2) ((G0.tr G1).tr G2) D2
theorem k35_5 (hd : 4 ≤ d) (hl : 3 ≤ hp.length) : ∀ (m i k : Nat) (hp1 : mm_H), i + m = 4 → k ≤ 100 → cD hp1 D (nI k) → cE (fun x => x = 1) hp hp1 → cG 0 hp hp1 → hp1.length = hp.length →
    ((∀ j, j < m → mc D (k + j) = [110, 117, 108, 108].getD (i + j) 0) → ∀ hp' q, hp.length ≤ q → cE (fun x => x = 1) hp hp' → cG 2 hp hp' → cD hp' D (nI (k + m)) → cSc hp' none q → Q (some (.ref q)) hp') →
    (¬ (∀ j, j < m → mc D (k + j) = [110, 117, 108, 108].getD (i + j) 0) → ∀ hp' x, cE (fun x => x = 1) hp hp' → cG 2 hp hp' → cD hp' D x → Q (some .null) hp') →
    mm_R X (d + 3) 35 5 [some (.ref 1), some (.retAddr 0), some (.int (nI i))] [] hp1 Q := by
  intro m
  induction m with
  | zero =>
    intro i k hp1 hi hk D1 E1 G1 L1 H1 H0
    have : i = 4 := by omega
    subst this
    refine w35_5 ⟨rfl, ⟨0, _, rfl, rfl, by omega, pk_le 4 4 (fun _ => k2 hd ?_) (fun h => absurd h (by omega))⟩⟩
    rintro q rfl
    refine ⟨_, rfl, Or.inr ⟨_, rfl⟩, H1 (fun j hj => absurd hj (by omega)) _ hp1.length (by omega) (E1.tr cE.app) ?_ ?_ ?_⟩
    · exact (G1.tr (c2_appG (by simp))).mono (by omega)
    · have h1 := L1 ▸ hl
      exact D1.eq (List.getElem?_append_left (by omega)) (List.getElem?_append_left (by omega))
    · refine ⟨0, [], c2_app0, ?_, fun h => absurd (show (0 : Nat) = 1 from h) (by decide), by simp⟩
      rw [c2_app1, List.append_nil]; rfl
  | succ m ih =>
    intro i k hp1 hi hk D1 E1 G1 L1 H1 H0
    have hi4 : i < [110, 117, 108, 108].length := by simp; omega
    have hml := mc_lt D1.1 k
    have hb : 0 < ([110, 117, 108, 108] : List Nat).getD i 0 ∧ ([110, 117, 108, 108] : List Nat).getD i 0 < 200 := by
      have : ∀ x ∈ ([110, 117, 108, 108] : List Nat), 0 < x ∧ x < 200 := by decide
      rw [List.getD_eq_getElem?_getD, List.getElem?_eq_getElem hi4]
      exact this _ (List.getElem_mem hi4)
    refine w35_5 ⟨rfl, ⟨0, _, rfl, rfl, by omega, pk_le 4 i (fun h => absurd h (by omega)) (fun _ => ⟨⟨1, _, rfl, D1.2.1⟩, k30 D1 (by omega) ⟨_, rfl, ⟨0, _, [110, 117, 108, 108].getD i 0, rfl, rfl, by omega, nI_pos' (by omega), ?_, pk_eq (mc D k) ([110, 117, 108, 108].getD i 0) (fun e => D1.gi (D1.pt ?_)) (fun e => ?_)⟩⟩⟩)⟩⟩
    · rw [nI_clamp (by omega), List.getD_eq_getElem?_getD, List.getElem?_eq_getElem hi4]; rfl
    · rw [nI_1]
      intro hp2 E2 G2 L2 D2
      have hk2 : k + 1 ≤ 100 := by
        have h60 := D1.1.1
        have := mc_ne (D := D) (k := k) (by omega)
        omega
      rw [nI_1]
      refine ih (i + 1) (k + 1) hp2 (by omega) hk2 D2 (E1.tr E2) (G1.tr G2) (by omega) ?_ ?_
      · intro a hp3 q hq E3 G3 D3 T3
        refine H1 (fun j hj => ?_) hp3 q hq E3 G3 (by rw [show k + (m + 1) = k + 1 + m by omega]; exact D3) T3
        cases j with
        | zero => exact e
        | succ j =>
          have := a j (by omega)
          rw [show k + (j + 1) = k + 1 + j by omega, show i + (j + 1) = i + 1 + j by omega]; exact this
      · intro no hp3 x E3 G3 D3
        refine H0 (fun a => no (fun j hj => ?_)) hp3 x E3 G3 D3
        have := a (j + 1) (by omega)
        rw [show k + (j + 1) = k + 1 + j by omega, show i + (j + 1) = i + 1 + j by omega] at this; exact this
    · exact H0 (fun a => e (a 0 (by omega))) hp1 _ E1 (G1.mono (by omega)) D1
theorem k35 {k : Nat} (hd : 4 ≤ d) (hD : cD hp D (nI k)) (hl : 3 ≤ hp.length) (hk : k ≤ 60) (hc : mc D k = 110) (H : cRd D hp ((pS D k).map (fun p => (.leaf p.1, p.2))) Q 2) : mm_R X (d + 3) 35 0 (mm_L0 35 [.ref 1]) [] hp Q := by
  have eS : pS D k = if mc D (k + 1) = 117 ∧ mc D (k + 2) = 108 ∧ mc D (k + 3) = 108 then some (none, k + 4) else none := by
    unfold pS; rw [if_pos hc]
  rw [eS] at H
  refine w35_0 (k35_5 hd hl 4 0 k hp rfl (by omega) hD cE.rf cG.rf rfl ?_ ?_)
  · intro a hp' q hq E G D' T
    rw [if_pos ⟨a 1 (by omega), a 2 (by omega), a 3 (by omega)⟩] at H
    exact H.1 _ _ rfl hp' q hq E G D' T
  · intro no hp' x E G D'
    rw [if_neg] at H
    · exact H.2 rfl hp' x E G D'
    · rintro ⟨b1, b2, b3⟩
      refine no (fun j hj => ?_)
      have : j = 0 ∨ j = 1 ∨ j = 2 ∨ j = 3 := by omega
      rcases this with rfl | rfl | rfl | rfl
      · exact hc
      · exact b1
      · exact b2
      · exact b3
end CDR
