/-! PORT: the order of the ports -/
section OPO
variable {X : List Int32} {t d : Nat} {hp : mm_H} {Q : Option Value → mm_H → Prop}
def bkt (ps : List (Int32 × Nat × Nat)) (i : Nat) : List Nat := (List.range ps.length).filter (fun p => (ps.getD p (0, 0, 0)).1 == nI i - 9)
def ordA (ps : List (Int32 × Nat × Nat)) (i0 : Nat) : List Nat := ((List.range (i0 + 1)).map (bkt ps)).flatten
def ordB (ps : List (Int32 × Nat × Nat)) (i0 : Nat) : List Nat := ((List.range (18 - i0)).map (fun i => bkt ps (i0 + 1 + i))).flatten
theorem aOrd_split {ps : List (Int32 × Nat × Nat)} {i0 : Nat} (h : i0 ≤ 18) : aOrd ps = ordA ps i0 ++ ordB ps i0 := by
  show ((List.range 19).map (bkt ps)).flatten = _
  have e : List.range 19 = List.range (i0 + 1) ++ (List.range (18 - i0)).map (fun i => i0 + 1 + i) := by
    rw [← List.range_add, show i0 + 1 + (18 - i0) = 19 by omega]
  rw [e, List.map_append, List.flatten_append, List.map_map]
  rfl
theorem pl_inj : ∀ i, i < 19 → ∀ j, j < 19 → ((nI i - 9 = nI j - 9 ↔ i = j) ∧ (nI i - 9 ≤ nI j - 9 ↔ i ≤ j)) := by decide
theorem bkt_snoc {ps : List (Int32 × Nat × Nat)} {x : Int32 × Nat × Nat} {i0 i : Nat} (h0 : i0 < 19) (hi : i < 19) (hx : x.1 = nI i0 - 9) : bkt (ps ++ [x]) i = bkt ps i ++ (if i = i0 then [ps.length] else []) := by
  unfold bkt
  rw [List.length_append, List.length_singleton, List.range_succ, List.filter_append]
  congr 1
  · apply List.filter_congr
    intro p hp
    have hp := List.mem_range.mp hp
    rw [getD_snoc, if_neg (by omega)]
  · rw [List.filter_cons, getD_snoc, if_pos rfl, List.filter_nil, hx]
    by_cases e : i = i0
    · subst e; rw [if_pos rfl, if_pos (by rw [beq_self_eq_true])]
    · rw [if_neg e, if_neg]
      rw [beq_iff_eq]
      exact fun z => e ((pl_inj i0 h0 i hi).1.mp z).symm
theorem aOrd_snoc {ps : List (Int32 × Nat × Nat)} {x : Int32 × Nat × Nat} {i0 : Nat} (h0 : i0 ≤ 18) (hx : x.1 = nI i0 - 9) : aOrd (ps ++ [x]) = ordA ps i0 ++ ps.length :: ordB ps i0 := by
  rw [aOrd_split h0]
  have eA : ordA (ps ++ [x]) i0 = ordA ps i0 ++ [ps.length] := by
    unfold ordA
    rw [List.range_succ, List.map_append, List.map_append, List.flatten_append, List.flatten_append]
    have : (List.range i0).map (bkt (ps ++ [x])) = (List.range i0).map (bkt ps) := by
      apply List.map_congr_left
      intro i hi
      have := List.mem_range.mp hi
      rw [bkt_snoc (by omega) (by omega) hx, if_neg (by omega), List.append_nil]
    rw [this]
    show _ ++ [bkt (ps ++ [x]) i0].flatten = (_ ++ [bkt ps i0].flatten) ++ [ps.length]
    rw [List.flatten_singleton, List.flatten_singleton, bkt_snoc (by omega) (by omega) hx, if_pos rfl, List.append_assoc]
  have eB : ordB (ps ++ [x]) i0 = ordB ps i0 := by
    unfold ordB
    congr 1
    apply List.map_congr_left
    intro i hi
    have := List.mem_range.mp hi
    rw [bkt_snoc (by omega) (by omega) hx, if_neg (by omega), List.append_nil]
  rw [eA, eB, List.append_assoc]; rfl
theorem bkt_mem {ps : List (Int32 × Nat × Nat)} {i p : Nat} (h : p ∈ bkt ps i) : p < ps.length ∧ (ps.getD p (0, 0, 0)).1 = nI i - 9 := by
  obtain ⟨a, b⟩ := List.mem_filter.mp h
  exact ⟨List.mem_range.mp a, beq_iff_eq.mp b⟩
theorem ordA_mem {ps : List (Int32 × Nat × Nat)} {i0 p : Nat} (h : p ∈ ordA ps i0) : p < ps.length ∧ ∃ i, i ≤ i0 ∧ (ps.getD p (0, 0, 0)).1 = nI i - 9 := by
  obtain ⟨l, h1, h2⟩ := List.mem_flatten.mp h
  obtain ⟨i, h3, rfl⟩ := List.mem_map.mp h1
  have := List.mem_range.mp h3
  exact ⟨(bkt_mem h2).1, i, by omega, (bkt_mem h2).2⟩
theorem ordB_mem {ps : List (Int32 × Nat × Nat)} {i0 p : Nat} (h : p ∈ ordB ps i0) : p < ps.length ∧ ∃ i, i0 < i ∧ i < 19 ∧ (ps.getD p (0, 0, 0)).1 = nI i - 9 := by
  obtain ⟨l, h1, h2⟩ := List.mem_flatten.mp h
  obtain ⟨i, h3, rfl⟩ := List.mem_map.mp h1
  have := List.mem_range.mp h3
  exact ⟨(bkt_mem h2).1, i0 + 1 + i, by omega, by omega, (bkt_mem h2).2⟩
def wTo (r x : Nat) : Prop := r ≤ x ∧ x ≤ r + 4
theorem k19_16 {r n i0 : Nat} {to : mTo} {i2 i3 : Int32} {vs j1 : List Value} {A B : List Nat} (h0 : hp[r]? = some (6, [.int (nI to.1), .ref (r + 1), .ref (r + 2), .ref (r + 3), .ref (r + 4), .int (nI to.2.length)])) (h1 : hp[r + 1]? = some (1000, to.2.map (fun x => .int x.1) ++ j1)) (hn : n = to.2.length) (hn4 : n < 4) (hi0 : i0 ≤ 18) (hAB : A.length + B.length = n) (hA : ∀ p ∈ A, p < n ∧ ∃ i, i ≤ i0 ∧ (to.2.getD p (0, 0, 0)).1 = nI i - 9) (hB : ∀ p ∈ B, p < n ∧ ∃ i, i0 < i ∧ i < 19 ∧ (to.2.getD p (0, 0, 0)).1 = nI i - 9)
    (H : ∀ hp' L, cE (fun x => x = r + 4) hp hp' → cH 0 0 hp hp' → hp'[r + 4]? = some (1000, L) → L.length = 4 → (∀ i, i < A.length → L[i]? = (A[i]?).map mI) → (∀ i, A.length < i → i ≤ n → L[i]? = (B[i - 1 - A.length]?).map mI) → (∀ i, n < i → i < 4 → L[i]? = some (.int 0)) → mm_R X (d + 1) 19 61 [some (.ref r), some (.int (nI i0 - 9)), some (.int i2), some (.int i3), some (.int (nI A.length))] [] hp' Q) : ∀ (m : Nat) (hp' : mm_H) (L : List Value), m ≤ B.length → cE (fun x => x = r + 4) hp hp' → cH 0 0 hp hp' → hp'[r + 4]? = some (1000, L) → L.length = 4 → (∀ i, i < A.length + m → L[i]? = ((A ++ B)[i]?).map mI) → (∀ i, A.length + m < i → i ≤ n → L[i]? = ((A ++ B)[i - 1]?).map mI) → (∀ i, n < i → i < 4 → L[i]? = some (.int 0)) →
    mm_R X (d + 1) 19 16 [some (.ref r), some (.int (nI i0 - 9)), some (.int i2), some (.int i3), some (.int (nI (A.length + m)))] [] hp' Q := by
  have rd : ∀ {hp' : mm_H} {L : List Value} {j p : Nat} {K : Int32 → Prop}, cE (fun x => x = r + 4) hp hp' → hp'[r + 4]? = some (1000, L) → 0 < j → j ≤ 4 → L[j - 1]? = some (mI p) → p < n → K (to.2.getD p (0, 0, 0)).1 → mw_gv 6 1 (.ref r) hp' (fun v1 => mw_gv 6 4 (.ref r) hp' (fun v2 => mw_ai 1000 v2 (nI j - 1) hp' (fun x3 => mw_ai 1000 v1 x3 hp' K))) := by
    intro hp' L j p K F h4 hj hj4 hL hp HK
    have g0 := F.at h0 (by omega)
    have g1 := F.at h1 (by omega)
    refine ⟨_, _, _, rfl, g0, rfl, _, _, _, rfl, g0, rfl, mw_air h4 hL (by rw [show (1 : Int32) = nI 1 from rfl, pk_sub hj]) (by omega) (mw_air g1 ?_ rfl (by omega) HK)⟩
    rw [List.getElem?_append_left (by rw [List.length_map]; omega), List.getElem?_map, List.getElem?_eq_getElem (by omega), List.getD_eq_getElem?_getD, List.getElem?_eq_getElem (by omega)]
    rfl
  intro m
  induction m with
  | zero =>
    intro hp' L hm F G h4 hL l1 l2 l3
    have fin := H hp' L F G h4 hL (fun i hi => by rw [l1 i (by omega), List.getElem?_append_left hi]) (fun i hi hn' => by rw [l2 i (by omega) hn', List.getElem?_append_right (by omega)]) l3
    refine w19_16 (pk_le (A.length + 0) 0 (fun _ => fin) (fun g => ?_))
    obtain ⟨a, ha⟩ : ∃ a, A[A.length - 1]? = some a := ⟨_, List.getElem?_eq_getElem (by omega)⟩
    have hLa : L[A.length + 0 - 1]? = some (mI a) := by
      rw [l1 _ (by omega), List.getElem?_append_left (by omega), Nat.add_zero, ha]; rfl
    obtain ⟨p1, i, p2, p3⟩ := hA a (List.mem_of_getElem? ha)
    obtain ⟨x1, v1, y1, e1, e2, e3, x2, v2, y2, e4, e5, e6, x3, v3, y3, e7, e8, e9, e10, x4, v4, y4, e11, e12, e13, e14, e15⟩ := rd (K := fun z => z = nI i - 9) F h4 (j := A.length + 0) g (by omega) hLa p1 p3
    refine ⟨x1, v1, y1, e1, e2, e3, x2, v2, y2, e4, e5, e6, x3, v3, y3, e7, e8, e9, e10, x4, v4, y4, e11, e12, e13, e14, ?_⟩
    rw [e15]
    exact ⟨fun _ => fin, fun z => absurd ((pl_inj i (by omega) i0 (by omega)).2.mpr p2) z⟩
  | succ m ih =>
    intro hp' L hm F G h4 hL l1 l2 l3
    refine w19_16 (pk_le (A.length + (m + 1)) 0 (fun g => absurd g (by omega)) (fun g => ?_))
    obtain ⟨b, hb⟩ : ∃ b, B[m]? = some b := ⟨_, List.getElem?_eq_getElem (by omega)⟩
    have hab : (A ++ B)[A.length + m]? = some b := by rw [List.getElem?_append_right (by omega), Nat.add_sub_cancel_left]; exact hb
    have hLb : L[A.length + (m + 1) - 1]? = some (mI b) := by
      rw [show A.length + (m + 1) - 1 = A.length + m by omega, l1 _ (by omega), hab]; rfl
    obtain ⟨p1, i, p2, p2', p3⟩ := hB b (List.mem_of_getElem? hb)
    obtain ⟨x1, v1, y1, e1, e2, e3, x2, v2, y2, e4, e5, e6, x3, v3, y3, e7, e8, e9, e10, x4, v4, y4, e11, e12, e13, e14, e15⟩ := rd (K := fun z => z = nI i - 9) F h4 (j := A.length + (m + 1)) g (by omega) hLb p1 p3
    refine ⟨x1, v1, y1, e1, e2, e3, x2, v2, y2, e4, e5, e6, x3, v3, y3, e7, e8, e9, e10, x4, v4, y4, e11, e12, e13, e14, ?_⟩
    rw [e15]
    refine ⟨fun z => absurd ((pl_inj i (by omega) i0 (by omega)).2.mp z) (by omega), fun _ => ?_⟩
    have g0 := F.at h0 (by omega)
    have l4 := (List.getElem?_eq_some_iff.mp h4).1
    refine ⟨_, _, _, rfl, g0, rfl, _, _, _, rfl, g0, rfl, mw_air h4 hLb (by rw [show (1 : Int32) = nI 1 from rfl, pk_sub (by omega)]) (by omega) ?_⟩
    refine ⟨_, _, rfl, h4, nI_pos' (by omega), by rw [nI_clamp (by omega), hL]; omega, rfl, ?_⟩
    rw [nI_clamp (by omega), show A.length + (m + 1) = (A.length + m) + 1 by omega, pk_m1]
    refine ih _ (L.set (A.length + m + 1) (.int (nI b))) (by omega) (F.tr (cE.set rfl)) ?_ (List.getElem?_set_self l4) (by rw [List.length_set]; exact hL) (fun k hk => ?_) (fun k hk hk' => ?_) (fun k hk hk' => ?_)
    · exact cH.mono (G.tr (cH_set h4 (by rw [List.length_set]))) (by omega) (by omega)
    · rw [List.getElem?_set_ne (by omega)]; exact l1 k (by omega)
    · by_cases e : k = A.length + m + 1
      · subst e
        rw [List.getElem?_set_self (by omega), Nat.add_sub_cancel, hab]; rfl
      · rw [List.getElem?_set_ne (fun z => e z.symm)]; exact l2 k (by omega) hk'
    · rw [List.getElem?_set_ne (by omega)]; exact l3 k hk hk'
end OPO
