/-! NESTED LISTS, row by row -/
def hd : List Nat → Nat → Nat → List mTk
  | [], _, _ => []
  | n :: us, l, k => (if k % (n * aPr us) = 0 then [(3, l, 0, [])] else []) ++ hd us (l + 1) k
theorem hd_per : ∀ (us : List Nat) (l i k : Nat), hd us l (i * aPr us + k) = hd us l k
  | [], _, _, _ => rfl
  | n :: us, l, i, k => by
    show (if (i * (n * aPr us) + k) % (n * aPr us) = 0 then _ else _) ++ hd us (l + 1) (i * (n * aPr us) + k) = _
    rw [Nat.mul_add_mod_self_right, ← Nat.mul_assoc, hd_per us (l + 1) (i * n) k]
    rfl
theorem aPr_pos : ∀ {us : List Nat}, (∀ n ∈ us, 0 < n) → 0 < aPr us
  | [], _ => Nat.one_pos
  | n :: us, h => Nat.mul_pos (h n (by simp)) (aPr_pos (fun x hx => h x (by simp [hx])))
theorem fl_mul {α : Type} (g : Nat → List α) (P : Nat) : ∀ n, ((List.range (n * P)).map g).flatten = ((List.range n).map (fun i => ((List.range P).map (fun k => g (i * P + k))).flatten)).flatten
  | 0 => by rw [Nat.zero_mul]; rfl
  | n + 1 => by
    rw [Nat.add_mul, Nat.one_mul, List.range_add, List.map_append, List.flatten_append, fl_mul g P n, List.range_succ, List.map_append, List.flatten_append, List.map_map]
    simp
    rfl
theorem fl_head {α : Type} (x : α) (g g' : Nat → List α) (h0 : g 0 = x :: g' 0) (h : ∀ k, 0 < k → g k = g' k) (M : Nat) (hM : 0 < M) : ((List.range M).map g).flatten = x :: ((List.range M).map g').flatten := by
  obtain ⟨m, rfl⟩ : ∃ m, M = m + 1 := ⟨M - 1, by omega⟩
  rw [List.range_succ_eq_map, List.map_cons, List.map_cons, List.flatten_cons, List.flatten_cons, h0, List.map_map, List.map_map]
  have : (List.range m).map (g ∘ Nat.succ) = (List.range m).map (g' ∘ Nat.succ) := by
    apply List.map_congr_left
    intro a _
    exact h _ (Nat.succ_pos a)
  rw [this]; rfl
theorem tk_ns (rs : Nat → mT) : ∀ (us : List Nat), (∀ n ∈ us, 0 < n) → ∀ (l o : Nat), mt_tk (aNs rs us o) l = ((List.range (aPr us)).map (fun k => hd us l k ++ mt_tk (rs (o + k)) (l + us.length))).flatten
  | [], _, l, o => by
    show mt_tk (rs o) l = ((List.range 1).map _).flatten
    simp [List.range_succ, hd]
  | n :: us, h, l, o => by
    have hu : ∀ m ∈ us, 0 < m := fun m hm => h m (by simp [hm])
    have hP := aPr_pos hu
    have hn : 0 < n := h n (by simp)
    have ih := tk_ns rs us hu
    show mt_tk (mt_mk _) l = ((List.range (n * aPr us)).map _).flatten
    rw [mt_tk_mk]
    have hlt : ∀ k, k < n * aPr us → 0 < k → ¬ k % (n * aPr us) = 0 := fun k h1 h2 e => by rw [Nat.mod_eq_of_lt h1] at e; omega
    have e1 : ((List.range (n * aPr us)).map (fun k => hd (n :: us) l k ++ mt_tk (rs (o + k)) (l + (n :: us).length))).flatten = (3, l, 0, []) :: ((List.range (n * aPr us)).map (fun k => hd us (l + 1) k ++ mt_tk (rs (o + k)) (l + 1 + us.length))).flatten := by
      have key := fl_head ((3, l, 0, []) : mTk) (fun k => if k < n * aPr us then hd (n :: us) l k ++ mt_tk (rs (o + k)) (l + (n :: us).length) else hd us (l + 1) k ++ mt_tk (rs (o + k)) (l + 1 + us.length)) (fun k => hd us (l + 1) k ++ mt_tk (rs (o + k)) (l + 1 + us.length)) ?_ ?_ (n * aPr us) (Nat.mul_pos hn hP)
      · rw [← key]
        congr 1
        apply List.map_congr_left
        intro k hk
        rw [if_pos (List.mem_range.mp hk)]
      · rw [if_pos (Nat.mul_pos hn hP)]
        show ((if 0 % (n * aPr us) = 0 then [((3, l, 0, []) : mTk)] else []) ++ hd us (l + 1) 0) ++ mt_tk (rs (o + 0)) (l + (us.length + 1)) = _
        rw [if_pos (Nat.zero_mod _), show l + (us.length + 1) = l + 1 + us.length by omega]; rfl
      · intro k hk
        split
        · rename_i hlt'
          show ((if k % (n * aPr us) = 0 then [((3, l, 0, []) : mTk)] else []) ++ hd us (l + 1) k) ++ mt_tk (rs (o + k)) (l + (us.length + 1)) = _
          rw [if_neg (hlt k hlt' hk), show l + (us.length + 1) = l + 1 + us.length by omega]; rfl
        · rfl
    rw [e1, fl_mul]
    congr 1
    unfold mt_tks
    rw [List.map_map]
    congr 1
    apply List.map_congr_left
    intro i _
    show mt_tk (aNs rs us (o + i * aPr us)) (l + 1) = _
    rw [ih (l + 1) (o + i * aPr us)]
    congr 1
    apply List.map_congr_left
    intro k _
    rw [hd_per, Nat.add_assoc o]
theorem ns_zero (rs : Nat → mT) (rest : List Nat) : ∀ (us : List Nat) (o o' : Nat), aNs rs (us ++ 0 :: rest) o = aNs (fun _ => mt_mk []) us o'
  | [], o, o' => rfl
  | n :: us, o, o' => by
    show mt_mk ((List.range n).map (fun i => aNs rs (us ++ 0 :: rest) _)) = mt_mk ((List.range n).map (fun i => aNs (fun _ => mt_mk []) us _))
    congr 1
    apply List.map_congr_left
    intro i _
    exact ns_zero rs rest us _ _
/-- how many lists there are -/
def lM : List Nat → Nat
  | [] => 0
  | n :: us => 1 + n * lM us
theorem rows_ns {rs : Nat → mT} {c : Nat} (hc : ∀ i, (mt_tk (rs i) 0).length ≤ c) : ∀ (us : List Nat) (o l : Nat), (mt_tk (aNs rs us o) l).length ≤ lM us + c * aPr us
  | [], o, l => by
    show (mt_tk (rs o) l).length ≤ 0 + c * 1
    rw [mt_tk_ln _ l 0]; have := hc o; omega
  | n :: us, o, l => by
    show (mt_tk (mt_mk _) l).length ≤ (1 + n * lM us) + c * (n * aPr us)
    rw [mt_tk_mk, List.length_cons]
    have key : ∀ (xs : List Nat), (mt_tks (xs.map (fun i => aNs rs us (o + i * aPr us))) (l + 1)).length ≤ xs.length * (lM us + c * aPr us) := by
      intro xs
      induction xs with
      | nil => exact Nat.zero_le _
      | cons x xs ih =>
        rw [List.map_cons, mt_tks_cons, List.length_append, List.length_cons, Nat.add_mul]
        have := rows_ns hc us (o + x * aPr us) (l + 1)
        omega
    have := key (List.range n)
    rw [List.length_range] at this
    have e : n * (lM us + c * aPr us) = n * lM us + c * (n * aPr us) := by rw [Nat.mul_add, Nat.mul_left_comm]
    omega
theorem dp_ns {rs : Nat → mT} {n : Nat} {us : List Nat} {o : Nat} (h : 0 < n) : mt_dp (aNs rs us o) + 1 ≤ mt_dp (aNs rs (n :: us) o) := by
  show _ ≤ mt_dp (mt_mk _)
  refine mt_dp_el (mt_isL_mk _) ?_
  rw [mt_els_mk]
  refine List.mem_map.mpr ⟨0, List.mem_range.mpr h, ?_⟩
  rw [Nat.zero_mul, Nat.add_zero]
theorem dp_ns1 {rs : Nat → mT} {n : Nat} {us : List Nat} {o : Nat} : 1 ≤ mt_dp (aNs rs (n :: us) o) := by
  show _ ≤ mt_dp (mt_mk _)
  rw [mt_dp_mk]; omega
/-- the first of the counts -/
def nF : List Nat → Nat → Nat → Nat → Nat × Nat × Nat
  | [], L, a, t => (L, a, t)
  | n :: ns, L, a, t => if 0 < a then nF ns (L + 1) (a * n) (if 0 < a * n then a * n else t) else nF ns L a t
theorem nF_0 : ∀ (ns : List Nat) (L t : Nat), nF ns L 0 t = (L, 0, t)
  | [], _, _ => rfl
  | n :: ns, L, t => by show (if 0 < 0 then _ else nF ns L 0 t) = _; rw [if_neg (Nat.lt_irrefl _), nF_0 ns L t]
theorem nF_pos : ∀ (ns : List Nat) (L a : Nat), 0 < a → (∀ n ∈ ns, 0 < n) → nF ns L a a = (L + ns.length, a * aPr ns, a * aPr ns)
  | [], L, a, _, _ => by show (L, a, a) = (L + 0, a * 1, a * 1); rw [Nat.mul_one]; rfl
  | n :: ns, L, a, ha, h => by
    have hn := h n (by simp)
    have hm : 0 < a * n := Nat.mul_pos ha hn
    show (if 0 < a then nF ns (L + 1) (a * n) (if 0 < a * n then a * n else a) else _) = (L + (ns.length + 1), a * (n * aPr ns), a * (n * aPr ns))
    rw [if_pos ha, if_pos hm, nF_pos ns (L + 1) (a * n) hm (fun x hx => h x (by simp [hx])), Nat.mul_assoc, show L + 1 + ns.length = L + (ns.length + 1) by omega]
theorem nF_zero (rest : List Nat) : ∀ (us : List Nat) (L a : Nat), 0 < a → (∀ n ∈ us, 0 < n) → nF (us ++ 0 :: rest) L a a = (L + us.length + 1, 0, a * aPr us)
  | [], L, a, ha, _ => by
    show (if 0 < a then nF rest (L + 1) (a * 0) (if 0 < a * 0 then a * 0 else a) else _) = (L + 0 + 1, 0, a * 1)
    rw [if_pos ha, Nat.mul_zero, if_neg (Nat.lt_irrefl _), nF_0, Nat.mul_one]
  | n :: us, L, a, ha, h => by
    have hn := h n (by simp)
    have hm : 0 < a * n := Nat.mul_pos ha hn
    show (if 0 < a then nF (us ++ 0 :: rest) (L + 1) (a * n) (if 0 < a * n then a * n else a) else _) = (L + (us.length + 1) + 1, 0, a * (n * aPr us))
    rw [if_pos ha, if_pos hm, nF_zero rest us (L + 1) (a * n) hm (fun x hx => h x (by simp [hx])), Nat.mul_assoc, show L + 1 + us.length + 1 = L + (us.length + 1) + 1 by omega]
theorem pos_or_zero : ∀ (lv : List Nat), (∀ n ∈ lv, 0 < n) ∨ ∃ us rest, lv = us ++ 0 :: rest ∧ ∀ n ∈ us, 0 < n
  | [] => Or.inl (fun n hn => nomatch hn)
  | n :: lv => by
    rcases Nat.eq_zero_or_pos n with h | h
    · subst h
      exact Or.inr ⟨[], lv, rfl, fun n hn => nomatch hn⟩
    · rcases pos_or_zero lv with g | ⟨us, rest, g1, g2⟩
      · left
        intro m hm
        rcases List.mem_cons.mp hm with e | e
        · rw [e]; exact h
        · exact g m e
      · right
        refine ⟨n :: us, rest, by rw [g1]; rfl, fun m hm => ?_⟩
        rcases List.mem_cons.mp hm with e | e
        · rw [e]; exact h
        · exact g2 m e
/-- the divisor of level l -/
def uP (l full : Nat) : Nat → List Nat → Nat
  | _, [] => 1
  | i, n :: ns => (if l ≤ i ∧ i < full then n else 1) * uP l full (i + 1) ns
theorem uP_ge (l full : Nat) : ∀ (ns : List Nat) (i : Nat), full ≤ i → uP l full i ns = 1
  | [], _, _ => rfl
  | n :: ns, i, h => by
    show (if l ≤ i ∧ i < full then n else 1) * uP l full (i + 1) ns = 1
    rw [if_neg (by omega), uP_ge l full ns (i + 1) (by omega)]
theorem uP_in (l full : Nat) : ∀ (ns : List Nat) (i : Nat), l ≤ i → uP l full i ns = aPr (ns.take (full - i))
  | [], i, _ => by rw [List.take_nil]; rfl
  | n :: ns, i, h => by
    rcases Nat.lt_or_ge i full with g | g
    · obtain ⟨m, em⟩ : ∃ m, full - i = m + 1 := ⟨full - i - 1, by omega⟩
      show (if l ≤ i ∧ i < full then n else 1) * uP l full (i + 1) ns = _
      rw [if_pos ⟨h, g⟩, uP_in l full ns (i + 1) (by omega), em, List.take_succ_cons, show full - (i + 1) = m by omega]
      rfl
    · rw [uP_ge l full _ i g, show full - i = 0 by omega]; rfl
theorem uP_eq (l full : Nat) : ∀ (ns : List Nat) (i : Nat), i ≤ l → uP l full i ns = aPr ((ns.take (full - i)).drop (l - i))
  | [], i, _ => by rw [List.take_nil, List.drop_nil]; rfl
  | n :: ns, i, h => by
    rcases Nat.lt_or_ge i l with g | g
    · show (if l ≤ i ∧ i < full then n else 1) * uP l full (i + 1) ns = _
      rw [if_neg (by omega), Nat.one_mul, uP_eq l full ns (i + 1) (by omega)]
      rcases Nat.lt_or_ge i full with f | f
      · obtain ⟨m, em⟩ : ∃ m, full - i = m + 1 := ⟨full - i - 1, by omega⟩
        obtain ⟨k, ek⟩ : ∃ k, l - i = k + 1 := ⟨l - i - 1, by omega⟩
        rw [em, ek, List.take_succ_cons, List.drop_succ_cons, show full - (i + 1) = m by omega, show l - (i + 1) = k by omega]
      · rw [show full - i = 0 by omega, show full - (i + 1) = 0 by omega]
        simp
    · have e : l = i := by omega
      subst e
      rw [uP_in l full (n :: ns) l (Nat.le_refl _), Nat.sub_self, List.drop_zero]
/-- the heads of row k, level by level -/
def hF (lv : List Nat) (full k l m : Nat) : List mTk := ((List.range' l m).map (fun l => if k % uP l full 0 lv = 0 then [((3, l, 0, []) : mTk)] else [])).flatten
theorem hd_eq (k : Nat) : ∀ (us : List Nat) (l : Nat), hd us l k = ((List.range us.length).map (fun i => if k % aPr (us.drop i) = 0 then [((3, l + i, 0, []) : mTk)] else [])).flatten
  | [], l => rfl
  | n :: us, l => by
    show (if k % (n * aPr us) = 0 then _ else _) ++ hd us (l + 1) k = ((List.range (us.length + 1)).map _).flatten
    rw [List.range_succ_eq_map, List.map_cons, List.flatten_cons, List.map_map, hd_eq k us (l + 1)]
    congr 1
    congr 1
    apply List.map_congr_left
    intro i _
    show _ = (if k % aPr ((n :: us).drop (i + 1)) = 0 then [((3, l + (i + 1), 0, []) : mTk)] else [])
    rw [List.drop_succ_cons, show l + (i + 1) = l + 1 + i by omega]
theorem hF_pos (lv : List Nat) (k : Nat) : hF lv lv.length k 0 lv.length = hd lv 0 k := by
  unfold hF
  rw [hd_eq, ← List.range_eq_range']
  congr 1
  apply List.map_congr_left
  intro i _
  rw [uP_eq i lv.length lv 0 (Nat.zero_le _), Nat.sub_zero, Nat.sub_zero, List.take_length, Nat.zero_add]
theorem hF_zero (us rest : List Nat) (k : Nat) : hF (us ++ 0 :: rest) us.length k 0 (us.length + 1) = hd us 0 k ++ [((3, us.length, 0, []) : mTk)] := by
  unfold hF
  rw [hd_eq, ← List.range_eq_range', List.range_succ, List.map_append, List.flatten_append]
  congr 1
  · congr 1
    apply List.map_congr_left
    intro i hi
    have hi := List.mem_range.mp hi
    rw [uP_eq i us.length _ 0 (Nat.zero_le _), Nat.sub_zero, Nat.sub_zero, List.take_left, Nat.zero_add]
  · have : uP us.length us.length 0 (us ++ 0 :: rest) = 1 := by
      rw [uP_eq _ _ _ 0 (Nat.zero_le _), Nat.sub_zero, List.take_left, List.drop_length]; rfl
    simp [this, Nat.mod_one]
