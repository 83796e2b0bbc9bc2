/-! NUMBERS, and good values -/
def mt_ds (m v : Nat) : List Nat := (List.range m).map (fun i => 48 + v / 10 ^ (m - 1 - i) % 10)
theorem mt_dg_ds (n : Nat) : mt_dg n = mt_ds (mt_nd n) n := rfl
theorem mt_ds_succ (m v : Nat) : mt_ds (m + 1) v = mt_ds m (v / 10) ++ [48 + v % 10] := by
  unfold mt_ds
  rw [List.range_succ, List.map_append]
  congr 1
  · apply List.map_congr_left
    intro i hi
    have := List.mem_range.mp hi
    rw [Nat.div_div_eq_div_mul, show m + 1 - 1 - i = (m - 1 - i) + 1 by omega, Nat.pow_succ, Nat.mul_comm]
  · simp
theorem mt_ds_len (m v : Nat) : (mt_ds m v).length = m := by simp [mt_ds]
theorem mt_nd_le (v : Nat) : 1 ≤ mt_nd v ∧ mt_nd v ≤ 6 := by
  unfold mt_nd
  repeat (split; omega)
  omega
def mt_fl (f : Nat) : Nat → Nat → List Value → List Value
  | 0, _, cs => cs
  | m + 1, v, cs => mt_fl f m (v / 10) (cs.set (f + m) (mI (48 + v % 10)))
theorem mt_fl_e (f : Nat) : ∀ (m v : Nat) (A B C : List Value), A.length = f → B.length = m → mt_fl f m v (A ++ (B ++ C)) = A ++ ((mt_ds m v).map mI ++ C)
  | 0, v, A, B, C, hA, hB => by
    rw [List.length_eq_zero_iff] at hB
    subst hB
    rfl
  | m + 1, v, A, B, C, hA, hB => by
    obtain ⟨b, hb⟩ := List.length_eq_one_iff.mp (show (B.drop m).length = 1 by simp; omega)
    have e : B = B.take m ++ [b] := by rw [← hb, List.take_append_drop]
    have hl : (B.take m).length = m := by simp; omega
    rw [mt_fl, e, List.append_assoc, ← hA, List.set_append_right _ _ (by omega), show A.length + m - A.length = m by omega, List.set_append_right _ _ (by omega)]
    rw [hl, Nat.sub_self]
    simp only [List.cons_append, List.nil_append, List.set_cons_zero]
    rw [mt_fl_e A.length m (v / 10) A (B.take m) _ rfl hl, mt_ds_succ]
    simp
theorem mn_pos {n : Int32} (h : 0 ≤ n) : n = nI n.toInt.natAbs := by
  apply Int32.toInt_inj.mp
  have h0 := Int32.le_iff_toInt_le.mp h
  have h1 : (0 : Int32).toInt = 0 := by decide
  have h2 := Int32.toInt_lt n
  rw [nI_toInt (by omega)]
  omega
theorem mn_neg {n : Int32} (h : ¬ 0 ≤ n) (hb : -999999 ≤ n) : -n = nI n.toInt.natAbs := by
  apply Int32.toInt_inj.mp
  have h0 : ¬ (0 : Int32).toInt ≤ n.toInt := fun e => h (Int32.le_iff_toInt_le.mpr e)
  have h1 : (0 : Int32).toInt = 0 := by decide
  have h2 := Int32.le_iff_toInt_le.mp hb
  have h3 : (-999999 : Int32).toInt = -999999 := by decide
  have e : (-n).toInt = - n.toInt := by
    rw [Int32.toInt_neg]
    apply Int.bmod_eq_of_le <;> omega
  rw [nI_toInt (by omega), e]
  omega
theorem mn_abs {n : Int32} (h1 : -999999 ≤ n) (h2 : n ≤ 999999) : n.toInt.natAbs ≤ 999999 := by
  have a := Int32.le_iff_toInt_le.mp h1
  have b := Int32.le_iff_toInt_le.mp h2
  have h3 : (-999999 : Int32).toInt = -999999 := by decide
  have h4 : (999999 : Int32).toInt = 999999 := by decide
  omega
section CNUM
variable {X : List Int32} {d : Nat} {hp : mm_H} {Q : Option Value → mm_H → Prop} {S : Nat → Prop}
theorem k40_128 {r f : Nat} {i1 i3 : Int32} {v2 v3 v4 v5 v6 : Value} (hl : r + 1 < hp.length) (hf : f = 0 ∨ f = 1) : ∀ (m v : Nat) (cs : List Value), f + m ≤ cs.length → cs.length ≤ 100 → v < 2 ^ 31 → Q (some (.int 1)) (c2 hp r (2, [.ref (r + 1), .null, v2, v3, v4, v5, v6]) (1001, mt_fl f m v cs)) → mm_R X (d + 1) 40 128 [some (.ref r), some (.int i1), some (.int (nI v)), some (.int i3), some (.int (nI f)), some (.int (nI (f + m) - 1))] [] (c2 hp r (2, [.ref (r + 1), .null, v2, v3, v4, v5, v6]) (1001, cs)) Q := by
  intro m
  induction m with
  | zero =>
    intro v cs h1 h2 h3 H
    refine w40_128 ⟨fun _ => H, fun h => absurd ?_ h⟩
    rcases hf with rfl | rfl <;> decide
  | succ m ih =>
    intro v cs h1 h2 h3 H
    rw [show f + (m + 1) = (f + m) + 1 by omega, nI_pred]
    refine w40_128 (pk_lt (f + m) f (fun h => absurd h (by omega)) (fun _ => c2_gv hl rfl ?_))
    have ec : ((Int32.toUInt32 ((48 : Int32) + (nI v - nI v / (10 : Int32) * (10 : Int32)))) % 65536).toInt32 = nI (48 + v % 10) := by
      rw [show (10 : Int32) = nI 10 from rfl, pk_rem h3 (by decide) (by decide), show (48 : Int32) = nI 48 from rfl, nI_add, m_ch (by omega)]
    rw [ec]
    refine c2_si hl (by omega) (by omega) (m_fc (m_cb (by omega))) ?_
    rw [show (10 : Int32) = nI 10 from rfl, pk_div h3 (by decide) (by decide), show nI (f + m) + (-1 : Int32) = nI (f + m) - 1 from (Int32.sub_eq_add_neg _ _).symm]
    exact ih (v / 10) _ (by rw [List.length_set]; omega) (by rw [List.length_set]; omega) (by omega) H
theorem k40_68 {r v : Nat} {i1 : Int32} (hv : v ≤ 999999) (H : ∀ i3 i4, i3 = nI (mt_nd v) → ((0 ≤ i1 → mm_R X (d + 1) 40 102 [some (.ref r), some (.int i1), some (.int (nI v)), some (.int i3), some (.int i4), none] [.int 0] hp Q) ∧ (¬ 0 ≤ i1 → mm_R X (d + 1) 40 102 [some (.ref r), some (.int i1), some (.int (nI v)), some (.int i3), some (.int i4), none] [.int 1] hp Q))) : mm_R X (d + 1) 40 68 [some (.ref r), some (.int i1), some (.int (nI v)), some (.int 1), some (.int 10), none] [] hp Q := by
  refine w40_68 ⟨fun h => absurd h (by decide), fun _ => pk_lt v 10 (fun h => H _ _ ?_) (fun h1 => ?_)⟩
  · unfold mt_nd; rw [if_pos h]; rfl
  refine w40_68 ⟨fun h => absurd h (by decide), fun _ => pk_lt v 100 (fun h => H _ _ ?_) (fun h2 => ?_)⟩
  · unfold mt_nd; rw [if_neg (by omega), if_pos h]; rfl
  refine w40_68 ⟨fun h => absurd h (by decide), fun _ => pk_lt v 1000 (fun h => H _ _ ?_) (fun h3 => ?_)⟩
  · unfold mt_nd; rw [if_neg (by omega), if_neg (by omega), if_pos h]; rfl
  refine w40_68 ⟨fun h => absurd h (by decide), fun _ => pk_lt v 10000 (fun h => H _ _ ?_) (fun h4 => ?_)⟩
  · unfold mt_nd; rw [if_neg (by omega), if_neg (by omega), if_neg (by omega), if_pos h]; rfl
  refine w40_68 ⟨fun h => absurd h (by decide), fun _ => pk_lt v 100000 (fun h => H _ _ ?_) (fun h5 => ?_)⟩
  · unfold mt_nd; rw [if_neg (by omega), if_neg (by omega), if_neg (by omega), if_neg (by omega), if_pos h]; rfl
  refine w40_68 ⟨fun h => H _ _ ?_, fun h => absurd (by decide) h⟩
  unfold mt_nd; rw [if_neg (by omega), if_neg (by omega), if_neg (by omega), if_neg (by omega), if_neg (by omega)]; rfl
/-- becomeNumber -/
theorem k40 {r : Nat} {v2 v3 v4 v5 v6 : Value} {cs : List Value} {n : Int32} (h : hp[r]? = some (2, [.ref (r + 1), .null, v2, v3, v4, v5, v6])) (h' : hp[r + 1]? = some (1001, cs)) (hc : 7 ≤ cs.length) (hb : cs.length ≤ 30) (n1 : -999999 ≤ n) (n2 : n ≤ 999999)
    (H : ∀ junk, junk.length + (mt_nf n).length = cs.length → Q (some (.int 1)) (c2 hp r (2, [.ref (r + 1), .null, .int 1, .int n, .int 0, .int 0, .int (nI (mt_nf n).length)]) (1001, (mt_nf n).map mI ++ junk))) : mm_R X (d + 1) 40 0 (mm_L0 40 [.ref r, .int n]) [] hp Q := by
  have hl : r + 1 < hp.length := (List.getElem?_eq_some_iff.mp h').1
  have ha := mn_abs n1 n2
  obtain ⟨nd1, nd6⟩ := mt_nd_le n.toInt.natAbs
  have key : mm_R X (d + 1) 40 0 (mm_L0 40 [.ref r, .int n]) [] (c2 hp r (2, [.ref (r + 1), .null, v2, v3, v4, v5, v6]) (1001, cs)) Q := by
    refine w40_0 (c2_gv hl rfl (Or.inr ⟨⟨_, rfl⟩, c2_gv hl rfl (c2_ln hl ⟨by decide, rfl⟩ (pk_lt cs.length 7 (fun h => absurd h (by omega)) (fun _ => ⟨fun h => absurd n1 (Int32.not_le.mpr h), fun _ => ⟨fun _ => ?_, fun h => absurd n2 h⟩⟩)))⟩))
    refine c2_pt hl rfl rfl (c2_pt hl rfl rfl (c2_pt hl rfl rfl (c2_pt hl rfl rfl ?_)))
    have low : ∀ (f : Nat) (i3 i4 : Int32), (f = 0 ∧ 0 ≤ n ∨ f = 1 ∧ ¬ 0 ≤ n) → i3 = nI (mt_nd n.toInt.natAbs) → mm_R X (d + 1) 40 102 [some (.ref r), some (.int n), some (.int (nI n.toInt.natAbs)), some (.int i3), some (.int i4), none] [.int (nI f)] (c2 hp r (2, [.ref (r + 1), .null, .int 1, .int n, .int 0, .int 0, v6]) (1001, cs)) Q := by
      intro f i3 i4 hf e3
      subst e3
      have hf1 : f = 0 ∨ f = 1 := by rcases hf with h | h; exact Or.inl h.1; exact Or.inr h.1
      have el : (mt_nf n).length = f + mt_nd n.toInt.natAbs := by
        unfold mt_nf
        rcases hf with ⟨rfl, h0⟩ | ⟨rfl, h0⟩
        · rw [if_neg (fun h => absurd h0 (Int32.not_le.mpr h)), mt_dg_ds, mt_ds_len]; omega
        · rw [if_pos (Int32.not_le.mp h0), List.length_cons, mt_dg_ds, mt_ds_len]; omega
      refine w40_102 (c2_pt hl rfl rfl (c2_gv hl rfl (c2_si (i := 0) hl (by decide) (by omega) rfl (c2_gi hl rfl ?_))))
      rw [nI_add]
      refine k40_128 hl hf1 (mt_nd n.toInt.natAbs) n.toInt.natAbs _ (by rw [List.length_set]; omega) (by rw [List.length_set]; omega) (by omega) ?_
      have hs : ∃ B C, cs.set 0 (.int 45) = (if f = 0 then [] else [mI 45]) ++ (B ++ C) ∧ B.length = mt_nd n.toInt.natAbs ∧ C.length + (mt_nf n).length = cs.length := by
        refine ⟨((cs.set 0 (.int 45)).drop f).take (mt_nd n.toInt.natAbs), ((cs.set 0 (.int 45)).drop f).drop (mt_nd n.toInt.natAbs), ?_, ?_, ?_⟩
        · rw [List.take_append_drop]
          rcases hf1 with rfl | rfl
          · simp
          · cases cs with
            | nil => simp at hc
            | cons a l => rfl
        · simp; omega
        · simp; omega
      obtain ⟨B, C, e1, e2, e3⟩ := hs
      rw [e1, mt_fl_e f _ _ _ _ _ (by rcases hf1 with rfl | rfl <;> rfl) e2, ← el]
      have e4 : (if f = 0 then [] else [mI 45]) ++ ((mt_ds (mt_nd n.toInt.natAbs) n.toInt.natAbs).map mI ++ C) = (mt_nf n).map mI ++ C := by
        unfold mt_nf
        rcases hf with ⟨rfl, h0⟩ | ⟨rfl, h0⟩
        · rw [if_neg (fun h => absurd h0 (Int32.not_le.mpr h)), mt_dg_ds]; rfl
        · rw [if_pos (Int32.not_le.mp h0), mt_dg_ds]; rfl
      rw [e4]
      exact H C e3
    refine ⟨fun h0 => ?_, fun h0 => ?_⟩
    · have e := mn_pos h0
      have g := k40_68 (X := X) (d := d) (Q := Q) (r := r) (i1 := n) (hp := c2 hp r (2, [.ref (r + 1), .null, .int 1, .int n, .int 0, .int 0, v6]) (1001, cs)) ha (fun i3 i4 e3 => ⟨fun _ => low 0 i3 i4 (Or.inl ⟨rfl, h0⟩) e3, fun h => absurd h0 h⟩)
      rw [← e] at g
      exact g
    · rw [mn_neg h0 n1]
      exact k40_68 ha (fun i3 i4 e3 => ⟨fun h => absurd h h0, fun _ => low 1 i3 i4 (Or.inr ⟨rfl, h0⟩) e3⟩)
  rw [c2_self h h'] at key
  exact key
theorem k40x {r : Nat} {v2 v3 v4 v5 v6 : Value} {cs : List Value} {n : Int32} (h : hp[r]? = some (2, [.ref (r + 1), .null, v2, v3, v4, v5, v6])) (h' : hp[r + 1]? = some (1001, cs)) (hc : 7 ≤ cs.length) (hb : cs.length ≤ 30) (hn : ¬ (-999999 ≤ n ∧ n ≤ 999999)) (H : Q (some (.int 0)) hp) : mm_R X (d + 1) 40 0 (mm_L0 40 [.ref r, .int n]) [] hp Q :=
  w40_0 ⟨r, _, _, rfl, h, rfl, Or.inr ⟨⟨_, rfl⟩, ⟨r, _, _, rfl, h, rfl, ⟨r + 1, _, _, rfl, h', by decide, rfl, pk_lt cs.length 7 (fun h => absurd h (by omega)) (fun _ => ⟨fun _ => H, fun h1 => ⟨fun h2 => absurd ⟨Int32.not_lt.mp h1, h2⟩ hn, fun _ => H⟩⟩)⟩⟩⟩⟩
/-- a new number -/
theorem k39 {n : Int32} (H1 : -999999 ≤ n → n ≤ 999999 → ∀ q hp', q = hp.length → cE (fun _ => False) hp hp' → cG 2 hp hp' → hp'.length = hp.length + 2 → cSc hp' (some (.inl n)) q → Q (some (.ref q)) hp') (H0 : ¬ (-999999 ≤ n ∧ n ≤ 999999) → ∀ hp', cE (fun _ => False) hp hp' → cG 2 hp hp' → Q (some .null) hp') : mm_R X (d + 2) 39 0 (mm_L0 39 [.int n]) [] hp Q := by
  refine w39_0 ?_
  rintro q hp2 rfl rfl
  rw [show (7 : Int32) = nI 7 from rfl]
  refine k3t rfl (by omega) (by omega) ⟨rfl, ⟨hp.length, _, rfl, c2_app0⟩, ?_⟩
  by_cases hn : -999999 ≤ n ∧ n ≤ 999999
  · refine k40 c2_app0 c2_app1 (by simp) (by simp) hn.1 hn.2 (fun junk hj => ⟨_, rfl, fun h => absurd h (by decide), fun _ => ?_⟩)
    rw [c2_app]
    simp only [List.length_replicate] at hj
    refine H1 hn.1 hn.2 _ _ rfl cE.app (c2_appG ?_) (by simp) ⟨n, junk, c2_app0, c2_app1, fun _ => rfl, by omega⟩
    simp; omega
  · refine k40x c2_app0 c2_app1 (by simp) (by simp) hn ⟨_, rfl, fun _ => ?_, fun h => absurd rfl h⟩
    exact H0 hn _ cE.app (c2_appG (by simp))
theorem k4_26 {r n : Nat} {hp : mm_H} {v2 v3 v4 v5 : Value} (hd : 4 ≤ d) : ∀ (m i : Nat) (cs : List Value), i + m = 4 → cs.length = 4 → r + 1 < hp.length → (∀ cs', cs'.take i = cs.take i → cs'.drop i = ([110, 117, 108, 108].map mI).drop i → Q none (c2 hp r (2, [.ref (r + 1), .null, v2, v3, v4, v5, .int 4]) (1001, cs'))) → mm_R X (d + 1) 4 26 [some (.ref r), some (.int (nI i))] [] (c2 hp r (2, [.ref (r + 1), .null, v2, v3, v4, v5, .int 4]) (1001, cs)) Q := by
  intro m
  induction m with
  | zero =>
    intro i cs hi hc hl H
    have : i = 4 := by omega
    subst this
    refine w4_26 (c2_gv hl rfl (Or.inr ⟨⟨_, rfl⟩, c2_gi hl rfl (pk_le 4 4 (fun _ => H cs rfl ?_) (fun h => absurd h (by omega)))⟩))
    rw [List.drop_eq_nil_of_le (by omega)]; rfl
  | succ m ih =>
    intro i cs hi hc hl H
    refine w4_26 (c2_gv hl rfl (Or.inr ⟨⟨_, rfl⟩, c2_gi hl rfl (pk_le 4 i (fun h => absurd h (by omega)) (fun _ => c2_gv hl rfl (c2_ln hl ⟨by decide, rfl⟩ (pk_le cs.length i (fun h => absurd h (by omega)) (fun _ => c2_gv hl rfl ⟨rfl, ?_⟩)))))⟩))
    have hi4 : i < [110, 117, 108, 108].length := by simp; omega
    refine ⟨0, [110, 117, 108, 108], [110, 117, 108, 108][i], rfl, rfl, hd, nI_pos' (by omega), by rw [nI_clamp (by omega)]; exact List.getElem?_eq_getElem hi4, ?_⟩
    have hb : [110, 117, 108, 108][i] < 65536 := by
      have : ∀ x ∈ [110, 117, 108, 108], x < 65536 := by decide
      exact this _ (List.getElem_mem hi4)
    refine c2_si hl (by omega) (by omega) (m_fc (m_cb hb)) ?_
    rw [nI_1]
    refine ih (i + 1) _ (by omega) (by rw [List.length_set]; exact hc) hl (fun cs' h1 h2 => H cs' ?_ ?_)
    · have := congrArg (List.take i) h1
      rw [List.take_take, List.take_take, Nat.min_eq_left (by omega), List.take_set_of_le (Nat.le_refl _)] at this
      exact this
    · have e0 : cs'[i]? = some (mI [110, 117, 108, 108][i]) := by
        have := congrArg (fun l => l[i]?) h1
        simp only [List.getElem?_take_of_lt (Nat.lt_succ_self i)] at this
        rw [this, List.getElem?_set_self (by omega)]; rfl
      obtain ⟨hx, ex⟩ := List.getElem?_eq_some_iff.mp e0
      rw [List.drop_eq_getElem_cons hx, ex, h2]
      have e3 : ([110, 117, 108, 108].map mI).drop i = ([110, 117, 108, 108].map mI)[i]'(by rw [List.length_map]; exact hi4) :: ([110, 117, 108, 108].map mI).drop (i + 1) := List.drop_eq_getElem_cons _
      rw [e3, List.getElem_map]
/-- a new null -/
theorem k2 (hd : 4 ≤ d) (H : ∀ q, q = hp.length → Q (some (.ref q)) (hp ++ [(2, [.ref (q + 1), .null, .int 0, .int 0, .int 0, .int 0, .int 4]), (1001, [110, 117, 108, 108].map mI)])) : mm_R X (d + 2) 2 0 (mm_L0 2 []) [] hp Q := by
  refine w2_0 ?_
  rintro q hp2 rfl rfl
  refine ⟨0, _, rfl, rfl, by omega, ?_⟩
  rw [show ([110, 117, 108, 108] : List Nat).length = 4 from rfl]
  refine k3t rfl (by omega) (by omega) ⟨rfl, ⟨hp.length, _, rfl, c2_app0⟩, ?_⟩
  have hl : hp.length + 1 < (hp ++ [((2 : Nat), [Value.ref (hp.length + 1), .null, .int 0, .int 0, .int 0, .int 0, .int 0]), ((1001 : Nat), List.replicate 4 (.int 0))]).length := by simp
  rw [← c2_self (hp := hp ++ _) (c2_app0 (hp := hp) (a := ((2 : Nat), [Value.ref (hp.length + 1), .null, .int 0, .int 0, .int 0, .int 0, .int 0])) (b := ((1001 : Nat), List.replicate 4 (Value.int 0)))) c2_app1]
  refine w4_0 (c2_pt hl rfl rfl (c2_pt hl rfl rfl (c2_pt hl rfl rfl ⟨0, _, rfl, rfl, hd, c2_pt hl rfl rfl ?_⟩)))
  refine k4_26 (n := 0) hd 4 0 _ rfl (by simp) hl (fun cs' _ h2 => ⟨rfl, ?_⟩)
  rw [List.drop_zero, List.drop_zero] at h2
  rw [h2, c2_app]
  exact H _ rfl
end CNUM
