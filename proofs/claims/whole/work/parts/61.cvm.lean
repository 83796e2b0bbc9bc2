/-! THE CLASS'S VALUE METHODS -/
theorem c2_app {hp : mm_H} {a b c c' : mm_C} : c2 (hp ++ [a, b]) hp.length c c' = hp ++ [c, c'] := by
  unfold c2
  rw [List.set_append_right _ _ (Nat.le_refl _), List.set_append_right _ _ (by omega)]
  simp
theorem c2_app0 {hp : mm_H} {a b : mm_C} : (hp ++ [a, b])[hp.length]? = some a := by simp
theorem c2_app1 {hp : mm_H} {a b : mm_C} : (hp ++ [a, b])[hp.length + 1]? = some b := by
  rw [List.getElem?_append_right (by omega)]
  simp
theorem c2_appG {hp : mm_H} {a b : mm_C} (h : a.2.length + b.2.length ≤ 52) : cG 2 hp (hp ++ [a, b]) := by
  refine ⟨by simp, ?_⟩
  rw [show hp ++ [a, b] = (hp ++ [a]) ++ [b] by simp, mm_sz_push, mm_sz_push]
  omega
theorem nI_if {a b : Nat} (ha : a < 2 ^ 31) (hb : b < 2 ^ 31) {α : Type} {x y : α} : (if nI a < nI b then x else y) = if a < b then x else y := by
  by_cases h : a < b
  · rw [if_pos h, if_pos (nI_lt h hb)]
  · rw [if_neg h, if_neg (nI_nlt (by omega) ha)]
section CVM
variable {X : List Int32} {d : Nat} {hp : mm_H} {Q : Option Value → mm_H → Prop}
theorem k3t {n room : Nat} (hn : n = hp.length) (h0 : 0 < room) (h1 : room ≤ 100) (H : Q none (hp ++ [(2, [.ref (n + 1), .null, .int 0, .int 0, .int 0, .int 0, .int 0]), (1001, List.replicate room (.int 0))])) : mm_R X (d + 1) 3 0 (mm_L0 3 [.ref n, .int (nI room), .int 0]) [] (hp ++ [(2, mm_df 2)]) Q := by
  subst hn
  refine w3_0 (pk_le room 0 (fun h => absurd h (by omega)) (fun _ => ⟨⟨nI_pos' (by omega), by rw [nI_clamp (by omega)]; omega⟩, ?_⟩))
  rintro q7 hp8 e7 rfl
  rw [nI_clamp (by omega), List.append_assoc]
  have e : q7 = hp.length + 1 := by rw [e7]; simp
  subst e
  have hl : hp.length + 1 < (hp ++ [((2 : Nat), mm_df 2), ((1001 : Nat), List.replicate room (.int 0))]).length := by simp
  rw [show [((2 : Nat), mm_df 2)] ++ [((1001 : Nat), List.replicate room (Value.int 0))] = [((2 : Nat), mm_df 2), ((1001 : Nat), List.replicate room (.int 0))] from rfl, ← c2_self (c2_app0 (hp := hp) (a := ((2 : Nat), mm_df 2)) (b := ((1001 : Nat), List.replicate room (Value.int 0)))) c2_app1]
  refine c2_pt hl rfl rfl ⟨fun _ => c2_pt hl rfl rfl ?_, fun h => absurd (by decide) h⟩
  rw [c2_app]; exact H
theorem k3l {n room : Nat} (hn : n = hp.length) (h0 : 0 < room) (h1 : room ≤ 100) (H : Q none (hp ++ [(2, [.null, .ref (n + 1), .int 0, .int 0, .int 0, .int 0, .int 0]), (2002, List.replicate room .null)])) : mm_R X (d + 1) 3 0 (mm_L0 3 [.ref n, .int 0, .int (nI room)]) [] (hp ++ [(2, mm_df 2)]) Q := by
  subst hn
  have hg : (hp ++ [((2 : Nat), mm_df 2)])[hp.length]? = some (2, mm_df 2) := by simp
  refine w3_0 ⟨fun _ => ⟨hp.length, _, rfl, hg, Nat.le_of_ble_eq_true rfl, rfl, pk_le room 0 (fun h => absurd h (by omega)) (fun _ => ⟨⟨nI_pos' (by omega), by rw [nI_clamp (by omega)]; omega⟩, ?_⟩)⟩, fun h => absurd (by decide) h⟩
  rintro q7 hp8 e7 rfl
  have es : (hp ++ [((2 : Nat), mm_df 2)]).set hp.length (2, (mm_df 2).set 0 .null) = hp ++ [(2, mm_df 2)] := by
    rw [List.set_append_right _ _ (Nat.le_refl _)]; simp; rfl
  rw [es] at e7 ⊢
  rw [nI_clamp (by omega), List.append_assoc]
  have e : q7 = hp.length + 1 := by rw [e7]; simp
  subst e
  have hl : hp.length + 1 < (hp ++ [((2 : Nat), mm_df 2), ((2002 : Nat), List.replicate room Value.null)]).length := by simp
  rw [show [((2 : Nat), mm_df 2)] ++ [((2002 : Nat), List.replicate room Value.null)] = [((2 : Nat), mm_df 2), ((2002 : Nat), List.replicate room Value.null)] from rfl, ← c2_self (c2_app0 (hp := hp) (a := ((2 : Nat), mm_df 2)) (b := ((2002 : Nat), List.replicate room Value.null))) c2_app1]
  refine c2_pt hl rfl rfl ?_
  rw [c2_app]; exact H
theorem k8 {r : Nat} {v2 v3 v4 v5 v6 : Value} {cs : List Value} (h : hp[r]? = some (2, [.ref (r + 1), .null, v2, v3, v4, v5, v6])) (h' : hp[r + 1]? = some (1001, cs)) (hc : 2 ≤ cs.length) (hb : cs.length < 2 ^ 31)
    (H : Q (some (.int 1)) (c2 hp r (2, [.ref (r + 1), .null, .int 2, v3, .int 0, .int 0, .int 2]) (1001, (cs.set 0 (.int 34)).set 1 (.int 34)))) : mm_R X (d + 1) 8 0 (mm_L0 8 [.ref r]) [] hp Q := by
  have hl : r + 1 < hp.length := (List.getElem?_eq_some_iff.mp h').1
  rw [← c2_self h h']
  refine w8_0 (c2_gv hl rfl (Or.inr ⟨⟨_, rfl⟩, c2_gv hl rfl (c2_ln hl ⟨by decide, rfl⟩ (pk_le 2 cs.length (fun _ => ?_) (fun h => absurd h (by omega))))⟩))
  refine c2_pt hl rfl rfl (c2_pt hl rfl rfl (c2_pt hl rfl rfl (c2_pt hl rfl rfl (c2_gv hl rfl ?_))))
  refine c2_si (i := 0) hl (by decide) (by omega) rfl (c2_gv hl rfl (c2_si (i := 1) hl (by decide) (by simp; omega) rfl ?_))
  exact H
theorem k10 {r : Nat} {v0 v1 v2 v3 v4 v5 v6 : Value} (h : hp[r]? = some (2, [v0, v1, v2, v3, v4, v5, v6])) (H : Q none (hp.set r (2, [v0, v1, .int 3, v3, .int 0, .int 1, .int 2]))) : mm_R X (d + 1) 10 0 (mm_L0 10 [.ref r]) [] hp Q := by
  have hl : r < hp.length := (List.getElem?_eq_some_iff.mp h).1
  refine w10_0 ⟨r, _, rfl, h, Nat.le_of_ble_eq_true rfl, rfl, ⟨r, _, rfl, List.getElem?_set_self hl, Nat.le_of_ble_eq_true rfl, rfl, ?_⟩⟩
  rw [List.set_set]
  refine ⟨r, _, rfl, List.getElem?_set_self hl, Nat.le_of_ble_eq_true rfl, rfl, ?_⟩
  rw [List.set_set]
  refine ⟨r, _, rfl, List.getElem?_set_self hl, Nat.le_of_ble_eq_true rfl, rfl, ?_⟩
  rw [List.set_set]
  exact H
/-- emptyText -/
theorem k7 {room : Nat} (hr : room ≤ 24) (H : ∀ n, n = hp.length → Q (some (.ref n)) (hp ++ [(2, [.ref (n + 1), .null, .int 2, .int 0, .int 0, .int 0, .int 2]), (1001, .int 34 :: .int 34 :: List.replicate room (.int 0))])) : mm_R X (d + 2) 7 0 (mm_L0 7 [.int (nI room)]) [] hp Q := by
  refine w7_0 ?_
  rintro n hp2 rfl rfl
  have e1 : (if (24 : Int32) < nI room then (24 : Int32) else nI room) = nI room := if_neg (nI_nlt (b := room) (a := 24) hr (by decide))
  have e2 : (if (0 : Int32) < nI room then nI room else 0) = nI room := by
    by_cases h : 0 < room
    · exact if_pos (show nI 0 < nI room from nI_lt h (by omega))
    · have : room = 0 := by omega
      subst this; rfl
  rw [e1, e2, show (2 : Int32) = nI 2 from rfl, nI_add]
  refine k3t rfl (by omega) (by omega) ⟨rfl, ⟨hp.length, _, rfl, c2_app0⟩, ?_⟩
  refine k8 c2_app0 c2_app1 (by simp) (by simp; omega) ⟨_, rfl, ?_⟩
  rw [c2_app]
  have := H hp.length rfl
  rw [List.replicate_succ, List.replicate_succ]
  exact this
theorem k9 {room : Nat} (h0 : 0 < room) (hr : room ≤ 8) (H : ∀ n, n = hp.length → Q (some (.ref n)) (hp ++ [(2, [.null, .ref (n + 1), .int 3, .int 0, .int 0, .int 1, .int 2]), (2002, List.replicate room .null)])) : mm_R X (d + 2) 9 0 (mm_L0 9 [.int (nI room)]) [] hp Q := by
  refine w9_0 ?_
  rintro n hp2 rfl rfl
  have e1 : (if (8 : Int32) < nI room then (8 : Int32) else nI room) = nI room := if_neg (nI_nlt (b := room) (a := 8) hr (by decide))
  have e2 : (if (0 : Int32) < nI room then nI room else 0) = nI room := if_pos (show nI 0 < nI room from nI_lt h0 (by omega))
  rw [e1, e2]
  refine k3l rfl (by omega) (by omega) ⟨rfl, ⟨hp.length, _, rfl, c2_app0⟩, ?_⟩
  refine k10 c2_app0 ⟨rfl, ?_⟩
  rw [List.set_append_right _ _ (Nat.le_refl _)]
  simp only [Nat.sub_self, List.set_cons_zero]
  exact H hp.length rfl
/-- a text under way: its letters, what is left behind them -/
def cTx (hp : mm_H) (r : Nat) (s : List Nat) (junk : List Value) : Prop := ∃ n, hp[r]? = some (2, [.ref (r + 1), .null, .int 2, n, .int (nI s.length), .int 0, .int (nI (s.length + 2))]) ∧ hp[r + 1]? = some (1001, (34 :: (s ++ [34])).map mI ++ junk) ∧ (∃ m, n = .int m) ∧ junk.length ≤ 30
theorem cTx.t {S : Nat → Prop} {r : Nat} {s : List Nat} {junk : List Value} (h : cTx hp r s junk) : cT S hp (.leaf (some (.inr s))) r := by
  obtain ⟨n, h1, h2, ⟨m, rfl⟩, h3⟩ := h
  refine ⟨m, junk, ?_, h2, fun h => absurd (show (2 : Nat) = 1 from h) (by decide), h3⟩
  rw [h1]
  simp [mt_k, mt_txt, mt_sf]
  rfl
def mt_lt (c : Nat) : Prop := 32 ≤ c ∧ c ≤ 126 ∧ c ≠ 34 ∧ c ≠ 92
theorem k34 {r c : Nat} {s : List Nat} {j : Value} {junk : List Value} (T : cTx hp r s (j :: junk)) (hs : s.length < 24) (hc : mt_lt c)
    (H : ∀ hp', cE (fun x => x = r ∨ x = r + 1) hp hp' → cG 0 hp hp' → cTx hp' r (s ++ [c]) junk → Q (some (.int 1)) hp') : mm_R X (d + 1) 34 0 (mm_L0 34 [.ref r, .int (nI c)]) [] hp Q := by
  obtain ⟨n, h, h', ⟨m, rfl⟩, hj⟩ := T
  rw [List.length_cons] at hj
  have hl : r + 1 < hp.length := (List.getElem?_eq_some_iff.mp h').1
  obtain ⟨c1, c2', c3, c4⟩ := hc
  have hcl : ((34 :: (s ++ [34])).map mI ++ j :: junk).length = s.length + 3 + junk.length := by simp; omega
  have hcb : mm_fv FieldType.char (.int (nI c)) = true := m_fc (m_cb (by omega))
  have key : mm_R X (d + 1) 34 0 (mm_L0 34 [.ref r, .int (nI c)]) [] (c2 hp r (2, [.ref (r + 1), .null, .int 2, .int m, .int (nI s.length), .int 0, .int (nI (s.length + 2))]) (1001, (34 :: (s ++ [34])).map mI ++ j :: junk)) Q := by
    refine w34_0 (c2_gi hl rfl ⟨fun h => absurd rfl h, fun _ => c2_gv hl rfl (Or.inr ⟨⟨_, rfl⟩, c2_gi hl rfl (pk_le 24 s.length (fun h => absurd h (by omega)) (fun _ => c2_gi hl rfl (c2_gv hl rfl (c2_ln hl ⟨by decide, rfl⟩ ?_))))⟩)⟩)
    rw [hcl]
    refine pk_lt (s.length + 2) (s.length + 3 + junk.length) (fun _ => c2_gi hl rfl (pk_lt (s.length + 2) 2 (fun h => absurd h (by omega)) (fun _ => pk_lt c 32 (fun h => absurd h (by omega)) (fun _ => pk_lt 126 c (fun h => absurd h (by omega)) (fun _ => pk_eq c 34 (fun h => absurd h c3) (fun _ => ⟨fun _ => ?_, fun h => absurd (show nI c = nI 92 from h) (by rw [nI_eq (by omega) (by decide)]; exact c4)⟩)))))) (fun h => absurd h (by omega))
    refine c2_gv hl rfl (c2_gi hl rfl ?_)
    rw [show nI (s.length + 2) - (1 : Int32) = nI (s.length + 1) from nI_pred _]
    refine c2_si (i := s.length + 1) hl (by omega) (by rw [hcl]; omega) hcb (c2_gv hl rfl (c2_gi hl rfl (c2_si (i := s.length + 2) hl (by omega) (by rw [List.length_set, hcl]; omega) rfl (c2_gi hl rfl ?_))))
    rw [nI_1]
    refine c2_pt hl rfl rfl (c2_gi hl rfl ?_)
    rw [nI_1]
    refine c2_pt hl rfl rfl ?_
    have ec : ((((34 :: (s ++ [34])).map mI ++ j :: junk).set (s.length + 1) (.int (nI c))).set (s.length + 2) (.int 34)) = (34 :: ((s ++ [c]) ++ [34])).map mI ++ junk := by
      apply List.ext_getElem?
      intro i
      simp only [List.map_cons, List.map_append, List.map_nil, List.cons_append, List.append_assoc, List.nil_append]
      cases i with
      | zero => rfl
      | succ i =>
        rw [List.set_cons_succ, List.set_cons_succ, List.getElem?_cons_succ, List.getElem?_cons_succ]
        rw [List.set_append_right _ _ (by simp), List.set_append_right _ _ (by simp)]
        simp [mI]
        rfl
    rw [ec]
    refine H _ (c2_e (Or.inl rfl) (Or.inr rfl)) (c2_g h h' rfl ?_) ⟨.int m, ?_, c2_1 hl, ⟨m, rfl⟩, by omega⟩
    · simp
    · rw [c2_0 hl]
      simp
  rw [c2_self h h'] at key
  exact key
end CVM
