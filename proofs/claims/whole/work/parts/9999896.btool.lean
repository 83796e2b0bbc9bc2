/-! TOOL AND STEP ARE MADE -/
section OTL
variable {X : List Int32} {t d : Nat} {hp : mm_H} {Q : Option Value → mm_H → Prop}
theorem pt_app {l l' : mm_H} {ci k : Nat} {vs : List Value} {w : Value} {K : mm_H → Prop} (hp' : mm_H) (e : hp' = hp ++ (ci, vs) :: l) (hk : k < vs.length) (hf : mm_fv (mm_ft ci k) w = true) (H : K (hp ++ (ci, vs.set k w) :: l)) : mw_pt ci k (.ref hp.length) w hp' K := by
  subst e
  refine ⟨hp.length, vs, rfl, by simp, hk, hf, ?_⟩
  rw [List.set_append_right _ _ (Nat.le_refl _), Nat.sub_self]
  exact H
theorem app_len {c : mm_C} {l : mm_H} : (hp ++ c :: l).length = hp.length + (l.length + 1) := by rw [List.length_append, List.length_cons]
theorem app_app {c e : mm_C} {l : mm_H} : (hp ++ c :: l) ++ [e] = hp ++ c :: (l ++ [e]) := by rw [List.append_assoc, List.cons_append]
def z4 : List Value := List.replicate 4 (.int 0)
theorem k17 {k : Int32} (H : Q none (hp ++ [(6, [.int k, .ref (hp.length + 1), .ref (hp.length + 2), .ref (hp.length + 3), .ref (hp.length + 4), .int 0]), (1000, z4), (1001, z4), (1000, z4), (1000, z4)])) : mm_R X (d + 1) 17 0 (mm_L0 17 [.ref hp.length, .int k]) [] (hp ++ [(6, mm_df 6)]) Q := by
  refine w17_0 ⟨⟨by decide, by decide⟩, ?_⟩
  rintro q1 hp1 rfl rfl
  rw [app_app, app_len]
  refine pt_app (l := [(1000, z4)]) (l' := []) _ rfl (Nat.le_of_ble_eq_true rfl) rfl ⟨⟨by decide, by decide⟩, ?_⟩
  rintro q1 hp1 rfl rfl
  rw [app_app, app_len]
  refine pt_app (l := [(1000, z4), (1001, z4)]) (l' := []) _ rfl (Nat.le_of_ble_eq_true rfl) rfl ⟨⟨by decide, by decide⟩, ?_⟩
  rintro q1 hp1 rfl rfl
  rw [app_app, app_len]
  refine pt_app (l := [(1000, z4), (1001, z4), (1000, z4)]) (l' := []) _ rfl (Nat.le_of_ble_eq_true rfl) rfl ⟨⟨by decide, by decide⟩, ?_⟩
  rintro q1 hp1 rfl rfl
  rw [app_app, app_len]
  refine pt_app (l := [(1000, z4), (1001, z4), (1000, z4), (1000, z4)]) (l' := []) _ rfl (Nat.le_of_ble_eq_true rfl) rfl ?_
  refine pt_app (l := [(1000, z4), (1001, z4), (1000, z4), (1000, z4)]) (l' := []) _ rfl (Nat.le_of_ble_eq_true rfl) rfl ?_
  exact H
def n4 : List Value := List.replicate 4 .null
theorem k21 {a : Nat} (H : Q none (hp ++ [(7, [.ref a, .ref (hp.length + 1), .ref (hp.length + 2), .ref (hp.length + 3), .ref (hp.length + 4), .ref (hp.length + 5), .ref (hp.length + 6), .null, .int 0, .int 0]), (1000, List.replicate 12 (.int 0)), (1000, z4), (1000, z4), (1000, z4), (2002, n4), (2008, n4)])) : mm_R X (d + 1) 21 0 (mm_L0 21 [.ref hp.length, .ref a]) [] (hp ++ [(7, mm_df 7)]) Q := by
  refine w21_0 ⟨⟨by decide, by decide⟩, ?_⟩
  rintro q1 hp1 rfl rfl
  rw [app_app, app_len]
  refine pt_app (l := [(1000, List.replicate 12 (.int 0))]) (l' := []) _ rfl (Nat.le_of_ble_eq_true rfl) rfl ⟨⟨by decide, by decide⟩, ?_⟩
  rintro q1 hp1 rfl rfl
  rw [app_app, app_len]
  refine pt_app (l := [(1000, List.replicate 12 (.int 0)), (1000, z4)]) (l' := []) _ rfl (Nat.le_of_ble_eq_true rfl) rfl ⟨⟨by decide, by decide⟩, ?_⟩
  rintro q1 hp1 rfl rfl
  rw [app_app, app_len]
  refine pt_app (l := [(1000, List.replicate 12 (.int 0)), (1000, z4), (1000, z4)]) (l' := []) _ rfl (Nat.le_of_ble_eq_true rfl) rfl ⟨⟨by decide, by decide⟩, ?_⟩
  rintro q1 hp1 rfl rfl
  rw [app_app, app_len]
  refine pt_app (l := [(1000, List.replicate 12 (.int 0)), (1000, z4), (1000, z4), (1000, z4)]) (l' := []) _ rfl (Nat.le_of_ble_eq_true rfl) rfl ⟨⟨by decide, by decide⟩, ?_⟩
  rintro q1 hp1 rfl rfl
  rw [app_app, app_len]
  refine pt_app (l := [(1000, List.replicate 12 (.int 0)), (1000, z4), (1000, z4), (1000, z4), (2002, n4)]) (l' := []) _ rfl (Nat.le_of_ble_eq_true rfl) rfl ⟨⟨by decide, by decide⟩, ?_⟩
  rintro q1 hp1 rfl rfl
  rw [app_app, app_len]
  refine pt_app (l := [(1000, List.replicate 12 (.int 0)), (1000, z4), (1000, z4), (1000, z4), (2002, n4), (2008, n4)]) (l' := []) _ rfl (Nat.le_of_ble_eq_true rfl) rfl ⟨rfl, ?_⟩
  refine pt_app (l := [(1000, List.replicate 12 (.int 0)), (1000, z4), (1000, z4), (1000, z4), (2002, n4), (2008, n4)]) (l' := []) _ rfl (Nat.le_of_ble_eq_true rfl) rfl ?_
  exact H
theorem app_at {l : mm_H} {k : Nat} {c : mm_C} (h : l[k]? = some c) : (hp ++ l)[hp.length + k]? = some c := by
  rw [List.getElem?_append_right (by omega), Nat.add_sub_cancel_left]; exact h
/-- a tool has come -/
def eTlS (E : mEv) (k : Nat) : mEv := (eIn E, eTl E ++ [(k, [])], eSp E)
theorem getD_snoc {α : Type} (l : List α) (v d0 : α) (i : Nat) : (l ++ [v]).getD i d0 = if i = l.length then v else l.getD i d0 := by
  rw [List.getD_eq_getElem?_getD, List.getD_eq_getElem?_getD]
  by_cases h : i < l.length
  · rw [List.getElem?_append_left h, if_neg (by omega)]
  · rw [List.getElem?_append_right (by omega)]
    by_cases e : i = l.length
    · subst e; rw [if_pos rfl, Nat.sub_self]; rfl
    · rw [if_neg e, List.getElem?_eq_none (by simp; omega), List.getElem?_eq_none (by omega)]
theorem ob_tool {y1 : Int32} (I : IV X t hp) (ht : t < 512) : mL_ob X (IV X) t hp 15 125 [.int y1] := by
  obtain ⟨D, x, E, tr, sr, R, JL, σ, hC, M, hS, hA, hP, hG⟩ := I
  have h6 := hA.1.2.2.1
  have h4 := hA.1.2.1
  have ref : ∀ Q : Option Value → mS → Prop, (nSt R ≠ 1 → ∀ k : Nat, y1 = nI k → k < 4 → (eTl E).length < 4 → ∀ σ', σ' = mSet (uI σ 91 (eTl E).length (nI k)) 6 (nI ((eTl E).length + 1)) → Q (some (.int (nI (eTl E).length))) σ') → ((nSt R = 1 ∨ (eTl E).length = 4 ∨ (∀ k : Nat, k < 4 → y1 ≠ nI k)) → Q (some (.int (-1))) σ) → mM X 999 125 0 (mm_L0 125 [.ref 86, .int y1]) [] σ Q := by
    intro Q H1 H0
    refine u125_0 (t126 hS.2.2.2.1.1.1 hA.2.2.2.1 (fun n1 => ⟨_, rfl, fun z => absurd z (by decide), fun _ => ?_⟩) (fun e => ⟨_, rfl, fun _ => H0 (Or.inl e), fun z => absurd rfl z⟩))
    rw [hS.2.1.1]
    refine pk_eq (eTl E).length 4 (fun e => H0 (Or.inr (Or.inl e))) (fun ne => ?_)
    refine t127 (lo := 0) (hi := 3) rfl rfl (by omega) (by omega) (fun k ek _ hk => ⟨_, rfl, fun _ => ?_, fun z => absurd z (by decide)⟩) (fun hno => ⟨_, rfl, fun z => absurd rfl z, fun _ => H0 (Or.inr (Or.inr (fun k hk => hno k (by omega) (by omega))))⟩)
    subst ek
    rw [hS.2.1.1]
    refine ⟨m_ix (by omega) (by decide), ?_⟩
    rintro σ6 rfl
    rw [uI_e (by omega)]
    rintro σ7 rfl
    have e6 : (uI σ 91 (eTl E).length (nI k)).1 6 + 1 = nI ((eTl E).length + 1) := by
      show σ.1 6 + 1 = _
      rw [hS.2.1.1, nI_1]
    rw [e6]
    have := H1 n1 k rfl (by omega) (by omega) _ rfl
    rw [mSet_g, if_pos rfl, show (1 : Int32) = nI 1 from rfl, pk_sub (by omega), Nat.add_sub_cancel]
    exact this
  have bad : (nSt R = 1 ∨ (eTl E).length = 4 ∨ (∀ k : Nat, k < 4 → y1 ≠ nI k)) → ∃ y, some (Value.int (-1)) = some (.int y) ∧ ∃ D x E tr sr R JL σ, CI hp D x E tr sr R JL ∧ mR hp σ ∧ AI E tr sr R ∧ GI hp JL (t + 1) ∧ mM X 999 125 0 (mm_L0 125 [.ref 86, .int y1]) [] σ (fun r2 σ' => r2 = some (.int y) ∧ SI σ' D E R ∧ PC σ' D E (t + 1)) := fun hb => ob_same hC M hS hA hP hG (fun Q HQ => ref Q (fun n1 k ek hk hl σ' _ => by
    exfalso
    rcases hb with z | z | z
    · exact n1 z
    · omega
    · exact z k hk ek) (fun _ => HQ))
  have rn := hC.2.2.2.2.1
  obtain ⟨⟨s1, i1, r12, _⟩, _⟩ := id rn
  refine ob_of rfl (w15_0 ⟨_, _, _, rfl, hC.1, rfl, ⟨_, _, rfl, r12⟩, k16 rn hA.2.2.2.1 ⟨_, rfl, ?_⟩⟩)
  by_cases e1 : nSt R = 1
  · rw [if_pos e1]; exact ⟨fun _ => bad (Or.inl e1), fun z => absurd z (by decide)⟩
  rw [if_neg e1]
  refine ⟨fun z => absurd rfl z, fun _ => ⟨_, _, _, rfl, hC.1, rfl, pk_le 4 (eTl E).length (fun g => bad (Or.inr (Or.inl (by omega)))) (fun hl => ?_)⟩⟩
  rcases nI_arg y1 (L := 4) (by omega) with ⟨k, ek, hk⟩ | ⟨h, hno⟩
  · rw [ek]
    refine ⟨fun g => absurd g (nI_pos (by omega)), fun _ => pk_le k 3 (fun _ => ?_) (fun g => absurd g (by omega))⟩
    obtain ⟨xx, ⟨⟨l, a1, a2, a3⟩, ⟨m, b1, b2, b3, b4⟩, ⟨n, c1, c2, c3, c4⟩⟩, rn', hl'⟩ := id hC.2.2
    refine ⟨_, _, _, rfl, hC.1, rfl, _, _, _, rfl, hC.1, rfl, ?_⟩
    rintro q8 hp9 rfl rfl
    refine ⟨rfl, k17 ⟨rfl, ?_⟩⟩
    generalize eA : hp ++ [((6 : Nat), [Value.int (nI k), .ref (hp.length + 1), .ref (hp.length + 2), .ref (hp.length + 3), .ref (hp.length + 4), .int 0]), (1000, z4), (1001, z4), (1000, z4), (1000, z4)] = hpA
    have FA : cE (fun _ => False) hp hpA := by subst eA; exact cE.app
    have t0 : hpA[hp.length + 0]? = some (6, [Value.int (nI k), .ref (hp.length + 1), .ref (hp.length + 2), .ref (hp.length + 3), .ref (hp.length + 4), .int 0]) := by subst eA; exact app_at rfl
    have t1 : hpA[hp.length + 1]? = some (1000, z4) := by subst eA; exact app_at rfl
    have t2 : hpA[hp.length + 2]? = some (1001, z4) := by subst eA; exact app_at rfl
    have t3 : hpA[hp.length + 3]? = some (1000, z4) := by subst eA; exact app_at rfl
    have t4 : hpA[hp.length + 4]? = some (1000, z4) := by subst eA; exact app_at rfl
    have lA : hpA.length = hp.length + 5 := by subst eA; rw [List.length_append]; rfl
    have sA : mm_sz hpA ≤ mm_sz hp + 22 := by
      subst eA
      unfold mm_sz
      rw [List.map_append, List.sum_append]
      exact Nat.le_refl _
    have m1 : hpA[10]? = some (2006, m) := FA.at b1 id
    have h0A : hpA[0]? = some (0, [.ref 1, .ref 3, .ref 10, .int (nI (eTl E).length), .ref 11, .int (nI (eSp E).length), .ref 12]) := FA.at hC.1 id
    have l10 := (List.getElem?_eq_some_iff.mp m1).1
    have l0 := (List.getElem?_eq_some_iff.mp h0A).1
    refine ⟨_, _, _, rfl, m1, by decide, rfl, nI_pos' (by omega), by rw [nI_clamp (by omega), b2]; exact hl, Or.inr ⟨_, _, _, rfl, t0, by decide, by decide⟩, ?_⟩
    rw [nI_clamp (by omega)]
    have h0B : (hpA.set 10 (2006, m.set (eTl E).length (.ref hp.length)))[0]? = some (0, [.ref 1, .ref 3, .ref 10, .int (nI (eTl E).length), .ref 11, .int (nI (eSp E).length), .ref 12]) := by rw [List.getElem?_set_ne (by decide)]; exact h0A
    refine ⟨_, _, _, rfl, h0B, rfl, _, _, rfl, h0B, by show 3 < 7; decide, rfl, ?_⟩
    rw [nI_1]
    generalize e12 : (hpA.set 10 (2006, m.set (eTl E).length (.ref hp.length))).set 0 (0, ([.ref 1, .ref 3, .ref 10, .int (nI (eTl E).length), .ref 11, .int (nI (eSp E).length), .ref 12] : List Value).set 3 (.int (nI ((eTl E).length + 1)))) = hp2
    have F2 : cE (fun x => x = 0 ∨ x = 10) hp hp2 := by
      subst e12
      exact ((FA.mono (fun _ _ h => h.elim)).tr (cE.set (Or.inr rfl))).tr (cE.set (Or.inl rfl))
    have lB : (hpA.set 10 (2006, m.set (eTl E).length (.ref hp.length))).length = hpA.length := List.length_set ..
    have g0 : hp2[0]? = some (0, [.ref 1, .ref 3, .ref 10, .int (nI ((eTl E).length + 1)), .ref 11, .int (nI (eSp E).length), .ref 12]) := by subst e12; rw [List.getElem?_set_self (by rw [lB]; exact l0)]; rfl
    have g10 : hp2[10]? = some (2006, m.set (eTl E).length (.ref hp.length)) := by subst e12; rw [List.getElem?_set_ne (by decide), List.getElem?_set_self l10]
    have hi2 : ∀ i, 11 ≤ i → hp2[i]? = hpA[i]? := fun i hi => by subst e12; rw [List.getElem?_set_ne (by omega), List.getElem?_set_ne (by omega)]
    have hH : cH 5 22 hp hp2 := by
      subst e12
      refine ⟨by rw [List.length_set, List.length_set, lA]; exact Nat.le_refl _, ?_⟩
      have := Nat.le_of_eq ((mm_sz_set h0B (c' := (0, ([.ref 1, .ref 3, .ref 10, .int (nI (eTl E).length), .ref 11, .int (nI (eSp E).length), .ref 12] : List Value).set 3 (.int (nI ((eTl E).length + 1))))) (by rfl)).trans (mm_sz_set m1 (c' := (2006, m.set (eTl E).length (.ref hp.length))) (by rw [List.length_set])))
      exact Nat.le_trans this sA
    refine ⟨_, _, _, rfl, g0, rfl, ?_⟩
    have qb : qB hp (fun x => x = 0 ∨ x = 10) := hC.qF.mono (fun x h => by unfold wF; omega)
    have hCto : cTo hp2 hp.length (k, []) := by
      refine ⟨z4, z4, z4, z4, ?_, ?_, ?_, ?_, ?_, rfl, rfl, rfl, rfl, ?_⟩
      · rw [hi2 _ (by omega)]; exact t0
      · rw [hi2 _ (by omega)]; exact t1
      · rw [hi2 _ (by omega)]; exact t2
      · rw [hi2 _ (by omega)]; exact t3
      · rw [hi2 _ (by omega)]; exact t4
      · decide
    have hC2 : CI hp2 D x (eTlS E k) (up tr (eTl E).length hp.length) sr R JL := by
      have hln : (eTl (eTlS E k)).length = (eTl E).length + 1 := by show (eTl E ++ [(k, [])]).length = _; rw [List.length_append]; rfl
      refine ⟨by unfold cSr; rw [hln]; exact g0, hC.2.1.keep F2 (by omega) (by omega), xx.keepB F2 qb, ⟨⟨l, F2.at a1 (by omega), a2, fun c hc => ?_⟩, ⟨_, g10, by rw [List.length_set]; exact b2, by rw [hln]; omega, fun i hi => ?_⟩, ⟨n, F2.at c1 (by omega), c2, c3, fun i hi => ?_⟩⟩, rn'.keepB F2 qb, Nat.le_trans hl' F2.1⟩
      · obtain ⟨y, e1, e2, e3⟩ := a3 c hc
        exact ⟨y, e1, e2, cT.keepT F2 qb.nv e3⟩
      · rw [hln] at hi
        show (m.set (eTl E).length (.ref hp.length))[i]? = some (.ref (up tr (eTl E).length hp.length i)) ∧ 113 ≤ up tr (eTl E).length hp.length i ∧ cTo hp2 (up tr (eTl E).length hp.length i) ((eTl E ++ [(k, [])]).getD i (0, []))
        rw [getD_snoc]
        by_cases e : i = (eTl E).length
        · subst e
          rw [up_eq, if_pos rfl]
          exact ⟨List.getElem?_set_self (by omega), hl', hCto⟩
        · rw [up_ne e, if_neg e]
          obtain ⟨e1, e2, e3⟩ := b4 i (by omega)
          exact ⟨by rw [List.getElem?_set_ne (fun z => e z.symm)]; exact e1, e2, e3.keep F2 (fun y _ _ => by omega)⟩
      · obtain ⟨e1, e2, e3, e4⟩ := c4 i hi
        refine ⟨e1, e2, by rw [hln]; exact Nat.lt_succ_of_lt e3, ?_⟩
        show cSt hp2 (sr i) (up tr (eTl E).length hp.length (sTl (eSt E i))) (eSt E i)
        rw [up_ne (by omega)]
        exact e4.keepB F2 qb (fun j hj => by omega)
    have M2 : mR hp2 σ := F2.mR M (fun y h1 h2 => by omega)
    have hA2 : AI (eTlS E k) (up tr (eTl E).length hp.length) sr R := by
      obtain ⟨⟨⟨o1, o2, o3⟩, f2, f3, f4, f5⟩, a2', a3', a4', a5', a6', a7', a8', a9', a10', a11'⟩ := id hA
      have hln : (eTl (eTlS E k)).length = (eTl E).length + 1 := by show (eTl E ++ [(k, [])]).length = _; rw [List.length_append]; rfl
      refine ⟨⟨⟨fun i hi => ?_, o2, o3⟩, by rw [hln]; omega, f3, fun s hs => by rw [hln]; exact Nat.lt_succ_of_lt (f4 s hs), fun i => ?_⟩, fun z => absurd z e1, a3', a4', a5', a6', a7', a8', fun i j hi hj e => ?_, a10', a11'⟩
      · show tOk ((eTl E ++ [(k, [])]).getD i (0, [])) ∧ (aOrd ((eTl E ++ [(k, [])]).getD i (0, [])).2).length = ((eTl E ++ [(k, [])]).getD i (0, [])).2.length
        rw [getD_snoc]
        split
        · exact ⟨⟨by show k ≤ 3; omega, fun x hx => nomatch hx⟩, rfl⟩
        · rw [hln] at hi; exact o1 i (by omega)
      · show ((eTl E ++ [(k, [])]).getD i (0, [])).2.length ≤ 4
        rw [getD_snoc]
        split
        · exact Nat.zero_le _
        · exact f5 i
      · rw [hln] at hi hj
        have lt : ∀ i, i < (eTl E).length → tr i < hp.length := fun i hi => by
          obtain ⟨_, _, _, _, _, _, h0, _⟩ := b4 i hi
          exact (List.getElem?_eq_some_iff.mp h0).1
        by_cases ei : i = (eTl E).length
        · by_cases ej : j = (eTl E).length
          · omega
          · rw [ei, up_eq, up_ne ej] at e
            have := lt j (by omega); omega
        · by_cases ej : j = (eTl E).length
          · rw [ej, up_eq, up_ne ei] at e
            have := lt i (by omega); omega
          · rw [up_ne ei, up_ne ej] at e
            exact a9' i j (by omega) (by omega) e
    have goal : ∃ y, some (Value.int (nI (eTl E).length)) = some (.int y) ∧ ∃ D x E tr sr R JL σ, CI hp2 D x E tr sr R JL ∧ mR hp2 σ ∧ AI E tr sr R ∧ GI hp2 JL (t + 1) ∧ mM X 999 125 0 (mm_L0 125 [.ref 86, .int y1]) [] σ (fun r2 σ' => r2 = some (.int y) ∧ SI σ' D E R ∧ PC σ' D E (t + 1)) := by
      refine ⟨_, rfl, D, x, eTlS E k, _, sr, R, JL, σ, hC2, M2, hA2, hG.h ht hH (by omega) (by omega), ref _ (fun _ k' ek' hk' hl'' σ' eσ => ?_) (fun hb => ?_)⟩
      · have a := (nI_eq (by omega) (by omega)).mp (ek.symm.trans ek')
        subst a
        have K : mKp (fun z => z = 6) (fun b j => b = 91 ∧ j = (eTl E).length) mN1 mN1 σ σ' := by subst eσ; exact (uI_kp (by decide) ⟨rfl, rfl⟩).tr (mSet_kp rfl)
        have v6 : σ'.1 6 = nI ((eTl E).length + 1) := by subst eσ; rw [mSet_g, if_pos rfl]
        have v91 : σ'.2.1 91 (eTl E).length = nI k := by
          subst eσ
          show (uI σ 91 (eTl E).length (nI k)).2.1 91 _ = _
          rw [uI_at, if_pos ⟨rfl, rfl⟩]
        have Kb : bK σ σ' := K.mono (fun z h => by omega) (fun b j h => by omega) (fun _ h => h.elim) (fun _ h => h.elim)
        obtain ⟨w1, w2, w3, w4, w5⟩ := hS.2.1
        have hE' : sE σ' (eTlS E k) := by
          have hln : (eTl (eTlS E k)).length = (eTl E).length + 1 := by show (eTl E ++ [(k, [])]).length = _; rw [List.length_append]; rfl
          refine ⟨by rw [hln]; exact v6, (K.1 12 (by omega)).trans w2, fun i hi => ?_, fun s hs => ?_, fun c hc => (w5 c hc).keep K id (fun _ _ h => h)⟩
          · show σ'.2.1 91 i = nI ((eTl E ++ [(k, [])]).getD i (0, [])).1 ∧ σ'.2.1 92 i = nI ((eTl E ++ [(k, [])]).getD i (0, [])).2.length ∧ ∀ p (h : p < ((eTl E ++ [(k, [])]).getD i (0, [])).2.length), p < 4 ∧ σ'.2.1 93 (4 * i + p) = ((eTl E ++ [(k, [])]).getD i (0, [])).2[p].1 ∧ σ'.2.1 94 (4 * i + p) = nI ((eTl E ++ [(k, [])]).getD i (0, [])).2[p].2.1 ∧ σ'.2.1 95 (4 * i + p) = nI ((eTl E ++ [(k, [])]).getD i (0, [])).2[p].2.2
            obtain ⟨b1, b2, b3⟩ := w3 i hi
            by_cases e : i = (eTl E).length
            · have ed : (eTl E ++ [(k, ([] : List (Int32 × Nat × Nat)))]).getD i (0, []) = (k, []) := by rw [getD_snoc, if_pos e]
              rw [ed]
              have ed0 : eTi E i = (0, []) := by unfold eTi; rw [List.getD_eq_getElem?_getD, List.getElem?_eq_none (by omega)]; rfl
              rw [ed0] at b2
              refine ⟨by rw [e]; exact v91, (K.2.1 92 _ (by decide) (by omega)).trans b2, fun p hp => absurd hp (Nat.not_lt_zero _)⟩
            · have ed : (eTl E ++ [(k, ([] : List (Int32 × Nat × Nat)))]).getD i (0, []) = eTi E i := by rw [getD_snoc, if_neg e]; rfl
              rw [ed]
              refine ⟨(K.2.1 91 _ (by decide) (by omega)).trans b1, (K.2.1 92 _ (by decide) (by omega)).trans b2, fun p hp => ?_⟩
              obtain ⟨r1, r2, r3, r4⟩ := b3 p hp
              exact ⟨r1, (K.2.1 93 _ (by decide) (by omega)).trans r2, (K.2.1 94 _ (by decide) (by omega)).trans r3, (K.2.1 95 _ (by decide) (by omega)).trans r4⟩
          · exact sEs1.k (w4 s hs) (hso3 hA s hs) K (fun b j h => by unfold sB at h; omega) (fun _ _ h => h) (fun _ _ h => h)
        obtain ⟨p0, q1, q2, q3⟩ := hP.up
        exact ⟨rfl, ⟨hS.1.keep K (by omega) (fun j h => by omega), hE', (K.1 44 (by omega)).trans hS.2.2.1, hS.2.2.2.1.bk Kb, fun z => absurd z e1⟩, p0, (K.1 1 (by omega)).trans q1, q2, fun c hc => (q3.1 c hc).keep K id (fun _ _ h => h), fun s p v hs hp4 ev => (q3.2 s p v hs hp4 ev).keep K id (fun _ _ h => h)⟩
      · exfalso
        rcases hb with z | z | z
        · exact e1 z
        · omega
        · exact z k hk ek
    rw [ek] at goal
    dsimp only
    rw [show (1 : Int32) = nI 1 from rfl, pk_sub (by omega), Nat.add_sub_cancel]
    exact goal
  · have b := bad (Or.inr (Or.inr hno))
    exact ⟨fun _ => b, fun g => ⟨fun g2 => absurd (Int32.le_trans (h.resolve_left g) g2) (by decide), fun _ => b⟩⟩
end OTL
