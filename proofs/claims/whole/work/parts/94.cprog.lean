/-! THE CLASS'S PROGRESS: its jobs and results -/
theorem cE.tr2 {W V : Nat → Prop} {a b c : mm_H} (h : cE W a b) (k : cE V b c) (f : ∀ x, x < a.length → V x → W x) : cE W a c :=
  ⟨Nat.le_trans h.1 k.1, fun x hx hw => (k.2 x (Nat.lt_of_lt_of_le hx h.1) (fun g => hw (f x hx g))).trans (h.2 x hx hw)⟩
/-- the jobs of step s -/
def cJs (hp : mm_H) (s : Nat) (jl : List Value) : Prop := hp[57 + 5 * s]? = some (2009, jl) ∧ jl.length = 16 ∧ ∀ n (h : n < jl.length), jl[n] = .null ∨ ∃ (j : Nat) (ws : List (List Nat)), jl[n] = .ref j ∧ cJw hp j s n ws ∧ 113 ≤ j
def cRs (hp : mm_H) (s : Nat) (rl : List Value) : Prop := hp[58 + 5 * s]? = some (2002, rl) ∧ rl.length = 16
def wS (s : Nat) (jl : List Value) (x : Nat) : Prop := (56 + 5 * s ≤ x ∧ x ≤ 59 + 5 * s) ∨ ∃ j : Nat, Value.ref j ∈ jl ∧ wJ j x
def nul (jl : List Value) : Nat := (jl.filter (fun v => match v with | .null => true | _ => false)).length
theorem cJw.same {hp : mm_H} {j s n s' n' : Nat} {ws ws' : List (List Nat)} (a : cJw hp j s n ws) (b : cJw hp j s' n' ws') (h1 : s < 100) (h2 : n < 100) (h3 : s' < 100) (h4 : n' < 100) : s = s' ∧ n = n' := by
  obtain ⟨_, _, _, a, _⟩ := a
  obtain ⟨_, _, _, b, _⟩ := b
  rw [a] at b
  simp only [Option.some.injEq, Prod.mk.injEq, List.cons.injEq, Value.int.injEq, true_and] at b
  exact ⟨(nI_eq (by omega) (by omega)).mp b.1, (nI_eq (by omega) (by omega)).mp b.2.1⟩
theorem cJw.dis {hp : mm_H} {j k s n s' n' : Nat} {ws ws' : List (List Nat)} (a : cJw hp j s n ws) (b : cJw hp k s' n' ws') (h : j ≠ k) : ∀ x, wJ j x → ¬ wJ k x := by
  obtain ⟨_, _, _, a0, a1, _, a2, _⟩ := a
  obtain ⟨_, _, _, b0, b1, _, b2, _⟩ := b
  rintro x (rfl | rfl | rfl) (e | e | e)
  · exact h e
  · rw [e, b1] at a0; cases a0
  · rw [e, b2] at a0; cases a0
  · rw [e, b0] at a1; cases a1
  · omega
  · rw [e, b2] at a1; cases a1
  · rw [e, b0] at a2; cases a2
  · rw [e, b1] at a2; cases a2
  · omega
theorem cPv.keep {hp hp' : mm_H} {W : Nat → Prop} {s : Nat} {lv : List Nat} {jc oc nj tk ph : Int32} {out : Value} (h : cPv hp s lv jc oc nj tk ph out) (E : cE W hp hp') (h0 : ¬ W (56 + 5 * s)) (h1 : ¬ W (59 + 5 * s)) : cPv hp' s lv jc oc nj tk ph out := by
  obtain ⟨ls, a, b, c⟩ := h
  exact ⟨ls, E.at a h0, E.at b h1, c⟩
theorem cJs.keep {hp hp' : mm_H} {W : Nat → Prop} {s : Nat} {jl : List Value} (h : cJs hp s jl) (E : cE W hp hp') (h0 : ¬ W (57 + 5 * s)) (h1 : ∀ j, Value.ref j ∈ jl → ∀ x, wJ j x → ¬ W x) : cJs hp' s jl := by
  obtain ⟨a, b, c⟩ := h
  refine ⟨E.at a h0, b, fun n hn => ?_⟩
  rcases c n hn with e | ⟨j, ws, e, J, hj⟩
  · exact Or.inl e
  · have hm : Value.ref j ∈ jl := e ▸ List.getElem_mem hn
    exact Or.inr ⟨j, ws, e, J.keep E (h1 j hm _ (Or.inl rfl)) (h1 j hm _ (Or.inr (Or.inl rfl))) (h1 j hm _ (Or.inr (Or.inr rfl))), hj⟩
theorem cRs.nV {hp : mm_H} {s : Nat} {rl jl : List Value} (R : cRs hp s rl) (J : cJs hp s jl) : nV hp (58 + 5 * s) := by
  have h := R.1
  have g := J.1
  rw [show 58 + 5 * s = (57 + 5 * s) + 1 by omega] at h ⊢
  exact nV.of2 h (by decide) g (by decide)
theorem cJs.nj {hp : mm_H} {s : Nat} {jl : List Value} (J : cJs hp s jl) : nV hp (57 + 5 * s) := nV.of J.1 (by decide) (by decide) (by decide)
theorem cJs.nVs {hp : mm_H} {s : Nat} {jl rl : List Value} {lv : List Nat} {jc oc nj tk ph : Int32} {out : Value} (J : cJs hp s jl) (R : cRs hp s rl) (P : cPv hp s lv jc oc nj tk ph out) : ∀ x, x < hp.length → wS s jl x → nV hp x := by
  rintro x hx (h | ⟨j, hm, hw⟩)
  · have : x = 56 + 5 * s ∨ x = 57 + 5 * s ∨ x = 58 + 5 * s ∨ x = 59 + 5 * s := by omega
    rcases this with rfl | rfl | rfl | rfl
    · exact P.nV _ hx (Or.inl rfl)
    · exact J.nj
    · exact R.nV J
    · exact P.nV _ hx (Or.inr rfl)
  · obtain ⟨n, hn, e⟩ := List.getElem_of_mem hm
    rcases J.2.2 n hn with g | ⟨j', ws, g, Jw, _⟩
    · rw [e] at g; cases g
    · rw [e] at g
      cases g
      exact Jw.nV x hx hw
theorem c3_sz (hp : mm_H) (a b c : mm_C) : mm_sz (hp ++ [a, b, c]) = mm_sz hp + a.2.length + b.2.length + c.2.length := by
  rw [show hp ++ [a, b, c] = ((hp ++ [a]) ++ [b]) ++ [c] by simp, mm_sz_push, mm_sz_push, mm_sz_push]
section CPR
variable {X : List Int32} {d : Nat} {hp : mm_H} {Q : Option Value → mm_H → Prop}
/-- skipJob -/
theorem k84 {s n q : Nat} {lv : List Nat} {jc oc nj tk ph : Int32} {out : Value} {rl : List Value} {vs : List Value} (P : cPv hp s lv jc oc nj tk ph out) (R : cRs hp s rl) (hn : n < 16) (hq : hp[q]? = some (2, vs)) (H : ∀ hp', cE (fun x => x = 58 + 5 * s) hp hp' → cG 0 hp hp' → cRs hp' s (rl.set n (.ref q)) → Q none hp') : mm_R X (d + 1) 84 0 (mm_L0 84 [.ref (56 + 5 * s), .int (nI n), .ref q]) [] hp Q := by
  obtain ⟨ls, p0, _⟩ := P
  obtain ⟨r0, r1⟩ := R
  have l0 := (List.getElem?_eq_some_iff.mp r0).1
  refine w84_0 (pk_lt n 0 (fun g => absurd g (by omega)) (fun _ => pk_le 16 n (fun g => absurd g (by omega)) (fun _ => ⟨_, _, _, rfl, p0, rfl, rfl, _, 2002, _, rfl, r0, by decide, rfl, nI_pos' (by omega), by rw [nI_clamp (by omega)]; omega, Or.inr ⟨q, 2, vs, rfl, hq, by decide, rfl⟩, ?_⟩)))
  rw [nI_clamp (by omega)]
  exact H _ (cE.set rfl) ⟨by simp, by rw [mm_sz_set r0 (by simp)]; omega⟩ ⟨List.getElem?_set_self l0, by simpa using r1⟩
/-- Job's constructor -/
theorem k86 {j s n : Nat} (hj : j = hp.length) (H : ∀ hp', cE (fun _ => False) hp hp' → hp'.length = hp.length + 3 → cG 8 hp hp' → cJw hp' j s n [] → Q none hp') : mm_R X (d + 1) 86 0 (mm_L0 86 [.ref j, .int (nI s), .int (nI n)]) [] (hp ++ [(9, mm_df 9)]) Q := by
  subst hj
  have g0 : ∀ l : mm_H, (hp ++ ([((9 : Nat), mm_df 9)] ++ l))[hp.length]? = some (9, mm_df 9) := fun l => by simp
  refine w86_0 ⟨⟨by decide, by decide⟩, ?_⟩
  rintro q1 hp1 rfl rfl
  have e1 : (hp ++ [((9 : Nat), mm_df 9)]).length = hp.length + 1 := by simp
  rw [e1, List.append_assoc, show Int32.toNatClampNeg (192 : Int32) = 192 from rfl]
  refine ⟨hp.length, _, rfl, g0 _, Nat.le_of_ble_eq_true rfl, rfl, ⟨by decide, by decide⟩, ?_⟩
  rw [List.set_append_right _ _ (Nat.le_refl _), Nat.sub_self]
  rintro q4 hp5 rfl rfl
  rw [show Int32.toNatClampNeg (8 : Int32) = 8 from rfl]
  have e2 : (hp ++ ([((9 : Nat), mm_df 9)] ++ [((1001 : Nat), List.replicate 192 (Value.int 0))]).set 0 (9, (mm_df 9).set 2 (.ref (hp.length + 1)))).length = hp.length + 2 := by rw [List.length_append, List.length_set]; rfl
  rw [e2, List.append_assoc]
  have e3 : (([((9 : Nat), mm_df 9)] ++ [((1001 : Nat), List.replicate 192 (Value.int 0))]).set 0 (9, (mm_df 9).set 2 (.ref (hp.length + 1))) ++ [((1000 : Nat), List.replicate 8 (Value.int 0))]) = [((9 : Nat), (mm_df 9).set 2 (.ref (hp.length + 1))), (1001, List.replicate 192 (.int 0)), (1000, List.replicate 8 (.int 0))] := rfl
  rw [e3]
  have h3 : ∀ (c : mm_C) (l : mm_H), (hp ++ (c :: l))[hp.length]? = some c := fun c l => by simp
  have s3 : ∀ (c c' : mm_C) (l : mm_H), (hp ++ (c :: l)).set hp.length c' = hp ++ (c' :: l) := fun c c' l => by
    rw [List.set_append_right _ _ (Nat.le_refl _), Nat.sub_self]; rfl
  refine ⟨hp.length, _, rfl, h3 _ _, Nat.le_of_ble_eq_true rfl, rfl, ?_⟩
  rw [s3]
  refine ⟨hp.length, _, rfl, h3 _ _, Nat.le_of_ble_eq_true rfl, rfl, ?_⟩
  rw [s3]
  refine ⟨hp.length, _, rfl, h3 _ _, Nat.le_of_ble_eq_true rfl, rfl, ?_⟩
  rw [s3]
  refine H _ cE.app (by rw [List.length_append]; rfl) ⟨by rw [List.length_append]; show hp.length + 3 ≤ _; omega, ?_⟩ ⟨0, List.replicate 192 (.int 0), List.replicate 8 (.int 0), h3 _ _, ?_, by rw [List.length_replicate]; rfl, ?_, by rw [List.length_replicate]; rfl, fun vs w e => ?_, fun w hw => (nomatch hw), fun v hv => ⟨0, List.eq_of_mem_replicate hv⟩⟩
  · rw [c3_sz, List.length_replicate, List.length_replicate]
    show mm_sz hp + 7 + 192 + 8 ≤ _
    omega
  · rw [List.getElem?_append_right (by omega), show hp.length + 1 - hp.length = 1 by omega]; rfl
  · rw [List.getElem?_append_right (by omega), show hp.length + 2 - hp.length = 2 by omega]; rfl
  · simp at e
/-- openJob -/
theorem k85 {s n : Nat} {lv : List Nat} {jc nj tk ph : Int32} {oc : Nat} {out : Value} {jl : List Value} (P : cPv hp s lv jc (nI oc) nj tk ph out) (J : cJs hp s jl) (hn : n < 16) (hs : s < 6) (h0 : 113 ≤ hp.length)
    (H : ∀ (hp' : mm_H) (j : Nat) (ws : List (List Nat)) (jl' : List Value) (k : Nat), cE (fun x => 56 + 5 * s ≤ x ∧ x ≤ 57 + 5 * s) hp hp' → cG (8 * k) hp hp' → k + nul jl' = nul jl → cPv hp' s lv jc (nI (oc + 1)) nj tk ph out → cJs hp' s jl' → jl' = jl.set n (.ref j) → (jl[n]? = some (.ref j) ∨ j = hp.length) → cJw hp' j s n ws → 113 ≤ j → Q (some (.ref j)) hp') : mm_R X (d + 2) 85 0 (mm_L0 85 [.ref (56 + 5 * s), .int (nI n)]) [] hp Q := by
  obtain ⟨ls, p0, p1, p2, p3⟩ := id P
  obtain ⟨j0, j1, j2⟩ := id J
  have l0 := (List.getElem?_eq_some_iff.mp p0).1
  have l1 := (List.getElem?_eq_some_iff.mp j0).1
  have hnl : n < jl.length := by omega
  refine w85_0 (pk_lt n 0 (fun g => absurd g (by omega)) (fun _ => pk_lt n 16 (fun _ => ⟨_, _, _, rfl, p0, rfl, _, _, _, _, rfl, j0, by decide, rfl, nI_pos' (by omega), by rw [nI_clamp (by omega)]; exact List.getElem?_eq_getElem hnl, ?_⟩) (fun g => absurd g (by omega))))
  rcases j2 n hnl with e | ⟨j, ws, e, Jw, hj⟩
  · -- a new one
    rw [e]
    refine Or.inl ⟨rfl, _, _, _, rfl, p0, rfl, ?_⟩
    rintro q4 hp5 rfl rfl
    refine ⟨_, _, _, rfl, by rw [List.getElem?_append_left l0]; exact p0, rfl, rfl, k86 rfl (fun hp1 E1 L1 G1 J1 => ⟨rfl, ?_⟩)⟩
    obtain ⟨lb, junk, ej, jw0, _⟩ := id J1
    have g57 : hp1[57 + 5 * s]? = some (2009, jl) := E1.at j0 id
    have g56 := E1.at p0 id
    refine ⟨_, 2009, _, rfl, g57, by decide, rfl, nI_pos' (by omega), by rw [nI_clamp (by omega)]; exact hnl, Or.inr ⟨hp.length, 9, _, rfl, jw0, by decide, rfl⟩, ?_⟩
    rw [nI_clamp (by omega)]
    have E2 : cE (fun x => x = 57 + 5 * s) hp1 (hp1.set (57 + 5 * s) (2009, jl.set n (.ref hp.length))) := cE.set rfl
    have g56' := E2.at g56 (by omega)
    refine ⟨_, _, _, rfl, g56', rfl, _, _, rfl, g56', Nat.le_of_ble_eq_true rfl, rfl, ?_⟩
    have l1' : 57 + 5 * s < hp1.length := (List.getElem?_eq_some_iff.mp g57).1
    have l0' : 56 + 5 * s < (hp1.set (57 + 5 * s) (2009, jl.set n (.ref hp.length))).length := (List.getElem?_eq_some_iff.mp g56').1
    rw [nI_1]
    -- the last heap
    have E3 : ∀ c : mm_C, cE (fun x => x = 56 + 5 * s) (hp1.set (57 + 5 * s) (2009, jl.set n (.ref hp.length))) ((hp1.set (57 + 5 * s) (2009, jl.set n (.ref hp.length))).set (56 + 5 * s) c) := fun c => cE.set rfl
    have g57' : ∀ c : mm_C, ((hp1.set (57 + 5 * s) (2009, jl.set n (.ref hp.length))).set (56 + 5 * s) c)[57 + 5 * s]? = some (2009, jl.set n (.ref hp.length)) := fun c => by
      rw [List.getElem?_set_ne (by omega), List.getElem?_set_self l1']
    refine ⟨_, _, _, rfl, List.getElem?_set_self l0', rfl, _, _, _, _, rfl, g57' _, by decide, rfl, nI_pos' (by omega), by rw [nI_clamp (by omega)]; exact List.getElem?_set_self hnl, Or.inr ⟨_, rfl⟩, ?_⟩
    have EA : ∀ c : mm_C, cE (fun x => 56 + 5 * s ≤ x ∧ x ≤ 57 + 5 * s) hp ((hp1.set (57 + 5 * s) (2009, jl.set n (.ref hp.length))).set (56 + 5 * s) c) := fun c => ((E1.mono (fun x _ h => h.elim)).tr (E2.mono (fun x _ h => by omega))).tr ((E3 c).mono (fun x _ h => by omega))
    have nlt : nul jl = 1 + nul (jl.set n (.ref hp.length)) := by
      have hspl : jl = jl.take n ++ (.null :: jl.drop (n + 1)) := by
        rw [← e, ← List.drop_eq_getElem_cons hnl, List.take_append_drop]
      have hset : jl.set n (.ref hp.length) = jl.take n ++ (.ref hp.length :: jl.drop (n + 1)) := by
        rw [List.set_eq_take_append_cons_drop, if_pos hnl]
      rw [hset]
      have : nul jl = nul (jl.take n ++ (.null :: jl.drop (n + 1))) := by rw [← hspl]
      rw [this]
      unfold nul
      rw [List.filter_append, List.filter_append, List.length_append, List.length_append]
      simp only [List.filter_cons, if_true, List.length_cons]
      simp
      omega
    have J1' : ∀ c : mm_C, cJw ((hp1.set (57 + 5 * s) (2009, jl.set n (.ref hp.length))).set (56 + 5 * s) c) hp.length s n [] := fun c => (J1.keep E2 (by omega) (by omega) (by omega)).keep (E3 c) (by omega) (by omega) (by omega)
    refine H _ hp.length [] (jl.set n (.ref hp.length)) 1 (EA _) ?_ (by omega) ⟨ls, List.getElem?_set_self l0', ?_, p2, p3⟩ ⟨g57' _, by simpa using j1, fun m hm => ?_⟩ rfl (Or.inr rfl) (J1' _) h0
    · have z1 := mm_sz_set (c' := ((2009 : Nat), jl.set n (.ref hp.length))) g57 (by simp)
      refine ⟨?_, ?_⟩
      · have := G1.1; simp; omega
      · have := G1.2
        rw [mm_sz_set g56' (by rfl), z1]; omega
    · rw [List.getElem?_set_ne (by omega), List.getElem?_set_ne (by omega)]
      exact E1.at p1 id
    · by_cases em : m = n
      · subst em
        exact Or.inr ⟨hp.length, [], by rw [List.getElem_set_self], J1' _, h0⟩
      · rw [List.getElem_set_ne (fun g => em g.symm)]
        rw [List.length_set] at hm
        rcases j2 m hm with g | ⟨j', ws', g, Jw', hj'⟩
        · exact Or.inl g
        · refine Or.inr ⟨j', ws', g, Jw'.keep (EA _) (by omega) (by omega) (by omega), hj'⟩
  · rw [e]
    refine Or.inr ⟨⟨_, rfl⟩, _, _, _, rfl, p0, rfl, _, _, rfl, p0, Nat.le_of_ble_eq_true rfl, rfl, ?_⟩
    rw [nI_1]
    have E1 : ∀ c : mm_C, cE (fun x => 56 + 5 * s ≤ x ∧ x ≤ 57 + 5 * s) hp (hp.set (56 + 5 * s) c) := fun c => cE.set ⟨Nat.le_refl _, by omega⟩
    have g57' : ∀ c : mm_C, (hp.set (56 + 5 * s) c)[57 + 5 * s]? = some (2009, jl) := fun c => by rw [List.getElem?_set_ne (by omega)]; exact j0
    refine ⟨_, _, _, rfl, List.getElem?_set_self l0, rfl, _, _, _, _, rfl, g57' _, by decide, rfl, nI_pos' (by omega), by rw [nI_clamp (by omega), ← e]; exact List.getElem?_eq_getElem hnl, Or.inr ⟨_, rfl⟩, ?_⟩
    have hset : jl.set n (.ref j) = jl := by rw [← e]; exact List.set_getElem_self hnl
    refine H _ j ws jl 0 (E1 _) ⟨by simp, by rw [mm_sz_set p0 (by rfl)]; omega⟩ (by omega) ⟨ls, List.getElem?_set_self l0, ?_, p2, p3⟩ ⟨g57' _, j1, fun m hm => ?_⟩ hset.symm (Or.inl (by rw [List.getElem?_eq_getElem hnl, e])) (Jw.keep (E1 _) (by omega) (by omega) (by omega)) hj
    · rw [List.getElem?_set_ne (by omega)]; exact p1
    · rcases j2 m hm with g | ⟨j', ws', g, Jw', hj'⟩
      · exact Or.inl g
      · exact Or.inr ⟨j', ws', g, Jw'.keep (E1 _) (by omega) (by omega) (by omega), hj'⟩
end CPR
