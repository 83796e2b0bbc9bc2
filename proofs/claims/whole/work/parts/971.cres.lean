/-! RESULTS of commands, and the class's -/
def aJs : List (List Nat) → List Nat
  | [] => []
  | [w] => w
  | w :: v :: l => w ++ 32 :: aJs (v :: l)
def aSm : List (List Nat) → Int32 → Option Int32
  | [], s => some s
  | w :: ws, s => (mt_pn w).bind (fun n => aSm ws (s + n))
def aIt : List (List Nat) → Option (List mT)
  | [] => some []
  | w :: ws => (rX w).bind (fun t => (aIt ws).map (fun l => t :: l))
def aNu (n : Int32) : Option mT := if -999999 ≤ n ∧ n ≤ 999999 then some (.leaf (some (.inl n))) else none
def aRes (k : Nat) (ws : List (List Nat)) : Option mT := if k = 0 then rX (aJs ws) else if k = 1 then some (.leaf (some (.inl (nI ws.length)))) else if k = 2 then (aSm ws 0).bind aNu else (aIt ws).map mt_mk
theorem aJs_snoc : ∀ (vs : List (List Nat)) (w : List Nat), aJs (vs ++ [w]) = aJs vs ++ ((if vs = [] then [] else [32]) ++ w)
  | [], w => rfl
  | [v], w => rfl
  | v :: u :: l, w => by
    show v ++ 32 :: aJs ((u :: l) ++ [w]) = (v ++ 32 :: aJs (u :: l)) ++ _
    rw [aJs_snoc (u :: l) w]
    simp
theorem aEn_get {vs us : List (List Nat)} {w : List Nat} : (aEn 0 (vs ++ w :: us))[vs.length]? = some (vs.flatten.length + w.length) := by
  have gen : ∀ (vs : List (List Nat)) (o : Nat), (aEn o (vs ++ w :: us))[vs.length]? = some (o + (vs.flatten.length + w.length)) := by
    intro vs
    induction vs with
    | nil => intro o; simp [aEn]
    | cons v vs ih =>
      intro o
      show ((o + v.length) :: aEn (o + v.length) (vs ++ w :: us))[vs.length + 1]? = _
      rw [List.getElem?_cons_succ, ih]
      rw [List.flatten_cons, List.length_append]
      congr 1; omega
  have := gen vs 0
  simpa using this
theorem cTx.disJ {hp : mm_H} {r j s n : Nat} {x : List Nat} {junk : List Value} {ws : List (List Nat)} (T : cTx hp r x junk) (J : cJw hp j s n ws) : (j ≠ r ∧ j ≠ r + 1) ∧ (j + 1 ≠ r ∧ j + 1 ≠ r + 1) ∧ (j + 2 ≠ r ∧ j + 2 ≠ r + 1) := by
  obtain ⟨_, _, _, a, b, _, c, _⟩ := J
  obtain ⟨m, t1, t2, _⟩ := T
  refine ⟨⟨?_, ?_⟩, ⟨?_, ?_⟩, ⟨?_, ?_⟩⟩
  · rintro rfl; rw [t1] at a; cases a
  · rintro rfl; rw [t2] at a; cases a
  · rintro rfl; rw [t1] at b; cases b
  · intro e
    have : j = r := by omega
    subst this
    rw [t1] at a; cases a
  · rintro rfl; rw [t1] at c; cases c
  · intro e
    rw [e, t2] at c; cases c
section CRE
variable {X : List Int32} {d : Nat} {hp : mm_H} {Q : Option Value → mm_H → Prop}
theorem k34c {r c R : Nat} {s : List Nat} {junk : List Value} (T : cTx hp r s junk) (hroom : s.length + junk.length = R) (hR : R ≤ 24) (hc : c < 65536)
    (H1 : s.length < R → mt_lt c → ∀ hp' junk', cE (fun x => x = r ∨ x = r + 1) hp hp' → cG 0 hp hp' → cTx hp' r (s ++ [c]) junk' → s.length + 1 + junk'.length = R → Q (some (.int 1)) hp') (H0 : ¬ (s.length < R ∧ mt_lt c) → Q (some (.int 0)) hp) : mm_R X (d + 1) 34 0 (mm_L0 34 [.ref r, .int (nI c)]) [] hp Q := by
  by_cases h : s.length < R ∧ mt_lt c
  · cases junk with
    | nil => simp only [List.length_nil] at hroom; omega
    | cons j junk =>
      rw [List.length_cons] at hroom
      exact k34 T (by omega) h.2 (fun hp' E G T' => H1 h.1 h.2 hp' junk E G T' (by omega))
  · refine k34x T (by omega) hc ?_ (H0 h)
    by_cases h1 : s.length < R
    · exact Or.inr (Or.inr (fun h2 => h ⟨h1, h2⟩))
    · have : junk = [] := List.length_eq_zero_iff.mp (by omega)
      exact Or.inr (Or.inl this)
/-- wordEnd, wordBegin -/
theorem k104 {j s n : Nat} {vs us : List (List Nat)} {w : List Nat} (J : cJw hp j s n (vs ++ w :: us)) (hl : (vs ++ w :: us).length ≤ 8) (H : Q (some (.int (nI (vs.flatten.length + w.length)))) hp) : mm_R X (d + 1) 104 0 (mm_L0 104 [.ref j, .int (nI vs.length)]) [] hp Q := by
  obtain ⟨lb, junk, ej, a, b, c, e, f, g, h, i⟩ := J
  have el : (vs ++ w :: us).length = vs.length + (us.length + 1) := by simp
  have hen := aEn_len (vs ++ w :: us) 0
  refine w104_0 (pk_lt vs.length 0 (fun g => absurd g (by omega)) (fun _ => ⟨j, _, _, rfl, a, rfl, pk_le (vs ++ w :: us).length vs.length (fun g => absurd g (by omega)) (fun _ => pk_lt vs.length 8 (fun _ => ⟨j, _, _, rfl, a, rfl, j + 2, _, _, rfl, e, nI_pos' (by omega), ?_, H⟩) (fun g => absurd g (by omega)))⟩))
  rw [nI_clamp (by omega), List.getElem?_append_left (by rw [List.length_map]; omega), List.getElem?_map, aEn_get]; rfl
theorem k105 {j s n : Nat} {vs us : List (List Nat)} (J : cJw hp j s n (vs ++ us)) (hl : (vs ++ us).length ≤ 8) (H : Q (some (.int (nI vs.flatten.length))) hp) : mm_R X (d + 1) 105 0 (mm_L0 105 [.ref j, .int (nI vs.length)]) [] hp Q := by
  obtain ⟨lb, junk, ej, a, b, c, e, f, g, h, i⟩ := J
  have el : (vs ++ us).length = vs.length + us.length := by simp
  have hen := aEn_len (vs ++ us) 0
  refine w105_0 (pk_le vs.length 0 (fun h0 => ?_) (fun h0 => pk_le vs.length 8 (fun _ => ⟨j, _, _, rfl, a, rfl, ?_⟩) (fun g => absurd g (by omega))))
  · have : vs = [] := List.length_eq_zero_iff.mp (by omega)
    rw [this] at H; exact H
  · obtain ⟨v, hv⟩ : ∃ v, vs = vs.take (vs.length - 1) ++ [v] := by
      obtain ⟨b, hb⟩ := List.length_eq_one_iff.mp (show (vs.drop (vs.length - 1)).length = 1 by rw [List.length_drop]; omega)
      exact ⟨b, by rw [← hb, List.take_append_drop]⟩
    have hln : (vs.take (vs.length - 1)).length = vs.length - 1 := by rw [List.length_take]; omega
    rw [show nI vs.length - (1 : Int32) = nI (vs.length - 1) from pk_sub (b := 1) (by omega)]
    refine ⟨j + 2, _, _, rfl, e, nI_pos' (by omega), ?_, H⟩
    rw [nI_clamp (by omega), List.getElem?_append_left (by rw [List.length_map]; omega), List.getElem?_map]
    have e1 : vs ++ us = vs.take (vs.length - 1) ++ v :: us := by
      conv => lhs; rw [hv]
      simp
    have eg := aEn_get (vs := vs.take (vs.length - 1)) (w := v) (us := us)
    rw [hln] at eg
    rw [e1, eg]
    have e2 : vs.flatten.length = (vs.take (vs.length - 1)).flatten.length + v.length := by
      conv => lhs; rw [hv]
      rw [List.flatten_append, List.length_append]; simp
    rw [e2]; rfl
theorem k103_13 {j s n r R b e : Nat} {vs us : List (List Nat)} {w : List Nat} {i2 : Int32} (hR : R ≤ 24) (hl : (vs ++ w :: us).length ≤ 8) (hb : b = vs.flatten.length) (he : e = b + w.length) (hw : ∀ c ∈ w, c < 65536) : ∀ (m i : Nat) (x : List Nat) (hp : mm_H) (junk : List Value), i + m = w.length → cJw hp j s n (vs ++ w :: us) → cTx hp r x junk → x.length + junk.length = R →
    (x.length + m ≤ R → (∀ c ∈ w.drop i, mt_lt c) → ∀ hp' junk', cE (fun y => y = r ∨ y = r + 1) hp hp' → cG 0 hp hp' → cTx hp' r (x ++ w.drop i) junk' → x.length + m + junk'.length = R → Q (some (.int 1)) hp') →
    (¬ (x.length + m ≤ R ∧ ∀ c ∈ w.drop i, mt_lt c) → ∀ hp', cE (fun y => y = r ∨ y = r + 1) hp hp' → cG 0 hp hp' → Q (some (.int 0)) hp') →
    mm_R X (d + 2) 103 13 [some (.ref j), some (.ref r), some (.int i2), some (.int (nI e)), some (.int (nI (b + i)))] [] hp Q := by
  intro m
  induction m with
  | zero =>
    intro i x hp junk hi J T hroom H1 H0
    have hw8 := flat_le J.w24
    have hfl : (vs ++ w :: us).flatten.length = vs.flatten.length + (w.length + us.flatten.length) := by simp only [List.flatten_append, List.flatten_cons, List.length_append]
    have hd : w.drop i = [] := List.drop_eq_nil_of_le (by omega)
    rw [hd] at H1
    exact w103_13 (pk_lt (b + i) 0 (fun g => absurd g (by omega)) (fun _ => pk_le e (b + i) (fun _ => H1 (by omega) (fun c hc => nomatch hc) hp junk cE.rf cG.rf (by simpa using T) (by omega)) (fun g => absurd g (by omega))))
  | succ m ih =>
    intro i x hp junk hi J T hroom H1 H0
    have hw8 := flat_le J.w24
    have hfl : (vs ++ w :: us).flatten.length = vs.flatten.length + (w.length + us.flatten.length) := by simp only [List.flatten_append, List.flatten_cons, List.length_append]
    obtain ⟨lb, jk, ej, a, bb, c, ee, f, _⟩ := id J
    obtain ⟨nt, t1, t2, _⟩ := id T
    have hil : i < w.length := by omega
    have hdr := List.drop_eq_getElem_cons hil
    have hcl := hw _ (List.getElem_mem hil)
    have hlet : ((vs ++ w :: us).flatten.map mI ++ jk)[b + i]? = some (mI w[i]) := by
      rw [List.getElem?_append_left (by rw [List.length_map]; omega), List.getElem?_map, List.flatten_append, List.flatten_cons, List.getElem?_append_right (by omega), hb, show vs.flatten.length + i - vs.flatten.length = i by omega, List.getElem?_append_left hil, List.getElem?_eq_getElem hil]; rfl
    have hcn : ((vs ++ w :: us).flatten.map mI ++ jk).length = 192 := by rw [List.length_append, List.length_map]; exact c
    refine w103_13 (pk_lt (b + i) 0 (fun g => absurd g (by omega)) (fun _ => pk_le e (b + i) (fun g => absurd g (by omega)) (fun _ => ⟨j, _, _, rfl, a, rfl, j + 1, _, _, rfl, bb, by decide, rfl, ?_⟩)))
    rw [hcn]
    refine pk_le 192 (b + i) (fun g => absurd g (by omega)) (fun _ => ⟨rfl, j, _, _, rfl, a, rfl, j + 1, _, _, rfl, bb, nI_pos' (by omega), by rw [nI_clamp (by omega)]; exact hlet, ⟨r, _, rfl, t1⟩, ?_⟩)
    obtain ⟨⟨d1, d2⟩, ⟨d3, d4⟩, ⟨d5, d6⟩⟩ := T.disJ J
    refine k34c T hroom hR hcl (fun h1 h2 hp1 junk1 E1 G1 T1 r1 => ⟨_, rfl, fun _ => ?_, fun g => absurd g (by decide)⟩) (fun hno => ⟨_, rfl, fun g => absurd rfl g, fun _ => H0 (fun g => hno ⟨by omega, g.2 _ (by rw [hdr]; exact List.mem_cons_self)⟩) hp cE.rf cG.rf⟩)
    rw [nI_1, Nat.add_assoc]
    have el : (x ++ [w[i]]).length = x.length + 1 := by simp
    refine ih (i + 1) (x ++ [w[i]]) hp1 junk1 (by omega) (J.keep E1 (by omega) (by omega) (by omega)) T1 (by omega) ?_ ?_
    · intro a1 a2 hp2 junk2 E2 G2 T2 r2
      rw [el] at a1 r2
      refine H1 (by omega) ?_ hp2 junk2 (E1.tr E2) (G1.tr G2) (by rw [hdr]; simpa using T2) (by omega)
      rw [hdr]
      intro c' hc'
      rcases List.mem_cons.mp hc' with rfl | hc'
      · exact h2
      · exact a2 c' hc'
    · intro hno hp2 E2 G2
      refine H0 (fun g => hno ⟨by rw [el]; omega, fun c' hc' => g.2 c' (by rw [hdr]; exact List.mem_cons_of_mem _ hc')⟩) hp2 (E1.tr E2) (G1.tr G2)
/-- addWordTo -/
theorem k103 {j s n r R : Nat} {vs us : List (List Nat)} {w x : List Nat} {junk : List Value} (hR : R ≤ 24) (hl : (vs ++ w :: us).length ≤ 8) (hw : ∀ c ∈ w, c < 65536) (J : cJw hp j s n (vs ++ w :: us)) (T : cTx hp r x junk) (hroom : x.length + junk.length = R)
    (H1 : x.length + w.length ≤ R → (∀ c ∈ w, mt_lt c) → ∀ hp' junk', cE (fun y => y = r ∨ y = r + 1) hp hp' → cG 0 hp hp' → cTx hp' r (x ++ w) junk' → x.length + w.length + junk'.length = R → Q (some (.int 1)) hp')
    (H0 : ¬ (x.length + w.length ≤ R ∧ ∀ c ∈ w, mt_lt c) → ∀ hp', cE (fun y => y = r ∨ y = r + 1) hp hp' → cG 0 hp hp' → Q (some (.int 0)) hp') : mm_R X (d + 3) 103 0 (mm_L0 103 [.ref j, .ref r, .int (nI vs.length)]) [] hp Q := by
  refine w103_0 ⟨J.rc rfl, k104 J hl ⟨_, rfl, J.rc rfl, k105 J hl ⟨_, rfl, ?_⟩⟩⟩
  exact k103_13 hR hl rfl rfl hw w.length 0 x hp junk (by omega) J T hroom (by simpa using H1) (by simpa using H0)
end CRE
