/-! RULES WORKED by the reference: ruled -/
section RU
variable {X : List Int32} {d : Nat} {σ : mS} {Q : Option Value → mS → Prop} {D : List Nat} {w : Nat}
/-- follow -/
theorem t181 {A : Nat → Prop} {sl k k' : Nat} {z0 : Int32} {pt : Nat → mT} {self : mT} {p : Nat × List Nat} (hR : sRu σ w D) (hw : w < 30) (hk : k + 2 ≤ D.length) (href : rRef D k = some (p, k')) (hsl : sl ≤ 137) (PT : ∀ i, i < 4 → mSlot σ A (sl + i) (mt_tk (pt i) 0)) (hpt : ∀ i, mt_g (pt i)) (SE : (z0 = -1 ∧ self = .leaf none) ∨ ∃ s, s < 142 ∧ z0 = nI s ∧ mSlot σ A s (mt_tk self 0)) (hs : mt_g self)
    (H : ∀ σ' z, fK σ σ' → fI A σ' z (rV pt self p) → σ'.1 38 = z → Q (some (.int (nI k'))) σ') : mM X (d + 5) 181 0 (mm_L0 181 [.ref 86, .int (nI w), .int (nI k), .int (nI sl), .int z0]) [] σ Q := by
  have h60 := hR.1.1
  -- the row of a slot
  have rowOf : ∀ (s : Nat) (t : mT), s < 142 → mSlot σ A s (mt_tk t 0) → mt_g t → fI A (mSet σ 35 (nI (mb s))) (nI s) (some t) := by
    intro s t hs S g
    refine ⟨g, Or.inr (Or.inr ⟨s, [], 0, [], mt_tk t 0, rfl, by rw [mSet_g, if_pos rfl]; rfl, S.set, by simp, mt_cl_nil 0⟩)⟩
  have hmb : ∀ s, s < 142 → mb s < 2 ^ 20 := fun s hs => by have := mb_end hs; omega
  unfold rRef at href
  by_cases hse : st [115, 101, 108, 102] D (k + 2) = true
  · rw [if_pos hse, Option.map_eq_some_iff] at href
    obtain ⟨q, h1, e⟩ := href
    cases e
    have hl := st_le (by decide) hk hse
    simp only [List.length_cons, List.length_nil] at hl
    have e115 := (st_self.mp hse).1
    have ev : rV pt self (204, q.1) = rGo (some self) q.1 := by unfold rV; rw [if_neg (by show ¬ (204 < 204); omega)]
    rw [ev] at H
    refine u181_0 (t180c (k := k + 2) (c := 105) hR hw (nI_add k 2) rfl (by omega) (by decide) (fun g => absurd g (by omega)) (fun _ => ?_))
    refine u181_18 ⟨fun _ => ?_, fun g => absurd rfl g⟩
    refine u181_44 ⟨fun _ => ?_, fun g => absurd rfl g⟩
    rw [show nI k + (6 : Int32) = nI (k + 6) from nI_add k 6]
    rcases SE with ⟨ez, es⟩ | ⟨s, hs142, ez, S⟩
    · subst ez
      refine ⟨fun g => absurd g (by decide), fun _ => ?_⟩
      rintro σ1 rfl
      refine t181_83 (d := d + 1) (A := A) hw 100 (k + 6) q.1 q.2 (some self) _ _ _ _ (hR.keep (fK.set (v := -3) (Or.inl rfl)) (fun _ => id) (fun _ => id)) (by omega) (by omega) h1 ⟨hs, Or.inl ⟨by rw [mSet_g, if_pos rfl], es⟩⟩ (fun σ2 K2 F2 z2 => H σ2 _ ((fK.set (Or.inl rfl)).tr K2) F2 z2)
    · subst ez
      refine ⟨fun _ => s123 hs142 ⟨_, rfl, ?_⟩, fun g => absurd (nI_pos' (by omega)) g⟩
      rintro σ1 rfl
      exact t181_83 (d := d + 1) (A := A) hw 100 (k + 6) q.1 q.2 (some self) _ _ _ _ (hR.keep (fK.set (v := nI (mb s)) (Or.inl rfl)) (fun _ => id) (fun _ => id)) (by omega) (by omega) h1 (rowOf s self hs142 S hs) (fun σ2 K2 F2 z2 => H σ2 _ ((fK.set (Or.inl rfl)).tr K2) F2 z2)
  · rw [if_neg hse] at href
    by_cases hin : st [105, 110, 112, 117, 116, 115, 46] D (k + 2) = true
    · rw [if_pos hin] at href
      by_cases hc : 97 ≤ mc D (k + 9) ∧ mc D (k + 9) ≤ 100
      · rw [if_pos hc, Option.map_eq_some_iff] at href
        obtain ⟨q, h1, e⟩ := href
        cases e
        have hl := mc_ne (D := D) (k := k + 9) (by omega)
        have e105 := (st_inp.mp hin).1
        have ev : rV pt self (200 + (mc D (k + 9) - 97), q.1) = rGo (some (pt (mc D (k + 9) - 97))) q.1 := by
          unfold rV
          rw [if_pos (by show 200 + (mc D (k + 9) - 97) < 204; omega)]
          rw [show (200 + (mc D (k + 9) - 97), q.1).1 - 200 = mc D (k + 9) - 97 by show 200 + (mc D (k + 9) - 97) - 200 = _; omega]
        rw [ev] at H
        refine u181_0 (t180c (k := k + 2) (c := 105) hR hw (nI_add k 2) rfl (by omega) (by decide) (fun _ => ?_) (fun g => absurd e105 g))
        refine u181_18 ⟨fun g => absurd g (by decide), fun _ => t180 hR hw (nI_add k 9) (by omega) ⟨_, rfl, ?_⟩⟩
        dsimp only
        have eslot : nI sl + nI (mc D (k + 9)) - (97 : Int32) = nI (sl + (mc D (k + 9) - 97)) := by
          rw [nI_add, show (97 : Int32) = nI 97 from rfl, pk_sub (by omega)]; congr 1; omega
        rw [eslot]
        refine u181_44 ⟨fun g => absurd g (by decide), fun _ => ⟨fun _ => s123 (by omega) ⟨_, rfl, ?_⟩, fun g => absurd (nI_pos' (by omega)) g⟩⟩
        rw [show nI k + (10 : Int32) = nI (k + 10) from nI_add k 10]
        rintro σ1 rfl
        exact t181_83 (d := d + 1) (A := A) hw 100 (k + 10) q.1 q.2 (some (pt (mc D (k + 9) - 97))) _ _ _ _ (hR.keep (fK.set (v := nI (mb (sl + (mc D (k + 9) - 97)))) (Or.inl rfl)) (fun _ => id) (fun _ => id)) (by omega) (by omega) h1 (rowOf _ _ (by omega) (PT _ (by omega)) (hpt _)) (fun σ2 K2 F2 z2 => H σ2 _ ((fK.set (Or.inl rfl)).tr K2) F2 z2)
      · rw [if_neg hc] at href; cases href
    · rw [if_neg hin] at href; cases href
/-- isText -/
theorem t188 {a : Nat} {txt : List Nat} (ha : a + txt.length ≤ 19200) (hn : txt.length ≤ 1000) (hg : ∀ i (h : i < txt.length), mg σ (a + i) = txt[i]) (H : Q (some (.int (if txt.length ≤ 24 ∧ ∀ c ∈ txt, c ≠ 34 ∧ c ≠ 92 then 1 else 0))) σ) : mM X (d + 2) 188 0 (mm_L0 188 [.ref 86, .int (nI a), .int (nI txt.length)]) [] σ Q := by
  have loop : ∀ (m i : Nat), i + m = txt.length → Q (some (.int (if ∀ c ∈ txt.drop i, c ≠ 34 ∧ c ≠ 92 then 1 else 0))) σ → mM X (d + 2) 188 15 [some (.ref 86), some (.int (nI a)), some (.int (nI txt.length)), some (.int 1), some (.int (nI i))] [] σ Q := by
    intro m
    induction m with
    | zero =>
      intro i hi H
      have e : i = txt.length := by omega
      subst e
      rw [List.drop_length, if_pos (fun c hc => nomatch hc)] at H
      exact u188_15 ⟨fun _ => ⟨Or.inr rfl, H⟩, fun g => absurd (Int32.le_refl _) g⟩
    | succ m ih =>
      intro i hi H
      have hil : i < txt.length := by omega
      have hd := List.drop_eq_getElem_cons hil
      have hb := mg_lt σ (a + i)
      rw [hg i hil] at hb
      have stop : ¬ (txt[i] ≠ 34 ∧ txt[i] ≠ 92) → mM X (d + 2) 188 15 [some (.ref 86), some (.int (nI a)), some (.int (nI txt.length)), some (.int 0), some (.int (nI i + 1))] [] σ Q := by
        intro hno
        rw [if_neg (fun g => hno (g _ (by rw [hd]; exact List.mem_cons_self)))] at H
        exact u188_15 ⟨fun _ => ⟨Or.inl rfl, H⟩, fun _ => ⟨fun _ => ⟨Or.inl rfl, H⟩, fun g => absurd rfl g⟩⟩
      refine u188_15 (pk_le txt.length i (fun g => absurd g (by omega)) (fun _ => ⟨fun g => absurd g (by decide), fun _ => ?_⟩))
      rw [nI_add]
      refine s154 (by omega) ⟨_, rfl, ?_⟩
      rw [hg i hil]
      refine pk_eq txt[i] 34 (fun e => stop (fun g => g.1 e)) (fun e34 => s154 (by omega) ⟨_, rfl, ?_⟩)
      rw [hg i hil]
      refine pk_eq txt[i] 92 (fun e => stop (fun g => g.2 e)) (fun e92 => ?_)
      rw [nI_1]
      refine ih (i + 1) (by omega) ?_
      have e1 : (∀ c ∈ txt.drop i, c ≠ 34 ∧ c ≠ 92) ↔ ∀ c ∈ txt.drop (i + 1), c ≠ 34 ∧ c ≠ 92 := by
        rw [hd]
        exact ⟨fun g c hc => g c (List.mem_cons_of_mem _ hc), fun g c hc => by rcases List.mem_cons.mp hc with rfl | hc; exact ⟨e34, e92⟩; exact g c hc⟩
      simp only [e1] at H
      exact H
  refine u188_0 (pk_lt 24 txt.length (fun h => ?_) (fun h => ?_))
  · rw [if_neg (by omega)] at H
    exact u188_15 ⟨fun _ => ⟨Or.inl rfl, H⟩, fun _ => ⟨fun _ => ⟨Or.inl rfl, H⟩, fun g => absurd rfl g⟩⟩
  · refine loop txt.length 0 (by omega) ?_
    have e1 : (txt.length ≤ 24 ∧ ∀ c ∈ txt, c ≠ 34 ∧ c ≠ 92) ↔ ∀ c ∈ txt.drop 0, c ≠ 34 ∧ c ≠ 92 := by
      rw [List.drop_zero]
      exact ⟨fun g => g.2, fun g => ⟨h, g⟩⟩
    simp only [e1] at H
    exact H
theorem fK.oW {m : Nat} {w0 v : List Nat} {σ σ' : mS} (K : fK σ σ') (h : oW m w0 v σ) : oW m w0 v σ' := by
  have e44 := K.1 44 (by omega)
  have e39 := K.1 39 (by omega)
  have e43 := K.1 43 (by omega)
  have e40 := K.1 40 (by omega)
  rcases h with ⟨hl, a, b, c, e, f, g⟩ | ⟨hl, a, b, c, e, f, g⟩
  · exact Or.inl ⟨hl, e44.trans a, e39.trans b, e43.trans c, e, e40.trans f, fun i hi => (K.2.2.1 _ id).trans (g i hi)⟩
  · exact Or.inr ⟨hl, e44.trans a, e39.trans b, e43.trans c, e, f, e40.trans g⟩
def uK (m to : Nat) (σ σ' : mS) : Prop := mKp (fun k => k = 35 ∨ k = 36 ∨ k = 38 ∨ k = 40 ∨ k = 42 ∨ k = 43) mN2 (oA m) (fun x => x = to) σ σ'
theorem uK.rf {m to : Nat} {σ : mS} : uK m to σ σ := mKp.rf
theorem uK.tr {m to : Nat} {a b c : mS} (h : uK m to a b) (k : uK m to b c) : uK m to a c := mKp.tr h k
theorem fK.u {m to : Nat} {σ σ' : mS} (K : fK σ σ') : uK m to σ σ' := K.mono (fun x h => by omega) (fun _ _ h => h) (fun _ h => h.elim) (fun _ h => h.elim)
theorem oK.u {m to : Nat} {σ σ' : mS} (K : oK (oA m) σ σ') : uK m to σ σ' := K.mono (fun x h => by omega) (fun _ _ h => h) (fun _ h => h) (fun _ h => h.elim)
/-- the letters of a rule, put one after another -/
theorem t179_153 {A : Nat → Prop} {sl m to : Nat} {z0 i6 : Int32} {pt : Nat → mT} {self : mT} (hD : mD_ok D) (hw : w < 30) (hsl : sl ≤ 137) (hm : m + 24 ≤ 19200) (hAm : ∀ p, A p → ¬ oA m p) (hto : to < 142) (hcap : 1 ≤ mcp to) (hpt : ∀ i, mt_g (pt i)) (hs : mt_g self) : ∀ (n k : Nat) (js : List mIt) (v : List Nat) (σ : mS), sRu σ w D → k ≤ D.length → D.length - k + 1 ≤ n → rI D n k = some js → (∀ i, i < 4 → mSlot σ A (sl + i) (mt_tk (pt i) 0)) → ((z0 = -1 ∧ self = .leaf none) ∨ ∃ s, s < 142 ∧ z0 = nI s ∧ mSlot σ A s (mt_tk self 0)) → (∀ B : Nat → Prop, mSlot σ B to []) → oW m [] v σ → v.length ≤ 30000 * k → (∀ c ∈ v, 32 ≤ c ∧ c ≤ 126) →
    (∀ u t, rT pt self js = some u → rX (v ++ u) = some t → ∀ σ', uK m to σ σ' → mSlot σ' (oA m) to (mt_tk t 0) → Q (some (.int 1)) σ') →
    ((∀ u, rT pt self js = some u → rX (v ++ u) = none) → ∀ σ', uK m to σ σ' → Q (some (.int 0)) σ') →
    mM X (d + 8) 179 153 [some (.ref 86), some (.int (nI w)), some (.int (nI sl)), some (.int z0), some (.int (nI to)), some (.int (nI D.length)), some (.int i6), some (.int (nI k))] [] σ Q := by
  have h60 := hD.1
  have hok : oP X (oW m []) (oA m) := oW_ok hm
  intro n
  induction n with
  | zero => intro k js v σ _ _ h; omega
  | succ n ih =>
    intro k js v σ hR hk hn hI PT SE TO hP hvl hvc H1 H0
    refine u179_153 (pk_le D.length k (fun hge => ?_) (fun hlt => ?_))
    · rw [rI, if_pos hge] at hI
      cases hI
      rcases hP with ⟨hl, a1, a2, a3, a4, a5, a6⟩ | ⟨hl, a1, a2, a3, e, a4, a5⟩
      · rw [List.nil_append] at a4 a5
        rw [a2, a5]
        refine t139 (A := oA m) (s := to) (l := 0) (txt := v) (TO _) (by simp; omega) (by omega) rfl (by omega) (by omega) (fun j hj => ⟨by unfold oA; omega, ?_⟩) ?_
        · have := a6 j (by simpa using hj)
          simpa using this
        · intro σ1 K1 S1
          have f43 : σ1.1 43 = 1 := (K1.1 43 id).trans a3
          have f39 : σ1.1 39 = nI m := (K1.1 39 id).trans a2
          have f40 : σ1.1 40 = nI v.length := (K1.1 40 id).trans a5
          have K1' : uK m to σ σ1 := K1.mono (fun _ h => h.elim) (fun _ _ h => h) (fun _ h => h.elim) (fun _ h => h)
          refine ⟨rfl, ⟨fun g => absurd g (by rw [f43]; decide), fun _ => ?_⟩⟩
          rw [f39, f40]
          refine t188 (by omega) (by omega) (fun i hi => ?_) ⟨_, rfl, ?_⟩
          · rw [K1.2.2.1 _ id]
            have := a6 i (by simpa using hi)
            simpa using this
          · by_cases hc : v.length ≤ 24 ∧ ∀ c ∈ v, c ≠ 34 ∧ c ≠ 92
            · rw [if_pos hc]
              refine ⟨fun g => absurd g (by decide), fun _ => H1 [] (.leaf (some (.inr v))) rfl ?_ σ1 K1' ?_⟩
              · unfold rX
                rw [List.append_nil, if_pos ⟨hc.1, fun c h => ⟨(hvc c h).1, (hvc c h).2, hc.2 c h⟩⟩]
              · exact S1
            · rw [if_neg hc]
              refine ⟨fun _ => H0 (fun u hu => ?_) σ1 K1', fun g => absurd rfl g⟩
              cases hu
              unfold rX
              rw [List.append_nil, if_neg (fun g => hc ⟨g.1, fun c h => (g.2 c h).2.2⟩)]
      · rw [a2, a5]
        have hmg := mg_lt σ
        refine t139 (A := oA m) (s := to) (l := 0) (txt := (List.range e).map (fun i => mg σ (m + i))) (TO _) (by simp; omega) (by omega) (by simp) (by simp; omega) (by simp; omega) (fun j hj => ⟨by simp at hj; unfold oA; omega, by simp⟩) ?_
        intro σ1 K1 S1
        have f43 : σ1.1 43 = 0 := (K1.1 43 id).trans a3
        have K1' : uK m to σ σ1 := K1.mono (fun _ h => h.elim) (fun _ _ h => h) (fun _ h => h.elim) (fun _ h => h)
        refine ⟨rfl, ⟨fun _ => H0 (fun u hu => ?_) σ1 K1', fun g => absurd f43 g⟩⟩
        cases hu
        unfold rX
        rw [List.append_nil, if_neg (fun g => by have := g.1; simp at hl; omega)]
    · -- a letter
      have letter : ¬ st [36, 40] D k = true → mM X (d + 7) 180 0 (mm_L0 180 [.ref 86, .int (nI w), .int (nI k)]) [] σ (mi_K (fun x7 σ6 => mM X (d + 7) 184 0 (mm_L0 184 [.ref 86, .int x7]) [] σ6 (m0_K (fun σ8 => mM X (d + 7 + 1) 179 153 [some (.ref 86), some (.int (nI w)), some (.int (nI sl)), some (.int z0), some (.int (nI to)), some (.int (nI D.length)), some (.int i6), some (.int (nI k + (1 : Int32)))] [] σ8 Q)))) := by
        intro hs'
        have hml := hD.2 _ (mc_in hlt)
        rw [rI, if_neg (by omega), if_neg hs', Option.map_eq_some_iff] at hI
        obtain ⟨js', h3, e⟩ := hI
        subst e
        refine t180 hR hw rfl (by omega) ⟨_, rfl, hok.1 (d + 5) v σ _ _ (by omega) (by omega) hP (fun σ1 K1 P1 => ⟨rfl, ?_⟩)⟩
        rw [nI_1]
        refine ih (k + 1) js' (v ++ [mc D k]) σ1 (hR.keep K1 (fun _ => id) (fun _ => id)) (by omega) (by omega) h3 (fun i hi => K1.slot (PT i hi) hAm) ?_ (fun B => (TO (fun p => B p ∧ ¬ oA m p)).keep K1 id (fun p h => h.2) |>.weak (fun p h => h.1)) P1 (by rw [List.length_append]; simp; omega) ?_ ?_ ?_
        · rcases SE with h | ⟨s, h1, h2, h3⟩
          · exact Or.inl h
          · exact Or.inr ⟨s, h1, h2, K1.slot h3 hAm⟩
        · intro c hc
          rcases List.mem_append.mp hc with h | h
          · exact hvc c h
          · rw [List.mem_singleton] at h; rw [h]; exact hml
        · intro u t hu ht σ2 K2 S2
          exact H1 (mc D k :: u) t (by show (rT pt self js').map _ = _; rw [hu]; rfl) (by simpa using ht) σ2 (K1.u.tr K2) S2
        · intro hno σ2 K2
          refine H0 (fun u hu => ?_) σ2 (K1.u.tr K2)
          have hu' : (rT pt self js').map (fun r => mc D k :: r) = some u := hu
          rw [Option.map_eq_some_iff] at hu'
          obtain ⟨u', hu2, e⟩ := hu'
          subst e
          have := hno u' hu2
          simpa using this
      refine t180c (k := k) (c := 36) hR hw rfl rfl (by omega) (by decide) (fun e0 => ?_) (fun e => letter (fun g => e (st_dol.mp g).1))
      refine t180c (k := k + 1) (c := 40) hR hw (nI_add k 1) rfl (by omega) (by decide) (fun e1 => ?_) (fun e => letter (fun g => e (st_dol.mp g).2))
      have hs' : st [36, 40] D k = true := st_dol.mpr ⟨e0, e1⟩
      have hl := st_le (by decide) hk hs'
      simp only [List.length_cons, List.length_nil] at hl
      rw [rI, if_neg (by omega), if_pos hs', Option.bind_eq_some_iff] at hI
      obtain ⟨p, hp, hI2⟩ := hI
      rw [Option.map_eq_some_iff] at hI2
      obtain ⟨js', h3, e⟩ := hI2
      subst e
      obtain ⟨z1, z2, z3, z4, z5, z6⟩ := rRef_le hl (show rRef D k = some (p.1, p.2) from hp)
      refine t181 (d := d + 2) (A := A) hR hw hl (show rRef D k = some (p.1, p.2) from hp) hsl PT hpt SE hs (fun σ1 z K1 F1 ez => ⟨_, rfl, ?_⟩)
      have R1 := hR.keep K1 (fun _ => id) (fun _ => id)
      have P1 := K1.oW hP
      have PT1 : ∀ i, i < 4 → mSlot σ1 A (sl + i) (mt_tk (pt i) 0) := fun i hi => (PT i hi).keep K1 id (fun _ _ => id)
      have TO1 : ∀ B : Nat → Prop, mSlot σ1 B to [] := fun B => (TO B).keep K1 id (fun _ _ => id)
      have SE1 : (z0 = -1 ∧ self = .leaf none) ∨ ∃ s, s < 142 ∧ z0 = nI s ∧ mSlot σ1 A s (mt_tk self 0) := by
        rcases SE with h | ⟨s, h1, h2, h3⟩
        · exact Or.inl h
        · exact Or.inr ⟨s, h1, h2, h3.keep K1 id (fun _ _ => id)⟩
      cases hv : rV pt self p.1 with
      | none =>
        rw [hv] at F1
        have f35 : σ1.1 35 = -2 := F1
        refine ⟨fun g => absurd f35 g, fun _ => H0 (fun u hu => ?_) σ1 K1.u⟩
        have hu' : (rV pt self p.1).bind (fun v => (rT pt self js').map (fun r => mt_pl v ++ r)) = some u := hu
        rw [hv] at hu'
        cases hu'
      | some t =>
        rw [hv] at F1
        obtain ⟨g, hF⟩ := F1
        have gd := mt_g_gd g
        have hpll := mt_pl_le gd
        have hplc := mt_pl_ch gd.2
        have hfl := (mt_fm_len t 0 gd).2
        -- what follows once its letters are put
        have next : ∀ σ2, oK (oA m) σ1 σ2 → oW m [] (v ++ mt_pl t) σ2 → mM X (d + 7 + 1) 179 153 [some (.ref 86), some (.int (nI w)), some (.int (nI sl)), some (.int z0), some (.int (nI to)), some (.int (nI D.length)), some (.int i6), some (.int (nI p.2))] [] σ2 Q := by
          intro σ2 K2 P2
          refine ih p.2 js' (v ++ mt_pl t) σ2 (R1.keep K2 (fun _ => id) (fun _ => id)) z2 (by omega) h3 (fun i hi => K2.slot (PT1 i hi) hAm) ?_ (fun B => (TO1 (fun q => B q ∧ ¬ oA m q)).keep K2 id (fun q h => h.2) |>.weak (fun q h => h.1)) P2 (by rw [List.length_append]; omega) ?_ ?_ ?_
          · rcases SE1 with h | ⟨s, h1, h2, h3⟩
            · exact Or.inl h
            · exact Or.inr ⟨s, h1, h2, K2.slot h3 hAm⟩
          · intro c hc
            rcases List.mem_append.mp hc with h | h
            · exact hvc c h
            · exact hplc c h
          · intro u t' hu ht σ3 K3 S3
            refine H1 (mt_pl t ++ u) t' ?_ (by simpa using ht) σ3 ((K1.u.tr K2.u).tr K3) S3
            show (rV pt self p.1).bind _ = _
            rw [hv, Option.bind_some, hu]; rfl
          · intro hno σ3 K3
            refine H0 (fun u hu => ?_) σ3 ((K1.u.tr K2.u).tr K3)
            have hu' : (rV pt self p.1).bind (fun v => (rT pt self js').map (fun r => mt_pl v ++ r)) = some u := hu
            rw [hv, Option.bind_some, Option.map_eq_some_iff] at hu'
            obtain ⟨u', hu2, e⟩ := hu'
            subst e
            have := hno u' hu2
            simpa using this
        have hv30 : v.length + 30000 < 2 ^ 30 := by omega
        rcases hF with ⟨f35, et⟩ | ⟨f35, n1, hn1, et, f36⟩ | ⟨s, pre, l, rest, ts, es, f35, S, ets, hc⟩
        · dsimp only
          rw [f35]
          refine ⟨fun _ => ⟨fun _ => ⟨fun _ => ?_, fun g => absurd g (by decide)⟩, fun g => absurd (by decide) g⟩, fun g => absurd g (by decide)⟩
          refine t187 hok (by omega) P1 (fun σ2 K2 P2 => ⟨rfl, next σ2 K2 ?_⟩)
          rw [et]; exact P2
        · dsimp only
          rw [f35, f36]
          have rg := (mn_rg (a := n1) (by omega)).1
          refine ⟨fun _ => ⟨fun _ => ⟨fun g => absurd rfl g, fun _ => ?_⟩, fun g => absurd (by decide) g⟩, fun g => absurd g (by decide)⟩
          refine t186 hok rg.1 rg.2 (by omega) P1 (fun σ2 K2 P2 => ⟨rfl, next σ2 K2 ?_⟩)
          rw [et]; exact P2
        · have hlt' := S.lt
          have hne : ts ≠ [] := by
            rw [ets]
            obtain ⟨a, b, e, _⟩ := mt_tk_ne t l
            rw [e]; simp
          dsimp only
          rw [f35, ez, es]
          have hpre : pre.length < ts.length := by
            rw [ets]
            have := mt_tk_pos t l
            simp; omega
          have hneg : ¬ nI (mb s + pre.length) = -2 := fun g => by
            have := nI_pos' (n := mb s + pre.length) (by omega)
            rw [g] at this
            exact absurd this (by decide)
          have hl64 : l + mt_dp t ≤ 100 := by
            obtain ⟨a, b, e, _, el, _⟩ := mt_tk_ne t l
            have hu : ts[pre.length]? = some a := by rw [ets, e]; simp
            obtain ⟨_, R⟩ := S.at hu
            have := R.2.1
            have := mt_g_dp g
            omega
          refine ⟨fun _ => ⟨fun g => absurd g (nI_pos (by omega)), fun _ => s143 S.1 S.2.2.1 ⟨_, rfl, ?_⟩⟩, fun g => absurd g hneg⟩
          exact t182 hok hAm S ets hc rfl rfl gd.2 hl64 (by omega) P1 (fun σ2 K2 P2 => ⟨rfl, next σ2 K2 P2⟩)
end RU
