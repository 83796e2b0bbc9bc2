/-! RULES WORKED by the reference: ruled, whole -/
theorem rI_ne {D : List Nat} {n k : Nat} {js : List mIt} (hk : k < D.length) (h : rI D n k = some js) : js ≠ [] := by
  cases n with
  | zero => cases h
  | succ n =>
    rw [rI, if_neg (by omega)] at h
    split at h
    · rw [Option.bind_eq_some_iff] at h
      obtain ⟨p, _, h2⟩ := h
      rw [Option.map_eq_some_iff] at h2
      obtain ⟨js', _, e⟩ := h2
      rw [← e]; simp
    · rw [Option.map_eq_some_iff] at h
      obtain ⟨js', _, e⟩ := h
      rw [← e]; simp
theorem rOne_two {p : Nat × List Nat} {js : List mIt} (h : js ≠ []) : rOne (.inr p :: js) = none := by
  cases js with
  | nil => exact absurd rfl h
  | cons a l => rfl
theorem rOne_l {c : Nat} {js : List mIt} : rOne (.inl c :: js) = none := rfl
theorem rX_g {s : List Nat} {t : mT} (h : rX s = some t) : mt_g t := by
  unfold rX at h
  split at h
  · rename_i hc
    cases h
    have lg : mt_lg (some (.inr s)) := hc
    exact ⟨3, by omega, mt_gl_leaf lg⟩
  · cases h
theorem rSt_g {v : Option mT} {a : Nat} (hv : ∀ t, v = some t → mt_g t) : ∀ t, rSt v a = some t → mt_g t := by
  intro t ht
  cases v with
  | none => cases ht
  | some u =>
    have g := hv u rfl
    unfold rSt at ht
    rw [Option.bind_some] at ht
    split at ht
    · split at ht
      · cases ht
        have lg : mt_lg (some (.inl (nI (mt_sz u)))) := (mn_rg (a := mt_sz u) (by have := (mt_g_sz g).1; omega)).1
        exact ⟨3, by omega, mt_gl_leaf lg⟩
      · cases ht
    · exact mt_g_el g (List.mem_of_getElem? ht)
theorem rGo_g : ∀ (as : List Nat) (v : Option mT), (∀ t, v = some t → mt_g t) → ∀ t, rGo v as = some t → mt_g t
  | [], v, hv, t, ht => hv t ht
  | a :: as, v, hv, t, ht => rGo_g as (rSt v a) (rSt_g hv) t ht
theorem rV_g {pt : Nat → mT} {self : mT} {p : Nat × List Nat} (hpt : ∀ i, mt_g (pt i)) (hs : mt_g self) : ∀ t, rV pt self p = some t → mt_g t := by
  intro t ht
  refine rGo_g p.2 _ ?_ t ht
  intro u hu
  cases hu
  split
  · exact hpt _
  · exact hs
theorem rW_g {pt : Nat → mT} {self : mT} {is : List mIt} (hpt : ∀ i, mt_g (pt i)) (hs : mt_g self) : ∀ t, rW pt self is = some t → mt_g t := by
  intro t ht
  unfold rW at ht
  split at ht
  · exact rV_g hpt hs t ht
  · rw [Option.bind_eq_some_iff] at ht
    obtain ⟨u, _, h⟩ := ht
    exact rX_g h
section RU2
variable {X : List Int32} {d : Nat} {σ : mS} {Q : Option Value → mS → Prop} {D : List Nat} {w : Nat}
/-- ruled -/
theorem t179 {A : Nat → Prop} {sl m to : Nat} {z0 : Int32} {pt : Nat → mT} {self : mT} {is : List mIt} (hR : sRu σ w D) (hI : rR D = some is) (hw : w < 30) (hsl : sl ≤ 137) (hm : m + 24 ≤ 19200) (hAm : ∀ p, A p → ¬ oA m p) (hto : to < 142) (hcap : mcp to = 544) (hpt : ∀ i, mt_g (pt i)) (hs : mt_g self) (PT : ∀ i, i < 4 → mSlot σ A (sl + i) (mt_tk (pt i) 0)) (SE : (z0 = -1 ∧ self = .leaf none) ∨ ∃ s, s < 142 ∧ s ≠ to ∧ z0 = nI s ∧ mSlot σ A s (mt_tk self 0)) (hsto : ∀ i, i < 4 → sl + i ≠ to) (h39 : σ.1 39 = nI m) (h44 : σ.1 44 = 0)
    (H1 : ∀ t, rW pt self is = some t → ∀ σ', uK m to σ σ' → mSlot σ' (fun p => A p ∨ oA m p) to (mt_tk t 0) → mt_g t → Q (some (.int 1)) σ')
    (H0 : rW pt self is = none → ∀ σ', uK m to σ σ' → Q (some (.int 0)) σ') : mM X (d + 9) 179 0 (mm_L0 179 [.ref 86, .int (nI w), .int (nI sl), .int z0, .int (nI to)]) [] σ Q := by
  have hD := hR.1
  have h60 := hD.1
  have hb0 := mc_lt hD 0
  refine u179_0 ⟨m_ix hw (by decide), mSlot.clear (s := to) (A := mN1) hto (fun σ1 K1 TO1 => ⟨rfl, ?_⟩)⟩
  have K1' : uK m to σ σ1 := K1.mono (fun _ h => h.elim) (fun _ _ h => h) (fun _ h => h.elim) (fun _ h => h)
  have R1 := hR.keep K1 (fun _ => id) (fun _ => id)
  have PT1 : ∀ i, i < 4 → mSlot σ1 A (sl + i) (mt_tk (pt i) 0) := fun i hi => (PT i hi).keep K1 (hsto i hi) (fun _ _ => id)
  have SE1 : (z0 = -1 ∧ self = .leaf none) ∨ ∃ s, s < 142 ∧ z0 = nI s ∧ mSlot σ1 A s (mt_tk self 0) := by
    rcases SE with h | ⟨s, h1, h2, h3, h4⟩
    · exact Or.inl h
    · exact Or.inr ⟨s, h1, h3, h4.keep K1 h2 (fun _ _ => id)⟩
  have f39 : σ1.1 39 = nI m := (K1.1 39 id).trans h39
  have f44 : σ1.1 44 = 0 := (K1.1 44 id).trans h44
  rw [mGet_e (by omega), hR.2.1]
  -- the text
  have text : rOne is = none → ∀ (σ2 : mS) (s0 : Int32), fK σ1 σ2 → ∀ σ3, σ3 = mSet σ2 40 (0 : Int32) → ∀ σ4, σ4 = mSet σ3 43 (1 : Int32) → mM X (d + 8 + 1) 179 153 [some (.ref 86), some (.int (nI w)), some (.int (nI sl)), some (.int z0), some (.int (nI to)), some (.int (nI D.length)), some (.int s0), some (.int (0 : Int32))] [] σ4 Q := by
    rintro hone σ2 s0 K2 σ3 rfl σ4 rfl
    have eW : rW pt self is = (rT pt self is).bind rX := by unfold rW; rw [hone]
    have K3 : uK m to σ2 (mSet (mSet σ2 40 0) 43 1) := ⟨fun k hk => by rw [mSet_g, if_neg (fun e => hk (by omega)), mSet_g, if_neg (fun e => hk (by omega))], fun _ _ _ _ => rfl, fun _ _ => rfl, fun _ _ _ => ⟨rfl, fun _ _ => rfl⟩⟩
    have KK : uK m to σ (mSet (mSet σ2 40 0) 43 1) := (K1'.tr K2.u).tr K3
    have P0 : oW m [] [] (mSet (mSet σ2 40 0) 43 1) := by
      refine Or.inl ⟨by simp, ?_, ?_, ?_, by simp, ?_, fun i hi => absurd hi (by simp)⟩
      · rw [mSet_g, if_neg (by decide), mSet_g, if_neg (by decide)]; exact (K2.1 44 (by omega)).trans f44
      · rw [mSet_g, if_neg (by decide), mSet_g, if_neg (by decide)]; exact (K2.1 39 (by omega)).trans f39
      · rw [mSet_g, if_pos rfl]
      · rw [mSet_g, if_neg (by decide), mSet_g, if_pos rfl]; rfl
    refine t179_153 (d := d + 1) (A := A) (i6 := s0) hD hw hsl hm hAm hto (by omega) hpt hs 100 0 is [] _ ((R1.keep K2 (fun _ => id) (fun _ => id)).keep K3 (fun _ => id) (fun _ => id)) (by omega) (by omega) hI (fun i hi => ((PT1 i hi).keep K2 id (fun _ _ => id)).set.set) ?_ (fun B => ((TO1 B).keep K2 id (fun _ _ => id)).set.set) P0 (by simp) (fun c hc => nomatch hc) ?_ ?_
    · rcases SE1 with h | ⟨s, h1, h2, h3⟩
      · exact Or.inl h
      · exact Or.inr ⟨s, h1, h2, (h3.keep K2 id (fun _ _ => id)).set.set⟩
    · intro u t hu ht σ5 K5 S5
      rw [List.nil_append] at ht
      exact H1 t (by rw [eW, hu]; exact ht) σ5 (KK.tr K5) (S5.weak (fun p h => Or.inr h)) (rX_g ht)
    · intro hno σ5 K5
      refine H0 ?_ σ5 (KK.tr K5)
      rw [eW]
      cases hu : rT pt self is with
      | none => rfl
      | some u =>
        have := hno u hu
        rw [List.nil_append] at this
        rw [Option.bind_some]; exact this
  -- no reference in front
  have plain : ¬ st [36, 40] D 0 = true → mM X (d + 8 + 1) 179 48 [some (.ref 86), some (.int (nI w)), some (.int (nI sl)), some (.int z0), some (.int (nI to)), some (.int (nI D.length)), none, none] [.int (0 : Int32)] σ1 Q := by
    intro hs'
    have hone : rOne is = none := by
      have hI' : rI D 100 0 = some is := hI
      by_cases h0 : D.length ≤ 0
      · rw [rI, if_pos h0] at hI'
        cases hI'; rfl
      · rw [rI, if_neg h0, if_neg hs', Option.map_eq_some_iff] at hI'
        obtain ⟨js, _, e⟩ := hI'
        rw [← e]; rfl
    refine u179_48 (pk_ne 0 D.length (fun e0 => ⟨fun _ => text hone σ1 _ fK.rf, fun g => absurd (by rw [← e0]; decide) g⟩) (fun _ => text hone σ1 _ fK.rf))
  refine t180c (k := 0) (c := 36) R1 hw rfl rfl (by omega) (by decide) (fun e0 => ?_) (fun e => plain (fun g => e (st_dol.mp g).1))
  refine t180c (k := 1) (c := 40) R1 hw rfl rfl (by omega) (by decide) (fun e1 => ?_) (fun e => plain (fun g => e (st_dol.mp g).2))
  have hs' : st [36, 40] D 0 = true := st_dol.mpr ⟨e0, e1⟩
  have hl := st_le (by decide) (Nat.zero_le _) hs'
  simp only [List.length_cons, List.length_nil] at hl
  have hI' : rI D 100 0 = some is := hI
  rw [rI, if_neg (by omega), if_pos hs', Option.bind_eq_some_iff] at hI'
  obtain ⟨p, hp, hI2⟩ := hI'
  rw [Option.map_eq_some_iff] at hI2
  obtain ⟨js, h3, eis⟩ := hI2
  obtain ⟨z1, z2, z3, z4, z5, z6⟩ := rRef_le (by omega) (show rRef D 0 = some (p.1, p.2) from hp)
  refine t181 (d := d + 3) (k := 0) (A := A) R1 hw (by omega) (show rRef D 0 = some (p.1, p.2) from hp) hsl PT1 hpt SE1 hs (fun σ2 z K2 F2 ez => ⟨_, rfl, ?_⟩)
  refine u179_48 (pk_ne p.2 D.length (fun ek => ?_) (fun ek => ?_))
  · have ejs : js = [] := by
      rw [rI, if_pos (by omega)] at h3
      exact (Option.some.inj h3).symm
    subst ejs
    have eW : rW pt self is = rV pt self p.1 := by unfold rW; rw [← eis]; rfl
    rw [eW] at H1 H0
    refine ⟨fun g => absurd g (by rw [show (0 : Int32) = nI 0 from rfl]; exact nI_nle (by omega) (by omega)), fun _ => ?_⟩
    have KK : uK m to σ σ2 := K1'.tr K2.u
    have TO2 : ∀ B : Nat → Prop, mSlot σ2 B to [] := fun B => (TO1 B).keep K2 id (fun _ _ => id)
    cases hv : rV pt self p.1 with
    | none =>
      rw [hv] at F2 H0
      have f35 : σ2.1 35 = -2 := F2
      exact ⟨fun g => absurd f35 g, fun _ => H0 rfl σ2 KK⟩
    | some t =>
      rw [hv] at F2 H1
      obtain ⟨g, hF⟩ := F2
      rcases hF with ⟨f35, et⟩ | ⟨f35, n1, hn1, et, f36⟩ | ⟨s, pre, l, rest, ts, es, f35, S, ets, hc⟩
      · rw [f35]
        refine ⟨fun _ => ⟨fun _ => ⟨fun _ => ?_, fun g => absurd g (by decide)⟩, fun g => absurd (by decide) g⟩, fun g => absurd g (by decide)⟩
        refine u179_118 ?_
        rw [f35]
        refine ⟨fun _ => (TO2 (fun p => A p ∨ oA m p)).add (k := 0) (l := 0) (v := 0) (by simp; omega) (by decide) (by decide) (fun σ3 K3 S3 => ⟨rfl, H1 t rfl σ3 (KK.tr (K3.mono (fun _ h => h.elim) (fun _ _ h => h) (fun _ h => h.elim) (fun _ h => h))) ?_ g⟩), fun g => absurd g (by decide)⟩
        rw [et]; exact S3
      · rw [f35]
        refine ⟨fun _ => ⟨fun _ => ⟨fun g => absurd rfl g, fun _ => ?_⟩, fun g => absurd (by decide) g⟩, fun g => absurd g (by decide)⟩
        refine u179_118 ?_
        rw [f35, f36]
        refine ⟨fun g => absurd rfl g, fun _ => (TO2 (fun p => A p ∨ oA m p)).add (k := 1) (l := 0) (v := nI n1) (by simp; omega) (by decide) (by decide) (fun σ3 K3 S3 => ⟨rfl, H1 t rfl σ3 (KK.tr (K3.mono (fun _ h => h.elim) (fun _ _ h => h) (fun _ h => h.elim) (fun _ h => h))) ?_ g⟩)⟩
        rw [et]; exact S3
      · have hlt' := S.lt
        have hpos := mt_tk_pos t l
        have htl : ts.length = pre.length + ((mt_tk t l).length + rest.length) := by rw [ets]; simp
        have hts := S.2.1
        have hcp : mcp s ≤ 544 := by unfold mcp; split <;> (try split) <;> (try split) <;> omega
        have hlen : (mt_tk t 0).length = (mt_tk t l).length := by rw [← mt_lv_tk0 t l 0, List.length_map]
        have hneg : ¬ nI (mb s + pre.length) = -2 := fun g => by
          have := nI_pos' (n := mb s + pre.length) (by omega)
          rw [g] at this
          exact absurd this (by decide)
        have hdp := mt_g_dp g
        have hst : s ≠ to := by
          -- the slot a reference leads to holds rows; the emptied one holds none
          rintro rfl
          have a := S.2.2.1
          have b := (TO2 mN1).2.2.1
          rw [a] at b
          have := (nI_eq (b := 0) (by omega) (by decide)).mp b
          omega
        rw [f35, ez, es]
        refine ⟨fun _ => ⟨fun g => absurd g (nI_pos (by omega)), fun _ => s143 S.1 S.2.2.1 ⟨_, rfl, ?_⟩⟩, fun g => absurd g hneg⟩
        refine t150 (A := fun p => A p ∨ oA m p) (to := to) (deep := 0) (us := []) (S.weak (fun p h => Or.inl h)) ets hc rfl rfl (TO2 _) hst (by simp; omega) (by omega) (fun σ3 K3 S3 => ⟨rfl, H1 t rfl σ3 (KK.tr (K3.mono (fun _ h => h.elim) (fun _ _ h => h) (fun _ h => h.elim) (fun _ h => h))) ?_ g⟩)
        simpa using S3
  · have hone : rOne is = none := by
      rw [← eis]
      exact rOne_two (rI_ne (by omega) h3)
    exact text hone σ2 _ K2
end RU2
