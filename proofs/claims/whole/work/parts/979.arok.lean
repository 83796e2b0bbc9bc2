/-! WHAT ALWAYS HOLDS OF A RUN -/
theorem mt_al_mk {xs : List mT} : mt_al (mt_mk xs) ↔ ∀ x ∈ xs, mt_al x := by rw [mt_al_list (mt_isL_mk xs), mt_els_mk]
theorem aNs_al {rs : Nat → mT} (h : ∀ i, mt_al (rs i)) : ∀ (lv : List Nat) (o : Nat), mt_al (aNs rs lv o)
  | [], o => h o
  | n :: lv, o => by
    show mt_al (mt_mk _)
    rw [mt_al_mk]
    intro x hx
    obtain ⟨i, _, e⟩ := List.mem_map.mp hx
    rw [← e]
    exact aNs_al h lv _
theorem mt_gd_iff {t : mT} : mt_gd t ↔ mt_ok t ∧ mt_al t := by
  unfold mt_gd mt_gl
  rw [mt_okl_0]
theorem mt_gd_nul : mt_gd (.leaf none) := mt_gl_leaf trivial
theorem mt_gd_dp {t : mT} (h : mt_gd t) : mt_dp t ≤ 3 := (mt_gd_iff.mp h).1.1
def gOk (g : mPg) : Prop := gPh g ≤ 3 ∧ (gPh g = 1 → gN g ≤ 16 ∧ aPr (gLv g) = gN g ∧ (gLv g).length ≤ 4 ∧ ((∀ n ∈ gLv g, n ≤ 8) ∨ gLv g = [gN g]) ∧ (∀ n t, gRs g n = some t → n < gN g ∧ mt_gd t) ∧ ∀ n, n < gN g → gRs g n = none → ∃ ws, gCm g n = some ws ∧ aWok ws) ∧ (gPh g = 2 → mt_gd (gOut g))
theorem gRs_gd {g : mPg} (h : ∀ n t, gRs g n = some t → n < gN g ∧ mt_gd t) (i : Nat) : mt_gd ((gRs g i).getD (.leaf none)) := by
  cases e : gRs g i with
  | none => exact mt_gd_nul
  | some t => exact (h i t e).2
theorem gOk_se {g : mPg} (h : gOk g) : gOk (gSe g) := by
  unfold gSe
  split
  · rename_i hc
    obtain ⟨_, _, _, _, h5, _⟩ := h.2.1 hc.1
    split
    · rename_i ho
      refine ⟨by show 2 ≤ 3; omega, fun e => absurd e (by show ¬ 2 = 1; omega), fun _ => ?_⟩
      show mt_gd (gTr g)
      exact mt_gd_iff.mpr ⟨okB_iff.mp ho, aNs_al (fun i => mt_gd_al (gRs_gd h5 i)) _ _⟩
    · exact ⟨by show 3 ≤ 3; omega, fun e => absurd e (by show ¬ 3 = 1; omega), fun e => absurd e (by show ¬ 3 = 2; omega)⟩
  · exact h
theorem gSe_cm (g : mPg) : gCm (gSe g) = gCm g := by
  unfold gSe
  split
  · split <;> rfl
  · rfl
theorem gSe_1 {g : mPg} (h : gPh (gSe g) = 1) : gSe g = g := by
  unfold gSe at h ⊢
  split
  · rename_i hc
    rw [if_pos hc] at h
    split at h
    · exact absurd h (by show ¬ 2 = 1; omega)
    · exact absurd h (by show ¬ 3 = 1; omega)
  · rfl
theorem gSe_n0 {g : mPg} (h : gPh g ≠ 0) : gPh (gSe g) ≠ 0 := by
  unfold gSe
  split
  · split
    · show 2 ≠ 0; omega
    · show 3 ≠ 0; omega
  · exact h
theorem aCf_pr {wh : Nat → mT} : ∀ (ps : List Nat) (j : Option Nat) (n : Nat), aCf 2 wh ps j = some (some n) → j ≠ none ∨ ps ≠ [] → n = j.getD 1 * aPr (ps.map (aLen wh))
  | [], j, n, h, _ => by
    have e : j = some n := Option.some.inj h
    subst e
    show n = n * 1
    omega
  | p :: ps, j, n, h, _ => by
    have h' : (if mt_isL (wh p) = true ∧ aBad 2 j (aLen wh p) = false then aCf 2 wh ps (some (if 2 = 0 then aLen wh p else j.getD 1 * aLen wh p)) else none) = some (some n) := h
    split at h'
    · have := aCf_pr ps _ n h' (Or.inl (by intro e; cases e))
      rw [this]
      show j.getD 1 * aLen wh p * _ = j.getD 1 * (aLen wh p * _)
      rw [Nat.mul_assoc]
    · cases h'
theorem aLr_ne {ov : Nat} (h0 : ov ≠ 0) (h : ov < 16) : aLr ov 4 0 ≠ [] := by
  have key : ∀ o, o < 16 → o ≠ 0 → aLr o 4 0 ≠ [] := by decide
  exact key ov h h0
theorem aLr_len (ov : Nat) : ∀ (m p : Nat), (aLr ov m p).length ≤ m
  | 0, p => by show ([] : List Nat).length ≤ 0; exact Nat.le_refl _
  | m + 1, p => by
    have := aLr_len ov m (p + 1)
    show (if aBit ov p = true then p :: aLr ov m (p + 1) else aLr ov m (p + 1)).length ≤ m + 1
    split
    · rw [List.length_cons]; omega
    · omega
theorem aLvs_ok {st : mStp} {to : mTo} {wh : Nat → mT} {N : Nat} (hg : ∀ i, mt_gd (wh i)) (ho : aOv st to < 16) (h : aJobs (sMe st) (aOv st to) wh = some N) : aPr (aLvs st to wh N) = N ∧ (aLvs st to wh N).length ≤ 4 ∧ ((∀ n ∈ aLvs st to wh N, n ≤ 8) ∨ aLvs st to wh N = [N]) := by
  unfold aLvs
  unfold aJobs at h
  by_cases h0 : aOv st to = 0
  · rw [if_pos h0] at h ⊢
    cases h
    exact ⟨rfl, by simp, Or.inl (fun n hn => nomatch hn)⟩
  · rw [if_neg h0] at h ⊢
    by_cases h2 : sMe st = 2
    · rw [if_pos h2]
      rw [h2] at h
      rw [Option.bind_eq_some_iff] at h
      obtain ⟨j, e1, e2⟩ := h
      rw [Option.bind_eq_some_iff] at e2
      obtain ⟨n, e3, e4⟩ := e2
      subst e3
      split at e4
      · cases e4
        have := aCf_pr _ none N e1 (Or.inr (aLr_ne h0 ho))
        refine ⟨by rw [this]; show _ = 1 * _; omega, by rw [List.length_map]; exact aLr_len _ 4 0, Or.inl (fun n hn => ?_)⟩
        obtain ⟨p, _, e⟩ := List.mem_map.mp hn
        rw [← e]
        by_cases hl : mt_isL (wh p) = true
        · exact ((mt_gl_list hl).mp (hg p)).2.1
        · unfold aLen
          have : mt_els (wh p) = [] := by
            cases hw : wh p with
            | leaf x => rfl
            | branch a b c => rw [hw] at hl; exact absurd rfl hl
          rw [this]; exact Nat.zero_le _
      · cases e4
    · rw [if_neg h2]
      exact ⟨by show N * 1 = N; omega, by simp, Or.inr rfl⟩
theorem aJob_ok {st : mStp} {to : mTo} {wh : Nat → mT} {n : Nat} {ws : List (List Nat)} (hto : tOk to) (hg : ∀ i, mt_gd (wh i)) (h : aJob st to wh n = some (some ws)) : aWok ws := by
  unfold aJob at h
  split at h
  · rw [Option.bind_eq_some_iff] at h
    obtain ⟨c, _, e2⟩ := h
    split at e2
    · cases e2
    · rw [Option.map_eq_some_iff] at e2
      obtain ⟨ws', e3, e4⟩ := e2
      cases e4
      exact aCmd_ok (fun x hx => (hto.2 x hx).2.1) (fun i => mt_gd_al (aAo_gd (fun j => aBf_gd hg))) e3
  · cases h
def rOk (E : mEv) (R : mRn) : Prop := nKn R ≤ (eSp E).length ∧ (∀ s, gOk (nPg R s)) ∧ (∀ s o, s < nKn R → aNd E s o = true → o < nKn R) ∧ (∀ s n, (s, n) ∈ nAc R → s < nKn R ∧ n < 16 ∧ (gPh (nPg R s) = 1 ∨ gPh (nPg R s) = 3) ∧ (∃ ws, gCm (nPg R s) n = some ws ∧ aWok ws) ∧ n < gN (nPg R s) ∧ (gPh (nPg R s) = 1 → gRs (nPg R s) n = none ∧ gTk (nPg R s) n = true)) ∧ (nAc R).Nodup ∧ (nAc R).length ≤ nWk R ∧ nWk R ≤ 3 ∧ ∀ s, nKn R ≤ s → gPh (nPg R s) = 0
theorem aNx_ok {E : mEv} {R : mRn} {s : Nat} (h : aNx E R = some s) : s < nKn R ∧ gPh (nPg R s) = 0 ∧ ∀ o, o < nKn R → aNd E s o = true → gPh (nPg R o) = 2 := by
  have h1 := List.mem_range.mp (List.mem_of_find?_eq_some h)
  have h2 := List.find?_some h
  unfold aCan at h2
  rw [Bool.and_eq_true, beq_iff_eq, List.all_eq_true] at h2
  refine ⟨h1, h2.1, fun o ho hn => ?_⟩
  have := h2.2 o (List.mem_range.mpr ho)
  rw [hn, Bool.not_true, Bool.false_or, beq_iff_eq] at this
  exact this
theorem sV_gd {E : mEv} {R : mRn} {s : Nat} (hE : eOk E) (hR : rOk E R) (hn : aNx E R = some s) : ∀ p, p < (eTo E s).2.length → ∀ c ∈ sSr (eSt E s) p, mt_gd (sV E R c) ∧ (10 ≤ c → gPh (nPg R (c - 10)) = 2 ∧ c - 10 < nKn R) := by
  obtain ⟨h1, h2, h3⟩ := aNx_ok hn
  intro p hp c hc
  obtain ⟨r1, r2, r3, _⟩ := hR
  have hso := (hE.2.1 s (by omega)).1 p
  have hcc := hso.2 c hc
  have key : 10 ≤ c → gPh (nPg R (c - 10)) = 2 ∧ c - 10 < nKn R := fun h10 => by
    have : aNd E s (c - 10) = true := by
      unfold aNd
      rw [List.any_eq_true]
      exact ⟨p, List.mem_range.mpr hp, by rw [List.contains_iff_mem, show 10 + (c - 10) = c by omega]; exact hc⟩
    have hk := r3 s _ h1 this
    exact ⟨h3 _ hk this, hk⟩
  refine ⟨?_, key⟩
  unfold sV
  rcases hcc with g | g
  · rw [if_pos g]; exact hE.2.2 c g
  · rw [if_neg (by omega)]
    exact (r2 _).2.2 (key g.1).1
theorem aX1_ok {E : mEv} {R : mRn} {s N : Nat} (hE : eOk E) (hR : rOk E R) (hst : sTl (eSt E s) < (eTl E).length) (hn : aNx E R = some s) (h4 : (eTo E s).2.length ≤ 4) (h : aExp (eSt E s) (eTo E s) (sV E R) = some N) : gOk (aX1 E R s N) := by
  obtain ⟨h1, h2, h3⟩ := aNx_ok hn
  have hs := hE.2.1 s (by have := hR.1; omega)
  have hg := aWh_gd (to := eTo E s) hs (fun p hp c hc => (sV_gd hE hR hn p hp c hc).1)
  obtain ⟨a1, a2, a3⟩ := aExp_iff.mp h
  obtain ⟨l1, l2, l3⟩ := aLvs_ok hg (aOv_lt hs.2.2.2.2.1 h4) a2
  refine ⟨by show 1 ≤ 3; omega, fun _ => ⟨(aJobs_pos a2).1, l1, l2, l3, fun n t e => ?_, fun n hn e => ?_⟩, fun e => absurd e (by show ¬ 1 = 2; omega)⟩
  · have e' : (if n < N ∧ aJb E R s n = some none then some (Lean.RArray.leaf none : mT) else none) = some t := e
    split at e'
    · rename_i hc; cases e'; exact ⟨hc.1, mt_gd_nul⟩
    · cases e'
  · have e' : (if n < N ∧ aJb E R s n = some none then some (Lean.RArray.leaf none : mT) else none) = none := e
    have hn' : n < N := hn
    have hne := a3 n hn'
    cases ej : aJb E R s n with
    | none => exact absurd ej hne
    | some o =>
      cases o with
      | none => rw [if_pos ⟨hn', ej⟩] at e'; cases e'
      | some ws =>
        refine ⟨ws, ?_, aJob_ok (hE.1 _ hst).1 hg ej⟩
        show (aJb E R s n).getD none = some ws
        rw [ej]; rfl
theorem aXg_ok {E : mEv} {R : mRn} {s : Nat} (hE : eOk E) (hR : rOk E R) (hst : sTl (eSt E s) < (eTl E).length) (hn : aNx E R = some s) (h4 : (eTo E s).2.length ≤ 4) : gOk (aXg E R s) ∧ gPh (aXg E R s) ≠ 0 := by
  unfold aXg
  split
  · exact ⟨⟨by show 3 ≤ 3; omega, fun e => absurd e (by show ¬ 3 = 1; omega), fun e => absurd e (by show ¬ 3 = 2; omega)⟩, by show 3 ≠ 0; omega⟩
  · rename_i N h
    exact ⟨gOk_se (aX1_ok hE hR hst hn h4 h), gSe_n0 (by show 1 ≠ 0; omega)⟩
theorem rOk_xp {E : mEv} {R : mRn} {s : Nat} (hE : eOk E) (hR : rOk E R) (hst : sTl (eSt E s) < (eTl E).length) (hn : aNx E R = some s) (h4 : (eTo E s).2.length ≤ 4) : rOk E (rPg R s (aXg E R s)) := by
  obtain ⟨g1, g2⟩ := aXg_ok hE hR hst hn h4
  obtain ⟨h1, h2, h3⟩ := aNx_ok hn
  obtain ⟨r1, r2, r3, r4, r5, r6, r7, r8⟩ := hR
  refine ⟨r1, fun k => ?_, r3, fun k n hk => ?_, r5, r6, r7, fun k hk => ?_⟩
  · show gOk (up (nPg R) s (aXg E R s) k)
    by_cases e : k = s
    · subst e; rw [up_eq]; exact g1
    · rw [up_ne e]; exact r2 k
  · have hk' := r4 k n hk
    have e : k ≠ s := fun e => by subst e; rw [h2] at hk'; omega
    show k < nKn R ∧ n < 16 ∧ (gPh (up (nPg R) s (aXg E R s) k) = 1 ∨ gPh (up (nPg R) s (aXg E R s) k) = 3) ∧ (∃ ws, gCm (up (nPg R) s (aXg E R s) k) n = some ws ∧ aWok ws) ∧ n < gN (up (nPg R) s (aXg E R s) k) ∧ (gPh (up (nPg R) s (aXg E R s) k) = 1 → gRs (up (nPg R) s (aXg E R s) k) n = none ∧ gTk (up (nPg R) s (aXg E R s) k) n = true)
    rw [up_ne e]; exact hk'
  · show gPh (up (nPg R) s (aXg E R s) k) = 0
    have hk : nKn R ≤ k := hk
    rw [up_ne (by omega)]
    exact r8 k hk
