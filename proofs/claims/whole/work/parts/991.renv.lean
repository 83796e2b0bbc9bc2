/-! THE REFERENCE'S TOOLS, STEPS AND INPUTS -/
def aP (p : Nat) : Prop := p < 600
def eTi (E : mEv) (i : Nat) : mTo := (eTl E).getD i (0, [])
def sEt (σ : mS) (E : mEv) : Prop := ∀ i, i < 4 → σ.2.1 91 i = nI (eTi E i).1 ∧ σ.2.1 92 i = nI (eTi E i).2.length ∧ ∀ p (h : p < (eTi E i).2.length), p < 4 ∧ σ.2.1 93 (4 * i + p) = (eTi E i).2[p].1 ∧ σ.2.1 94 (4 * i + p) = nI (eTi E i).2[p].2.1 ∧ σ.2.1 95 (4 * i + p) = nI (eTi E i).2[p].2.2
def sEr (σ : mS) (w : Nat) (r : Option (List Nat)) : Prop := (r = none ∧ σ.2.1 105 w = -1) ∨ ∃ D, r = some D ∧ sRu σ w D
def sEs (σ : mS) (E : mEv) : Prop := ∀ s, s < 6 → σ.2.1 96 s = nI (sTl (eSt E s)) ∧ σ.2.1 97 s = nI (sMk (eSt E s)) ∧ σ.2.1 98 s = nI (sMe (eSt E s)) ∧ sEr σ (24 + s) (sRl (eSt E s) 4) ∧ ∀ p, p < 4 → σ.2.1 99 (4 * s + p) = nI (sSr (eSt E s) p).length ∧ (∀ k (h : k < (sSr (eSt E s) p).length), σ.2.1 100 (3 * (4 * s + p) + k) = nI (sSr (eSt E s) p)[k]) ∧ σ.2.1 101 (4 * s + p) = nI (sMg (eSt E s) p) ∧ σ.2.1 102 (4 * s + p) = nI (sPk (eSt E s) p) ∧ sEr σ (4 * s + p) (sRl (eSt E s) p) ∧ ((sPr (eSt E s) p = none ∧ σ.2.1 103 (4 * s + p) = 0) ∨ ∃ t, sPr (eSt E s) p = some t ∧ σ.2.1 103 (4 * s + p) = 1 ∧ mSlot σ aP (3 + (4 * s + p)) (mt_tk t 0))
def sE (σ : mS) (E : mEv) : Prop := σ.1 6 = nI (eTl E).length ∧ σ.1 12 = nI (eSp E).length ∧ sEt σ E ∧ sEs σ E ∧ ∀ c, c < 3 → mSlot σ aP c (mt_tk (eIn E c) 0)
theorem sRu.kp {F : Nat → Prop} {B : Nat → Nat → Prop} {P W : Nat → Prop} {σ σ' : mS} {w : Nat} {D : List Nat} (h : sRu σ w D) (K : mKp F B P W σ σ') (hB : ∀ j, ¬ B 104 j ∧ ¬ B 105 j) : sRu σ' w D := by
  obtain ⟨a, b, c⟩ := h
  exact ⟨a, (K.2.1 105 w (by decide) (hB w).2).trans b, fun i hi => (K.2.1 104 _ (by decide) (hB _).1).trans (c i hi)⟩
theorem sEr.kp {F : Nat → Prop} {B : Nat → Nat → Prop} {P W : Nat → Prop} {σ σ' : mS} {w : Nat} {r : Option (List Nat)} (h : sEr σ w r) (K : mKp F B P W σ σ') (hB : ∀ j, ¬ B 104 j ∧ ¬ B 105 j) : sEr σ' w r := by
  rcases h with ⟨a, b⟩ | ⟨D, a, b⟩
  · exact Or.inl ⟨a, (K.2.1 105 w (by decide) (hB w).2).trans b⟩
  · exact Or.inr ⟨D, a, b.kp K hB⟩
theorem sE.kp {F : Nat → Prop} {B : Nat → Nat → Prop} {P W : Nat → Prop} {σ σ' : mS} {E : mEv} (h : sE σ E) (K : mKp F B P W σ σ') (hF : ¬ F 6 ∧ ¬ F 12) (hB : ∀ b j, 91 ≤ b → b ≤ 105 → ¬ B b j) (hP : ∀ p, p < 600 → ¬ P p) (hW : ∀ s, s < 27 → ¬ W s) : sE σ' E := by
  obtain ⟨a, b, c, e, f⟩ := h
  have kb : ∀ {b j : Nat}, 91 ≤ b → b ≤ 105 → σ'.2.1 b j = σ.2.1 b j := fun h1 h2 => K.2.1 _ _ (by omega) (hB _ _ h1 h2)
  refine ⟨(K.1 6 hF.1).trans a, (K.1 12 hF.2).trans b, fun i hi => ?_, fun s hs => ?_, fun c hc => (f c hc).keep K (hW c (by omega)) (fun p hp => hP p hp)⟩
  · obtain ⟨c1, c2, c3⟩ := c i hi
    exact ⟨(kb (by omega) (by omega)).trans c1, (kb (by omega) (by omega)).trans c2, fun p h => by
      obtain ⟨c4, c5, c6, c7⟩ := c3 p h
      exact ⟨c4, (kb (by omega) (by omega)).trans c5, (kb (by omega) (by omega)).trans c6, (kb (by omega) (by omega)).trans c7⟩⟩
  · obtain ⟨e1, e2, e3, e4, e5⟩ := e s hs
    have hB' : ∀ j, ¬ B 104 j ∧ ¬ B 105 j := fun j => ⟨hB _ _ (by omega) (by omega), hB _ _ (by omega) (by omega)⟩
    refine ⟨(kb (by omega) (by omega)).trans e1, (kb (by omega) (by omega)).trans e2, (kb (by omega) (by omega)).trans e3, e4.kp K hB', fun p hp4 => ?_⟩
    obtain ⟨g1, g2, g3, g4, g5, g6⟩ := e5 p hp4
    refine ⟨(kb (by omega) (by omega)).trans g1, fun k h => (kb (by omega) (by omega)).trans (g2 k h), (kb (by omega) (by omega)).trans g3, (kb (by omega) (by omega)).trans g4, g5.kp K hB', ?_⟩
    rcases g6 with ⟨y1, y2⟩ | ⟨t, y1, y2, y3⟩
    · exact Or.inl ⟨y1, (kb (by omega) (by omega)).trans y2⟩
    · exact Or.inr ⟨t, y1, (kb (by omega) (by omega)).trans y2, y3.keep K (hW _ (by omega)) (fun p hp => hP p hp)⟩
theorem sE.k0 {W : Nat → Prop} {σ σ' : mS} {E : mEv} (h : sE σ E) (K : mKp mN1 mN2 mN1 W σ σ') (hW : ∀ s, s < 27 → ¬ W s) : sE σ' E := h.kp K ⟨id, id⟩ (fun _ _ _ _ => id) (fun _ _ => id) hW
section REN
variable {X : List Int32} {d : Nat} {σ : mS} {Q : Option Value → mS → Prop} {A : Nat → Prop}
/-- gathered -/
theorem t169 {E : mEv} {s p : Nat} {sv : Nat → mT} (hE : sE σ E) (hso : sOk (eSt E s)) (hs : s < 6) (hp4 : p < 4) (hA : ∀ q, aP q → A q) (SS : ∀ c ∈ sSr (eSt E s) p, mSlot σ A (sl c) (mt_tk (sv c) 0) ∧ mt_gd (sv c))
    (H1 : ∀ t, aPort (sMg (eSt E s) p) (sPk (eSt E s) p) (sPr (eSt E s) p) ((sSr (eSt E s) p).map sv) = some t → ∀ σ', mKp mN1 mN2 mN1 (fun x => x = 129 + p ∨ x = 141) σ σ' → mSlot σ' A (129 + p) (mt_tk t 0) → Q (some (.int 1)) σ')
    (H0 : aPort (sMg (eSt E s) p) (sPk (eSt E s) p) (sPr (eSt E s) p) ((sSr (eSt E s) p).map sv) = none → ∀ σ', mKp mN1 mN2 mN1 (fun x => x = 129 + p ∨ x = 141) σ σ' → Q (some (.int 0)) σ') : mM X (d + 7) 169 0 (mm_L0 169 [.ref 86, .int (nI s), .int (nI p)]) [] σ Q := by
  obtain ⟨_, _, _, e4, _⟩ := id hE
  obtain ⟨_, _, _, _, e5⟩ := e4 s hs
  obtain ⟨g1, g2, g3, g4, _, g6⟩ := e5 p hp4
  have hmg := (hso.2.1 p).1
  have hpk := (hso.2.1 p).2
  have hsr := hso.1 p
  have hq : 4 * s + p < 24 := by omega
  have eq4 : ((4 : Int32) * nI s) + nI p = nI (4 * s + p) := by rw [show (4 : Int32) = nI 4 from rfl, pk_mul, nI_add]
  have e129 : (129 : Int32) + nI p = nI (129 + p) := by rw [show (129 : Int32) = nI 129 from rfl, nI_add]
  have eq3 : (3 : Int32) * nI (4 * s + p) = nI (3 * (4 * s + p)) := by rw [show (3 : Int32) = nI 3 from rfl, pk_mul]
  have hcap : mcp (129 + p) = 544 := by unfold mcp; rw [if_neg (by omega), if_neg (by omega), if_neg (by omega)]
  refine u169_0 ?_
  rw [eq4, e129, eq3]
  have hgd : ∀ x ∈ (sSr (eSt E s) p).map sv, mt_gd x := fun x hx => by
    obtain ⟨c, hc, e⟩ := List.mem_map.mp hx
    rw [← e]; exact (SS c hc).2
  have last : ∀ (σ3 : mS) (t : mT), mKp mN1 mN2 mN1 (fun x => x = 129 + p ∨ x = 141) σ σ3 → mSlot σ3 A (129 + p) (mt_tk t 0) → aPort (sMg (eSt E s) p) (sPk (eSt E s) p) (sPr (eSt E s) p) ((sSr (eSt E s) p).map sv) = some (aPre (sPr (eSt E s) p) t) → mM X (d + 7) 169 121 [some (.ref 86), some (.int (nI s)), some (.int (nI p)), some (.int (nI (4 * s + p))), some (.int (nI (129 + p)))] [] σ3 Q := by
    intro σ3 t K3 S3 eP
    obtain ⟨u, us', etk, eu, _⟩ := mt_tk_ne t 0
    have hk4 := mt_k_lt t
    refine u169_121 (s123 S3.1 ⟨_, rfl, t144 (i := 0) (u := u) S3 (by rw [etk]; rfl) ⟨_, rfl, ?_⟩⟩)
    rw [eu]
    refine pk_ne (mt_k t) 0 (fun h0 => ⟨m_ix hq (by decide), ?_⟩) (fun h0 => ?_)
    · rw [mGet_e (by omega), K3.2.1 103 _ (by decide) id]
      rcases g6 with ⟨y1, y2⟩ | ⟨t', y1, y2, y3⟩
      · rw [y2]
        refine ⟨fun _ => H1 t ?_ σ3 K3 S3, fun g => absurd rfl g⟩
        rw [eP, y1]; unfold aPre; rw [if_pos h0]; rfl
      · rw [y2]
        refine ⟨fun g => absurd g (by decide), fun _ => ?_⟩
        rw [show (3 : Int32) = nI 3 from rfl, nI_add]
        have y3' := (y3.keep K3 (by omega) (fun _ _ h => h)).weak hA
        have hr := y3.2.1
        have hr2 : mcp (3 + (4 * s + p)) = 32 := by unfold mcp; rw [if_pos (by omega)]
        refine t149 y3' S3.1 (by omega) (by omega) (by have := mt_gd_dp (hso.2.2.1 p t' y1); omega) (fun σ4 K4 S4 => ⟨rfl, H1 t' ?_ σ4 (K3.tr (K4.mono (fun _ h => h) (fun _ _ h => h) (fun _ h => h) (fun _ h => Or.inl h))) S4⟩)
        rw [eP, y1]; unfold aPre; rw [if_pos h0]; rfl
    · refine H1 t ?_ σ3 K3 S3
      rw [eP]; unfold aPre; rw [if_neg h0]
  have mid : ∀ (σ2 : mS) (t : mT), t = aMg (sMg (eSt E s) p) ((sSr (eSt E s) p).map sv) → mKp mN1 mN2 mN1 (fun x => x = 129 + p ∨ x = 141) σ σ2 → mSlot σ2 A (129 + p) (mt_tk t 0) → mM X (d + 7) 169 84 [some (.ref 86), some (.int (nI s)), some (.int (nI p)), some (.int (nI (4 * s + p))), some (.int (nI (129 + p)))] [] σ2 Q := by
    intro σ2 t et K2 S2
    have eA : aPort (sMg (eSt E s) p) (sPk (eSt E s) p) (sPr (eSt E s) p) ((sSr (eSt E s) p).map sv) = if okB t = true then (aPk (sPk (eSt E s) p) t).map (aPre (sPr (eSt E s) p)) else none := by rw [et]; rfl
    refine u169_84 (t142 (d := d + 2) S2 (fun hok => ?_) (fun hok => ?_))
    · have hob := okB_iff.mpr hok
      rw [if_pos hob] at eA
      have tg : mt_gd t := by rw [et] at hob ⊢; exact aMg_gd hgd hob
      refine ⟨_, rfl, fun _ => ⟨m_ix hq (by decide), ?_⟩, fun g => absurd g (by decide)⟩
      rw [mGet_e (by omega), K2.2.1 102 _ (by decide) id, g4]
      refine pk_le (sPk (eSt E s) p) 0 (fun h0 => ?_) (fun h0 => ⟨m_ix hq (by decide), ?_⟩)
      · have e0 : sPk (eSt E s) p = 0 := by omega
        refine last σ2 t K2 S2 ?_
        rw [eA]; unfold aPk; rw [if_pos e0]; rfl
      · refine t172 S2 ⟨by omega, by omega⟩ hcap (by omega) tg (fun t' ht' σ3 K3 S3 => ⟨_, rfl, fun _ => last σ3 t' (K2.tr K3) S3 (by rw [eA, ht']; rfl), fun g => absurd g (by decide)⟩) (fun ht' σ3 K3 => ⟨_, rfl, fun g => absurd rfl g, fun _ => H0 (by rw [eA, ht']; rfl) σ3 (K2.tr K3)⟩)
    · rw [if_neg (fun h => hok (okB_iff.mp h))] at eA
      exact ⟨_, rfl, fun g => absurd rfl g, fun _ => H0 eA σ2 K2⟩
  refine mSlot.clear (A := A) (by omega) (fun σ1 K1 D1 => ⟨rfl, m_ix hq (by decide), ?_⟩)
  have K1' : mKp mN1 mN2 mN1 (fun x => x = 129 + p ∨ x = 141) σ σ1 := K1.mono (fun _ h => h) (fun _ _ h => h) (fun _ h => h) (fun _ h => Or.inl h)
  have SS1 : ∀ c ∈ sSr (eSt E s) p, mSlot σ1 A (sl c) (mt_tk (sv c) 0) := fun c hc => (SS c hc).1.keep K1 (by have := (sl_lt (hsr.2 c hc)).1; omega) (fun _ _ h => h)
  have all : (sSr (eSt E s) p) ≠ [] → aMg (sMg (eSt E s) p) ((sSr (eSt E s) p).map sv) = mt_mk (((sSr (eSt E s) p).map (fun c => aSp (sMg (eSt E s) p) (sv c))).flatten) → mM X (d + 6) 171 0 (mm_L0 171 [.ref 86, .int (nI (4 * s + p)), .int (nI (129 + p))]) [] σ1 (m0_K (fun σ4 => mM X (d + 7) 169 84 [some (.ref 86), some (.int (nI s)), some (.int (nI p)), some (.int (nI (4 * s + p))), some (.int (nI (129 + p)))] [] σ4 Q)) := by
    intro hne eM
    refine u171_0 ((D1 A).add (k := 3) (l := 0) (v := 0) (by rw [hcap]; show 0 < 544; omega) (by omega) (by omega) (fun σ2 K2 D2 => ⟨rfl, ?_⟩))
    have K2' : mKp mN1 mN2 mN1 (fun x => x = 129 + p ∨ x = 141) σ1 σ2 := K2.mono (fun _ h => h) (fun _ _ h => h) (fun _ h => h) (fun _ h => Or.inl h)
    refine t171_10 (d := d + 1) (to := 129 + p) (q := 4 * s + p) (mgv := sMg (eSt E s) p) (cs := sSr (eSt E s) p) (sv := sv) (by omega) hq hsr.1 hsr.2 hmg (fun c hc => mt_gd_dp (SS c hc).2) hcap (sSr (eSt E s) p) [] σ2 [(3, 0, 0, [])] none none none rfl ?_ ?_ ?_ (fun c hc => (SS1 c hc).keep K2 (by have := (sl_lt (hsr.2 c hc)).1; omega) (fun _ _ h => h)) D2 (by simp) (fun σ3 K3 D3 => ⟨rfl, ?_⟩)
    · rw [K2.2.1 99 _ (by decide) id, K1.2.1 99 _ (by decide) id]; exact g1
    · rw [K2.2.1 101 _ (by decide) id, K1.2.1 101 _ (by decide) id]; exact g3
    · intro k hk
      rw [K2.2.1 100 _ (by decide) id, K1.2.1 100 _ (by decide) id]; exact g2 k hk
    · refine mid σ3 _ rfl ((K1'.tr K2').tr (K3.mono (fun _ h => h) (fun _ _ h => h) (fun _ h => h) (fun _ h => Or.inl h))) ?_
      rw [eM, mt_tk_mk]; exact D3
  rw [mGet_e (by omega), mGet_e (by omega), mGet_e (by omega), K1.2.1 99 _ (by decide) id, K1.2.1 101 _ (by decide) id, K1.2.1 100 _ (by decide) id, g1, g3]
  refine pk_ne (sSr (eSt E s) p).length 0 (fun h0 => ?_) (fun h0 => ⟨m_ix hq (by decide), pk_ne (sSr (eSt E s) p).length 1 (fun h1 => ⟨m_ix hq (by decide), pk_ne (sMg (eSt E s) p) 0 (fun hm => ⟨m_ix (by omega) (by decide), ?_⟩) (fun hm => ?_)⟩) (fun h1 => ?_)⟩)
  · have hnil : sSr (eSt E s) p = [] := List.length_eq_zero_iff.mp h0
    refine (D1 A).add (k := 0) (l := 0) (v := 0) (by rw [hcap]; show 0 < 544; omega) (by omega) (by omega) (fun σ2 K2 D2 => ⟨rfl, ?_⟩)
    refine mid σ2 (.leaf none) (by rw [hnil]; rfl) (K1'.tr (K2.mono (fun _ h => h) (fun _ _ h => h) (fun _ h => h) (fun _ h => Or.inl h))) D2
  · obtain ⟨c, ec⟩ := List.length_eq_one_iff.mp h1
    have g2' := g2 0 (by omega)
    have e0 : (sSr (eSt E s) p)[0]'(by omega) = c := by simp [ec]
    rw [Nat.add_zero, e0] at g2'
    rw [g2']
    have hcm : c ∈ sSr (eSt E s) p := by rw [ec]; simp
    have hrw := (SS1 c hcm).2.1
    have hs176 := (sl_lt (hsr.2 c hcm)).2
    refine t170 (deep := 0) (hsr.2 c hcm) (SS1 c hcm) (D1 A) (by omega) (by rw [hcap]; simp only [List.length_nil]; omega) (by have := mt_gd_dp (SS c hcm).2; omega) (fun σ2 K2 D2 => ⟨rfl, ?_⟩)
    refine mid σ2 (sv c) (by rw [ec]; show _ = (if sMg (eSt E s) p = 0 then sv c else _); rw [if_pos hm]) (K1'.tr (K2.mono (fun _ h => h) (fun _ _ h => h) (fun _ h => h) (fun _ h => Or.inl h))) D2
  · obtain ⟨c, ec⟩ := List.length_eq_one_iff.mp h1
    refine all (by rw [ec]; simp) ?_
    rw [ec]
    show (if sMg (eSt E s) p = 0 then sv c else mt_mk (aSp (sMg (eSt E s) p) (sv c))) = _
    rw [if_neg hm]; simp
  · refine all (fun e => by rw [e] at h0; exact h0 rfl) ?_
    match hcs : sSr (eSt E s) p, h0, h1 with
    | [], h0, _ => exact absurd rfl h0
    | [a], _, h1 => exact absurd rfl h1
    | a :: b :: l, _, _ =>
      show mt_mk (((a :: b :: l).map sv).map (aSp (sMg (eSt E s) p))).flatten = _
      rw [List.map_map]; rfl
end REN
