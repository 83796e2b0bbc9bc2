/-! READERS: state, output -/
section RDS
variable {X : List Int32} {t d : Nat} {hp : mm_H} {Q : Option Value → mm_H → Prop}
theorem cPr.ph {s : Nat} {g : mPg} {jl : List Value} (h : cPr hp s g jl) : ∃ vs out, hp[56 + 5 * s]? = some (5, vs) ∧ vs[10]? = some (.int (nI (gPh g))) ∧ vs[11]? = some out ∧ mw_nr out ∧ (gPh g = 2 → ∃ q : Nat, out = .ref q ∧ cS q ∧ cT cS hp (gOut g) q) := by
  obtain ⟨lv, jc, oc, nj, tk, out, rl, ⟨ls, p0, _⟩, J, R, hr, ho, e0, z0, z1, z2⟩ := h
  exact ⟨_, out, p0, rfl, rfl, ho, z2⟩
theorem k116 {R : mRn} {JL : Nat → List Value} {y : Int32} (rn : cRn hp R JL) (hk : nKn R ≤ 6) (H1 : ∀ s : Nat, y = nI s → s < nKn R → Q (some (.int (nI (gPh (nPg R s))))) hp) (H0 : (∀ s : Nat, s < nKn R → y ≠ nI s) → Q (some (.int 0)) hp) : mm_R X (d + 1) 116 0 (mm_L0 116 [.ref 12, .int y]) [] hp Q := by
  obtain ⟨⟨s1, i1, r12, _⟩, r52, _, r4⟩ := id rn
  rcases nI_arg y (L := nKn R) (by omega) with ⟨s, rfl, hs⟩ | ⟨h, hno⟩
  · obtain ⟨vs, out, p0, p1, _⟩ := (r4 s (by omega)).ph
    exact w116_0 ⟨fun g => absurd g (nI_pos (by omega)), fun _ => ⟨_, _, _, rfl, r12, rfl, pk_lt s (nKn R) (fun _ => ⟨_, _, _, rfl, r12, rfl, mw_avr r52 (by omega) rfl (cPg_at (by omega)) rfl (by omega) ⟨_, _, _, rfl, p0, p1, H1 s rfl hs⟩⟩) (fun g => absurd g (by omega))⟩⟩
  · exact w116_0 ⟨fun _ => H0 hno, fun g => ⟨_, _, _, rfl, r12, rfl, fun g2 => absurd (h.resolve_left g) (Int32.not_le.mpr g2), fun _ => H0 hno⟩⟩
theorem t131 {E : mEv} {σ : mS} {Q : Option Value → mS → Prop} {y : Int32} (hE : sE σ E) (h6 : (eSp E).length ≤ 6) (H1 : ∀ s : Nat, y = nI s → s < (eSp E).length → Q (some (.int 1)) σ) (H0 : (∀ s : Nat, s < (eSp E).length → y ≠ nI s) → Q (some (.int 0)) σ) : mM X (d + 1) 131 0 (mm_L0 131 [.ref 86, .int y]) [] σ Q := by
  have h12 : σ.1 12 = nI (eSp E).length := hE.2.1
  rcases nI_arg y (L := (eSp E).length) (by omega) with ⟨s, rfl, hs⟩ | ⟨h, hno⟩
  · refine u131_0 ⟨fun g => absurd g (nI_pos (by omega)), fun _ => ?_⟩
    rw [h12]
    exact ⟨fun g => absurd g (nI_ge hs (by omega)), fun _ => H1 s rfl hs⟩
  · refine u131_0 ⟨fun _ => H0 hno, fun g => ?_⟩
    rw [h12]
    exact ⟨fun _ => H0 hno, fun g2 => absurd (h.resolve_left g) g2⟩
theorem t207 {D : List Nat} {E : mEv} {tr sr : Nat → Nat} {R : mRn} {σ : mS} {Q : Option Value → mS → Prop} {y : Int32} (hS : SI σ D E R) (hA : AI E tr sr R) (H1 : nSt R ≠ 0 → ∀ s : Nat, y = nI s → s < (eSp E).length → Q (some (.int (nI (gPh (nPg R s))))) σ) (H0 : nSt R = 0 ∨ (∀ s : Nat, s < (eSp E).length → y ≠ nI s) → Q (some (.int (-1))) σ) : mM X (d + 2) 207 0 (mm_L0 207 [.ref 86, .int y]) [] σ Q := by
  have h6 := hA.1.2.2.1
  have h3 := hA.2.2.2.1
  have hk := hA.2.2.2.2.2.2.1
  refine u207_0 ?_
  rw [hS.2.2.2.1.1.1]
  refine pk_eq (nSt R) 0 (fun e => H0 (Or.inl e)) (fun e => ?_)
  refine t131 hS.2.1 h6 (fun s es hs => ⟨_, rfl, fun _ => ?_, fun g => absurd g (by decide)⟩) (fun hno => ⟨_, rfl, fun g => absurd rfl g, fun _ => H0 (Or.inr hno)⟩)
  subst es
  rw [hS.2.2.2.1.1.2.2.1]
  refine pk_le (nKn R) s (fun g => ?_) (fun g => ⟨m_ix (by omega) (by decide), ?_⟩)
  · have := H1 e s rfl hs
    rw [hA.2.2.2.2.2.2.2.1 s g] at this
    exact this
  · rw [mGet_e (by omega), (hS.2.2.2.1.2 s (by omega)).1]
    exact H1 e s rfl hs
theorem ob_state {y1 : Int32} (I : IV X t hp) : mL_ob X (IV X) t hp 115 207 [.int y1] := ob_ro rfl I (fun D x E tr sr R JL σ hC hS hA => by
  have rn := hC.2.2.2.2.1
  obtain ⟨⟨s1, i1, r12, _⟩, _⟩ := id rn
  have h6 := hA.1.2.2.1
  have h3 := hA.2.2.2.1
  have hk := hA.2.2.2.2.2.2.1
  by_cases e : nSt R = 0
  · refine ⟨-1, fun Q H => w115_0 ⟨_, _, _, rfl, hC.1, rfl, _, _, _, rfl, r12, rfl, ?_⟩, fun Q H => t207 hS hA (fun z => absurd e z) (fun _ => H)⟩
    exact pk_eq (nSt R) 0 (fun _ => H) (fun z => absurd e z)
  · rcases nI_arg y1 (L := (eSp E).length) (by omega) with ⟨s, rfl, hs⟩ | ⟨h, hno⟩
    · refine ⟨nI (gPh (nPg R s)), fun Q H => w115_0 ⟨_, _, _, rfl, hC.1, rfl, _, _, _, rfl, r12, rfl, ?_⟩, fun Q H => t207 hS hA (fun _ s' es hs' => ?_) (fun z => ?_)⟩
      · refine pk_eq (nSt R) 0 (fun z => absurd z e) (fun _ => ⟨fun g => absurd g (nI_pos (by omega)), fun _ => ⟨_, _, _, rfl, hC.1, rfl, pk_lt s (eSp E).length (fun _ => ⟨_, _, _, rfl, hC.1, rfl, ⟨_, _, rfl, r12⟩, k116 rn (by omega) (fun s' es hs' => ⟨_, rfl, ?_⟩) (fun hno => ⟨_, rfl, ?_⟩)⟩) (fun g => absurd g (by omega))⟩⟩)
        · have := (nI_eq (by omega) (by omega)).mp es
          subst this; exact H
        · have : nKn R ≤ s := by
            apply Classical.byContradiction
            intro z
            exact hno s (by omega) rfl
          rw [hA.2.2.2.2.2.2.2.1 s this] at H
          exact H
      · have := (nI_eq (by omega) (by omega)).mp es
        subst this; exact H
      · rcases z with z | z
        · exact absurd z e
        · exact absurd rfl (z s hs)
    · refine ⟨-1, fun Q H => w115_0 ⟨_, _, _, rfl, hC.1, rfl, _, _, _, rfl, r12, rfl, ?_⟩, fun Q H => t207 hS hA (fun _ s es hs => absurd es (hno s hs)) (fun _ => H)⟩
      exact pk_eq (nSt R) 0 (fun z => absurd z e) (fun _ => ⟨fun _ => H, fun g => ⟨_, _, _, rfl, hC.1, rfl, fun g2 => absurd (h.resolve_left g) (Int32.not_le.mpr g2), fun _ => H⟩⟩))
theorem k82a {S : Nat → Prop} {u : mT} {r : Nat} {i : Int32} (hT : cT S hp u r) (hg : mt_gd u) (H1 : ∀ n : Nat, i = nI n → n < 2 ^ 30 → Q (some (.int (mt_at (mt_fm u) n))) hp) (H0 : (i < 0 ∨ nI (2 ^ 30) ≤ i) → Q (some (.int (-1))) hp) : mm_R X (d + 1) 82 0 (mm_L0 82 [.ref r, .int i]) [] hp Q := by
  rcases nI_arg i (L := 2 ^ 30) (by omega) with ⟨n, rfl, hn⟩ | ⟨h, hno⟩
  · exact k82 hT hg hn (H1 n rfl hn)
  · obtain ⟨L, I, m, h0, _⟩ := hT.cell
    have hl := (mt_fm_len u 0 hg).2
    refine w82_0 (w82_7 ⟨fun g => absurd g (by decide), fun _ => ⟨fun _ => H0 h, fun g => ⟨rfl, _, _, _, rfl, h0, rfl, fun g2 => ?_, fun _ => H0 h⟩⟩⟩)
    have h' := h.resolve_left g
    have : nI (2 ^ 30) < nI (mt_fm u).length := Int32.lt_of_le_of_lt h' g2
    exact absurd this (nI_nlt (by omega) (by omega))
theorem mt_at_hi {l : List Nat} {i : Nat} (h : l.length ≤ i) : mt_at l i = -1 := by
  unfold mt_at
  rw [List.getElem?_eq_none h]
theorem ob_output {y1 y2 : Int32} (I : IV X t hp) : mL_ob X (IV X) t hp 117 208 [.int y1, .int y2] := by
  obtain ⟨D, x, E, tr, sr, R, JL, σ, hC, M, hS, hA, hP, hG⟩ := I
  have rn := hC.2.2.2.2.1
  obtain ⟨⟨s1, i1, r12, _⟩, r52, _, r4⟩ := id rn
  have h6 := hA.1.2.2.1
  have h3 := hA.2.2.2.1
  have hk := hA.2.2.2.2.2.2.1
  have done : ∀ y : Int32, mM X 999 208 0 (mm_L0 208 [.ref 86, .int y1, .int y2]) [] σ (fun r2 σ' => r2 = some (.int y) ∧ SI σ' D E R ∧ PC σ' D E (t + 1)) → (∃ D x E tr sr R JL σ, CI hp D x E tr sr R JL ∧ mR hp σ ∧ AI E tr sr R ∧ GI hp JL (t + 1) ∧ mM X 999 208 0 (mm_L0 208 [.ref 86, .int y1, .int y2]) [] σ (fun r2 σ' => r2 = some (.int y) ∧ SI σ' D E R ∧ PC σ' D E (t + 1))) := fun y h => ⟨D, x, E, tr, sr, R, JL, σ, hC, M, hA, hG.up, h⟩
  have no : (∀ s : Nat, s < nKn R → y1 = nI s → gPh (nPg R s) ≠ 2) → mL_ob X (IV X) t hp 117 208 [.int y1, .int y2] := by
    intro hno
    refine ob_of rfl (w117_0 ⟨_, _, _, rfl, hC.1, rfl, ⟨_, _, rfl, r12⟩, w118_0 ⟨⟨_, _, rfl, r12⟩, k116 rn (by omega) (fun s es hs => ⟨_, rfl, ?_⟩) (fun _ => ⟨_, rfl, fun _ => ⟨_, rfl, rfl, Or.inl ⟨rfl, ?_⟩⟩, fun g => absurd g (by decide)⟩)⟩⟩)
    · have hph := (hA.2.2.2.2.2.1 s).1
      refine pk_ne (gPh (nPg R s)) 2 (fun e => absurd e (hno s hs es)) (fun _ => ⟨_, rfl, rfl, Or.inl ⟨rfl, ?_⟩⟩)
      refine ⟨-1, rfl, done _ (u208_0 (t207 hS hA (fun _ s' es' hs' => ⟨_, rfl, ?_⟩) (fun _ => ⟨_, rfl, fun _ => ⟨rfl, hS, hP.up⟩, fun g => absurd g (by decide)⟩)))⟩
      have := (nI_eq (by omega) (by omega)).mp (es.symm.trans es')
      subst this
      exact pk_ne (gPh (nPg R s)) 2 (fun e => absurd e (hno s hs es)) (fun _ => ⟨rfl, hS, hP.up⟩)
    · refine ⟨-1, rfl, done _ (u208_0 (t207 hS hA (fun _ s' es' hs' => ⟨_, rfl, ?_⟩) (fun _ => ⟨_, rfl, fun _ => ⟨rfl, hS, hP.up⟩, fun g => absurd g (by decide)⟩)))⟩
      have hph := (hA.2.2.2.2.2.1 s').1
      refine pk_ne (gPh (nPg R s')) 2 (fun e => ?_) (fun _ => ⟨rfl, hS, hP.up⟩)
      by_cases hk' : s' < nKn R
      · exact absurd e (hno s' hk' es')
      · have := hA.2.2.2.2.2.2.2.1 s' (by omega); omega
  rcases nI_arg y1 (L := nKn R) (by omega) with ⟨s, rfl, hs⟩ | ⟨h, hno⟩
  · by_cases e2 : gPh (nPg R s) = 2
    · have hgd := (hA.2.2.2.2.2.1 s).2.2 e2
      have hst : nSt R ≠ 0 := fun z => by
        have := hA.2.2.2.2.2.2.2.2.2.2 z
        omega
      have S := (hS.2.2.2.1.2 s (by omega)).2 e2
      obtain ⟨vs, out, p0, p1, p2, p3, p4⟩ := (r4 s (by omega)).ph
      obtain ⟨q, rfl, q1, q2⟩ := p4 e2
      have hl := (mt_fm_len _ 0 hgd).2
      have ref : ∀ y : Int32, ((0 ≤ y2 → ∃ n : Nat, y2 = nI n ∧ n < 2 ^ 31 ∧ y = mt_at (mt_fm (gOut (nPg R s))) n) ∧ (¬ 0 ≤ y2 → y = -1)) → mM X 999 208 0 (mm_L0 208 [.ref 86, .int (nI s), .int y2]) [] σ (fun r2 σ' => r2 = some (.int y) ∧ SI σ' D E R ∧ PC σ' D E (t + 1)) := by
        intro y hy
        refine u208_0 (t207 hS hA (fun _ s' es' hs' => ⟨_, rfl, ?_⟩) (fun z => ?_))
        · have := (nI_eq (by omega) (by omega)).mp es'
          subst this
          refine pk_ne (gPh (nPg R s)) 2 (fun _ => ⟨fun g => ?_, fun g => ⟨by rw [hy.2 g], hS, hP.up⟩⟩) (fun z => absurd e2 z)
          obtain ⟨n, rfl, hn, rfl⟩ := hy.1 g
          rintro σ3 rfl σ4 rfl σ5 rfl σ6 rfl σ7 rfl
          rw [show (123 : Int32) = nI 123 from rfl, nI_add]
          generalize e7 : mSet (mSet (mSet (mSet (mSet σ 44 1) 40 0) 41 (nI n)) 42 (-1)) 43 1 = σ7
          have K7 : mKp (fun k => 40 ≤ k ∧ k ≤ 44) mN2 mN1 mN1 σ σ7 := by
            subst e7
            exact ((((mSet_kp (by decide)).tr (mSet_kp (by decide))).tr (mSet_kp (by decide))).tr (mSet_kp (by decide))).tr (mSet_kp (by decide))
          have T7 : oT σ7 n [] := by
            subst e7
            exact ⟨fun z => absurd (show (1 : Int32) = 0 from z) (by decide), rfl, rfl, rfl, by rw [mt_at_hi (Nat.zero_le _)]; rfl⟩
          clear e7
          have S7 := S.keep K7 id (fun _ _ h => h)
          refine s123 S7.1 ⟨_, rfl, s143 S7.1 S7.2.2.1 ⟨_, rfl, ?_⟩⟩
          refine t185 (X := X) (d := 994) (oT_ok hn) (B := aW s) (fun _ _ h => h) (pre := []) (rest := []) (t := gOut (nPg R s)) (l := 0) (w := []) S7 (by simp) (mt_cl_nil 0) rfl rfl (mt_gd_al hgd) (by have := mt_gd_dp hgd; omega) (by show 0 + _ + 1000 < _; omega) T7 (fun σ8 K8 T8 => ⟨rfl, ?_⟩)
          rintro σ9 rfl
          rw [List.nil_append] at T8
          have K9 : mKp (fun k => 40 ≤ k ∧ k ≤ 44) mN2 mN1 mN1 σ (mSet σ8 44 0) := (K7.tr (K8.mono (fun k h => by omega) (fun _ _ h => h) (fun _ h => h) (fun _ h => h))).tr (mSet_kp (by decide))
          refine ⟨?_, ?_, ?_⟩
          · rw [mSet_g, if_neg (by decide), T8.2.2.2.2]
          · obtain ⟨s1', s2', s3', ⟨⟨c1, c2, c3, c4, c5, c6⟩, s4'⟩, s5'⟩ := hS
            have hE9 := s2'.kp K9 (by omega) (fun _ _ _ _ h => h) (fun _ _ h => h) (fun _ _ h => h)
            have h49 : (mSet σ8 44 0).1 44 = 0 := by rw [mSet_g, if_pos rfl]
            have hR9 : sR0 (mSet σ8 44 0) R := ⟨⟨(K9.1 23 (by omega)).trans c1, (K9.1 24 (by omega)).trans c2, (K9.1 25 (by omega)).trans c3, (K9.1 26 (by omega)).trans c4, (K9.1 27 (by omega)).trans c5, (K9.1 28 (by omega)).trans c6⟩, fun k hk => ⟨(K9.2.1 106 _ (by decide) id).trans (s4' k hk).1, fun z => ((s4' k hk).2 z).keep K9 id (fun _ _ h => h)⟩⟩
            refine ⟨⟨s1'.1, (K9.1 3 (by omega)).trans s1'.2.1, fun i hi => (K9.2.1 88 _ (by decide) id).trans (s1'.2.2 i hi)⟩, hE9, h49, hR9, fun e1 => ?_⟩
            obtain ⟨_, _, _, g4, g5⟩ := s5' e1
            refine ⟨hE9, h49, hR9, fun i hi => ⟨(K9.2.1 111 _ (by decide) id).trans (g4 i hi).1, fun ws hw => ((g4 i hi).2 ws hw).keep K9 (fun _ _ _ h => h) (fun _ _ h => h)⟩, fun k hk => ⟨fun z => ?_, fun m hm hg => ?_⟩⟩
            · obtain ⟨a1, ⟨ln, a2, a3⟩, a4⟩ := (g5 k hk).1 z
              refine ⟨(K9.2.1 107 _ (by decide) id).trans a1, ⟨ln, a2, fun p hp hb => ⟨(a3 p hp hb).1, (K9.2.1 112 _ (by decide) id).trans (a3 p hp hb).2⟩⟩, fun m hm => ?_⟩
              obtain ⟨b1, b2, b3, b4⟩ := a4 m hm
              exact ⟨b1, (K9.2.1 108 _ (by decide) id).trans b2, fun t ht => (b3 t ht).keep K9 id (fun _ _ h => h), fun hr ws hw => (b4 hr ws hw).keep K9 (fun _ _ _ h => h) (fun _ _ h => h)⟩
            · rw [K9.2.1 108 _ (by decide) id]; exact (g5 k hk).2 m hm hg
          · exact hP.up.kp K9 (by omega) (fun _ _ h => h) (fun _ _ h => h)
        · rcases z with z | z
          · exact absurd z hst
          · exact absurd rfl (z s (by omega))
      refine ob_of rfl (w117_0 ⟨_, _, _, rfl, hC.1, rfl, ⟨_, _, rfl, r12⟩, w118_0 ⟨⟨_, _, rfl, r12⟩, k116 rn (by omega) (fun s' es hs' => ⟨_, rfl, ?_⟩) (fun hno => absurd rfl (hno s hs))⟩⟩)
      have := (nI_eq (by omega) (by omega)).mp es
      subst this
      refine pk_ne (gPh (nPg R s)) 2 (fun _ => ⟨_, _, _, rfl, r12, rfl, mw_avr r52 (by omega) rfl (cPg_at (by omega)) rfl (by omega) ⟨_, _, _, rfl, p0, p2, Or.inr ⟨_, rfl⟩, _, rfl, rfl, Or.inr ⟨⟨_, rfl⟩, ?_, ?_⟩⟩⟩) (fun z => absurd e2 z)
      · obtain ⟨cs, hcs⟩ := q2.tag
        exact ⟨_, _, rfl, hcs⟩
      · refine k82a (d := 997) q2 hgd (fun n en hn => ⟨_, rfl, _, rfl, done _ (ref _ ⟨fun _ => ⟨n, en, by omega, rfl⟩, fun z => ?_⟩)⟩) (fun hh => ⟨_, rfl, _, rfl, done _ (ref _ ⟨fun z => ?_, fun _ => rfl⟩)⟩)
        · rw [en] at z; exact absurd (nI_pos' (by omega)) z
        · obtain ⟨n, hn, en⟩ := nI_of (x := y2) (Int32.not_lt.mpr z)
          refine ⟨n, en, hn, ?_⟩
          have h30 : 2 ^ 30 ≤ n := by
            rcases hh with g | g
            · exact absurd z (Int32.not_le.mpr g)
            · rw [en] at g; exact (nI_leI (by omega) hn).mp g
          rw [mt_at_hi (by omega)]
    · exact no (fun s' hs' es => by
        have := (nI_eq (by omega) (by omega)).mp es
        subst this; exact e2)
  · exact no (fun s hs es => absurd es (hno s hs))
end RDS
