/-! LINK, GATHER, SCATTER ARE OWED, whole -/
section OLL
variable {X : List Int32} {t d : Nat} {hp : mm_H} {Q : Option Value → mm_H → Prop}
theorem t130 {D : List Nat} {E : mEv} {tr sr : Nat → Nat} {R : mRn} {σ : mS} {Q : Option Value → mS → Prop} {y1 y2 y3 : Int32} (hS : SI σ D E R) (hA : AI E tr sr R)
    (H1 : nSt R ≠ 1 → ∀ s p c : Nat, y1 = nI s → s < (eSp E).length → y2 = nI p → p < 4 → y3 = nI c → (c < 3 ∨ 10 ≤ c ∧ c < 16) → (sSr (eSt E s) p).length < 3 → ∀ σ', mKp mN1 (sB s) mN1 mN1 σ σ' → sEs1 σ' s (stL (eSt E s) p c) → Q (some (.int 1)) σ')
    (H0 : (nSt R = 1 ∨ noS E y1 ∨ noP y2 ∨ ¬ vS y3 ∨ ∃ s p : Nat, y1 = nI s ∧ s < (eSp E).length ∧ y2 = nI p ∧ p < 4 ∧ (sSr (eSt E s) p).length = 3) → Q (some (.int 0)) σ) : mM X (d + 2) 130 0 (mm_L0 130 [.ref 86, .int y1, .int y2, .int y3]) [] σ Q := by
  have h6 := hA.1.2.2.1
  refine u130_0 (t126 hS.2.2.2.1.1.1 hA.2.2.2.1 (fun n1 => ⟨_, rfl, fun z => absurd z (by decide), fun _ => ?_⟩) (fun e => ⟨_, rfl, fun _ => H0 (Or.inl e), fun z => absurd rfl z⟩))
  refine t131 hS.2.1 h6 (fun s es hs => ⟨_, rfl, fun z => absurd z (by decide), fun _ => ?_⟩) (fun hno => ⟨_, rfl, fun _ => H0 (Or.inr (Or.inl hno)), fun z => absurd rfl z⟩)
  refine t127 (lo := 0) (hi := 3) rfl rfl (by omega) (by omega) (fun p ep _ hp3 => ⟨_, rfl, fun z => absurd z (by decide), fun _ => ?_⟩) (fun hno => ⟨_, rfl, fun _ => H0 (Or.inr (Or.inr (Or.inl (fun p hp => hno p (by omega) (by omega))))), fun z => absurd rfl z⟩)
  subst es; subst ep
  have hso := hA.1.1.2.1 s hs
  have hs6 : s < 6 := by omega
  have C := hS.2.1.2.2.2.1 s hs6
  obtain ⟨a1, a2, a3, a4, a5⟩ := id C
  obtain ⟨b1, b2, b3, b4, b5, b6⟩ := a5 p (by omega)
  have hl3 := (hso.1 p).1
  rw [show (4 : Int32) = nI 4 from rfl, pk_mul, nI_add]
  refine ⟨m_ix (by omega) (by decide), ?_⟩
  rw [mGet_e (by omega), b1]
  refine pk_eq (sSr (eSt E s) p).length 3 (fun e3 => H0 (Or.inr (Or.inr (Or.inr (Or.inr ⟨s, p, rfl, hs, rfl, by omega, e3⟩))))) (fun e3 => ?_)
  have fin : ∀ c, y3 = nI c → (c < 3 ∨ 10 ≤ c ∧ c < 16) → mM X (d + 2) 130 60 [some (.ref 86), some (.int (nI s)), some (.int (nI p)), some (.int y3), none] [] σ Q := by
    intro c ec hc
    subst ec
    refine u130_60 ?_
    rw [show (4 : Int32) = nI 4 from rfl, show (3 : Int32) = nI 3 from rfl, pk_mul, nI_add, mGet_e (by omega), b1, pk_mul, nI_add]
    refine ⟨m_ix (by omega) (by decide), m_ix (by omega) (by decide), ?_⟩
    rintro σ3 rfl
    rw [uI_e (by omega)]
    refine ⟨m_ix (by omega) (by decide), m_ix (by omega) (by decide), ?_⟩
    rintro σ6 rfl
    rw [mGet_e (by omega), uI_e (by omega)]
    have e99 : (uI σ 100 (3 * (4 * s + p) + (sSr (eSt E s) p).length) (nI c)).2.1 99 (4 * s + p) + 1 = nI ((sSr (eSt E s) p).length + 1) := by rw [uI_at, if_neg (by omega), b1, nI_1]
    rw [e99]
    generalize eσ : uI (uI σ 100 (3 * (4 * s + p) + (sSr (eSt E s) p).length) (nI c)) 99 (4 * s + p) (nI ((sSr (eSt E s) p).length + 1)) = σ6
    have K : mKp mN1 (fun b j => b = 100 ∧ j = 3 * (4 * s + p) + (sSr (eSt E s) p).length ∨ b = 99 ∧ j = 4 * s + p) mN1 mN1 σ σ6 := by subst eσ; exact (uI_kp (by decide) (Or.inl ⟨rfl, rfl⟩)).tr (uI_kp (by decide) (Or.inr ⟨rfl, rfl⟩))
    have v99 : σ6.2.1 99 (4 * s + p) = nI ((sSr (eSt E s) p).length + 1) := by subst eσ; rw [uI_at, if_pos ⟨rfl, rfl⟩]
    have v100 : σ6.2.1 100 (3 * (4 * s + p) + (sSr (eSt E s) p).length) = nI c := by subst eσ; rw [uI_at, if_neg (by omega), uI_at, if_pos ⟨rfl, rfl⟩]
    refine H1 n1 s p c rfl hs rfl (by omega) rfl hc (by omega) σ6 (K.mono (fun _ h => h) (fun b j h => by unfold sB; omega) (fun _ h => h) (fun _ h => h)) ?_
    refine ⟨(K.2.1 96 _ (by decide) (by omega)).trans a1, (K.2.1 97 _ (by decide) (by omega)).trans a2, (K.2.1 98 _ (by decide) (by omega)).trans a3, a4.k K (by omega) (fun j _ _ => by omega), fun q hq => ?_⟩
    obtain ⟨g1, g2, g3, g4, g5, g6⟩ := a5 q hq
    have hlq := (hso.1 q).1
    refine ⟨?_, fun i hi => ?_, (K.2.1 101 _ (by decide) (by omega)).trans g3, (K.2.1 102 _ (by decide) (by omega)).trans g4, g5.k K (by omega) (fun j _ _ => by omega), ?_⟩
    · show σ6.2.1 99 (4 * s + q) = nI (up (sSr (eSt E s)) p (sSr (eSt E s) p ++ [c]) q).length
      by_cases e : q = p
      · subst e; rw [up_eq, List.length_append]; exact v99
      · rw [up_ne e, K.2.1 99 _ (by decide) (by omega)]; exact g1
    · by_cases e : q = p
      · subst e
        have e2 : sSr (stL (eSt E s) q c) q = sSr (eSt E s) q ++ [c] := up_eq _ _ _
        have hi2 : i < (sSr (eSt E s) q ++ [c]).length := by rw [← e2]; exact hi
        rw [List.getElem_of_eq e2 hi]
        by_cases en : i = (sSr (eSt E s) q).length
        · subst en
          rw [v100, List.getElem_append_right (Nat.le_refl _)]
          simp
        · have hi3 : i < (sSr (eSt E s) q).length := by rw [List.length_append, List.length_singleton] at hi2; omega
          rw [List.getElem_append_left hi3, K.2.1 100 _ (by decide) (by omega)]
          exact g2 i hi3
      · have e2 : sSr (stL (eSt E s) p c) q = sSr (eSt E s) q := up_ne e
        have hi2 : i < (sSr (eSt E s) q).length := by rw [← e2]; exact hi
        rw [List.getElem_of_eq e2 hi, K.2.1 100 _ (by decide) (by omega)]
        exact g2 i hi2
    · rcases g6 with ⟨z1, z2⟩ | ⟨u, z1, z2, z3⟩
      · exact Or.inl ⟨z1, (K.2.1 103 _ (by decide) (by omega)).trans z2⟩
      · exact Or.inr ⟨u, z1, (K.2.1 103 _ (by decide) (by omega)).trans z2, z3.keep K id (fun _ _ h => h)⟩
  refine t127 (lo := 0) (hi := 2) rfl rfl (by omega) (by omega) (fun c ec _ hc => ⟨_, rfl, fun _ => fin c ec (by omega), fun z => absurd z (by decide)⟩) (fun hno => ⟨_, rfl, fun z => absurd rfl z, fun _ => ?_⟩)
  refine t127 (lo := 10) (hi := 15) rfl rfl (by omega) (by omega) (fun c ec _ hc => ⟨_, rfl, fun _ => fin c ec (by omega), fun z => absurd z (by decide)⟩) (fun hno2 => ⟨_, rfl, fun z => absurd rfl z, fun _ => H0 (Or.inr (Or.inr (Or.inr (Or.inl ?_))))⟩)
  rintro ⟨c, ec, hc⟩
  rcases hc with hc | hc
  · exact hno c (by omega) (by omega) ec
  · exact hno2 c (by omega) (by omega) ec
theorem ob_link {y1 y2 y3 : Int32} (I : IV X t hp) (ht : t < 512) : mL_ob X (IV X) t hp 22 130 [.int y1, .int y2, .int y3] := by
  obtain ⟨D, x, E, tr, sr, R, JL, σ, hC, M, hS, hA, hP, hG⟩ := I
  have h6 := hA.1.2.2.1
  have bad : (nSt R = 1 ∨ noS E y1 ∨ noP y2 ∨ ¬ vS y3 ∨ ∃ s p : Nat, y1 = nI s ∧ s < (eSp E).length ∧ y2 = nI p ∧ p < 4 ∧ (sSr (eSt E s) p).length = 3) → ∃ y, some (Value.int 0) = some (.int y) ∧ ∃ D x E tr sr R JL σ, CI hp D x E tr sr R JL ∧ mR hp σ ∧ AI E tr sr R ∧ GI hp JL (t + 1) ∧ mM X 999 130 0 (mm_L0 130 [.ref 86, .int y1, .int y2, .int y3]) [] σ (fun r2 σ' => r2 = some (.int y) ∧ SI σ' D E R ∧ PC σ' D E (t + 1)) := fun hb => ob_same hC M hS hA hP hG (fun Q HQ => t130 hS hA (fun n1 s p c es hs ep hp4 ec hc hl σ' K C => by
    exfalso
    rcases hb with z | z | z | z | ⟨s', p', e1, e2, e3, e4, e5⟩
    · exact n1 z
    · exact z s hs es
    · exact z p hp4 ep
    · exact z ⟨c, ec, hc⟩
    · have a := (nI_eq (by omega) (by omega)).mp (es.symm.trans e1)
      have b := (nI_eq (by omega) (by omega)).mp (ep.symm.trans e3)
      subst a; subst b; omega) (fun _ => HQ))
  refine ob_of rfl (w22_0 ⟨⟨_, _, rfl, hC.1⟩, k23 hC hA (fun n1 s es hs => ⟨_, rfl, rfl, k22_fl (fun i5 s0 hfl => w22_40 ⟨rfl, Or.inr ⟨⟨_, rfl⟩, k24 (fun p ep hp4 => ⟨_, rfl, fun z => absurd z (by decide), fun _ => ?_⟩) (fun hno => ⟨_, rfl, fun _ => bad (Or.inr (Or.inr (Or.inl hno))), fun z => absurd rfl z⟩)⟩⟩)⟩) (fun hno => ⟨_, rfl, rfl, k22_fl (fun i5 s0 hfl => w22_40 ⟨rfl, Or.inl ⟨rfl, bad (by rcases hno with z | z; exact Or.inl z; exact Or.inr (Or.inl z))⟩⟩)⟩)⟩)
  obtain ⟨_, ⟨_, _, n, c1, c2, c3, c4⟩, _⟩ := id hC.2.2
  obtain ⟨d1, d2, d3, d4⟩ := c4 s hs
  have hso := hA.1.1.2.1 s hs
  have run : vS y3 → mw_rc (.ref (sr s)) 25 hp ∧ mm_R X 998 25 0 (mm_L0 25 [.ref (sr s), .int y2, .int y3]) [] hp (mw_ri (fun x6 hp5 => ((x6 = (0 : Int32) → ∃ y, some (Value.int (0 : Int32)) = some (.int y) ∧ ∃ D x E tr sr R JL σ, CI hp5 D x E tr sr R JL ∧ mR hp5 σ ∧ AI E tr sr R ∧ GI hp5 JL (t + 1) ∧ mM X 999 130 0 (mm_L0 130 [.ref 86, .int y1, .int y2, .int y3]) [] σ (fun r2 σ' => r2 = some (.int y) ∧ SI σ' D E R ∧ PC σ' D E (t + 1))) ∧ (¬ x6 = (0 : Int32) → ∃ y, some (Value.int (1 : Int32)) = some (.int y) ∧ ∃ D x E tr sr R JL σ, CI hp5 D x E tr sr R JL ∧ mR hp5 σ ∧ AI E tr sr R ∧ GI hp5 JL (t + 1) ∧ mM X 999 130 0 (mm_L0 130 [.ref 86, .int y1, .int y2, .int y3]) [] σ (fun r2 σ' => r2 = some (.int y) ∧ SI σ' D E R ∧ PC σ' D E (t + 1)))))) := by
    rintro ⟨c, ec, hc⟩
    obtain ⟨u, cs, g1, g2, _⟩ := d4.tag 0 (by omega)
    have := g2 rfl
    subst this
    refine ⟨⟨_, _, rfl, g1⟩, ?_⟩
    rw [ep, ec]
    refine k25 d4 hp4 (fun q => (hso.1 q).1) (by omega) (fun hl hp' F hH C => ⟨_, rfl, fun z => absurd z (by decide), fun _ => ?_⟩) (fun hl => ⟨_, rfl, fun _ => ?_, fun z => absurd rfl z⟩)
    · refine ob_step (s := s) (st := stL (eSt E s) p c) hC M hS hA hP hG ht n1 hs rfl rfl (stL_ok hso hl hc) F hH C (fun Q HQ => ?_)
      refine t130 hS hA (fun _ s' p' c' es' hs' ep' hp4' ec' hc' hl' σ' K C' => ?_) (fun hb => ?_)
      · have a := (nI_eq (by omega) (by omega)).mp (es.symm.trans es')
        have b := (nI_eq (by omega) (by omega)).mp ep'
        have c := (nI_eq (by omega) (by omega)).mp ec'
        subst a; subst b; subst c
        exact HQ σ' K C'
      · exfalso
        rcases hb with z | z | z | z | ⟨s', p', e1, e2, e3, e4, e5⟩
        · exact n1 z
        · exact z s hs es
        · exact z p hp4 rfl
        · exact z ⟨c, rfl, hc⟩
        · have a := (nI_eq (by omega) (by omega)).mp (es.symm.trans e1)
          have b := (nI_eq (by omega) (by omega)).mp e3
          subst a; subst b; omega
    · have := bad (Or.inr (Or.inr (Or.inr (Or.inr ⟨s, p, es, hs, ep, hp4, hl⟩))))
      rw [ep, ec] at this
      exact this
  refine ⟨fun z => run (hfl.mp (Or.inl z)), fun z => ⟨fun z2 => bad (Or.inr (Or.inr (Or.inr (Or.inl (fun hv => ?_))))), fun z2 => run (hfl.mp (Or.inr z2))⟩⟩
  rcases hfl.mpr hv with w | w
  · exact w z
  · exact w z2
end OLL
