/-! BETWEEN CALLS -/
def CI (hp : mm_H) (D : List Nat) (x : Int32) (E : mEv) (tr sr : Nat → Nat) (R : mRn) (JL : Nat → List Value) : Prop := cSr hp E ∧ cD hp D x ∧ cA hp E tr sr R JL
def SI (σ : mS) (D : List Nat) (E : mEv) (R : mRn) : Prop := sD σ D ∧ sE σ E ∧ σ.1 44 = 0 ∧ sR0 σ R ∧ (nSt R = 1 → sR σ E R)
def AI (E : mEv) (tr sr : Nat → Nat) (R : mRn) : Prop := eF E ∧ (nSt R = 1 → rOk E R ∧ fOk R) ∧ (nSt R ≠ 1 → nAc R = []) ∧ nSt R ≤ 3 ∧ (∀ k, 6 ≤ k → nPg R k = g0) ∧ (∀ s, gOk (nPg R s)) ∧ nKn R ≤ (eSp E).length ∧ (∀ s, nKn R ≤ s → gPh (nPg R s) = 0) ∧ (∀ i j, i < (eTl E).length → j < (eTl E).length → tr i = tr j → i = j) ∧ (∀ i j, i < (eSp E).length → j < (eSp E).length → sr i = sr j → i = j) ∧ (nSt R = 0 → nKn R = 0)
def sEp (σ : mS) (E : mEv) (p0 : Nat) : Prop := (∀ c, c < 3 → mSlot σ (fun p => p < p0) c (mt_tk (eIn E c) 0)) ∧ ∀ s p t, s < 6 → p < 4 → sPr (eSt E s) p = some t → mSlot σ (fun q => q < p0) (3 + (4 * s + p)) (mt_tk t 0)
def PC (σ : mS) (D : List Nat) (E : mEv) (t : Nat) : Prop := ∃ p0 : Nat, σ.1 1 = nI p0 ∧ p0 + D.length ≤ min t 512 ∧ sEp σ E p0
def GI (hp : mm_H) (JL : Nat → List Value) (t : Nat) : Prop := hp.length + 8 * NU JL ≤ 1000 + 1100 * min t 512 ∧ mm_sz hp + 208 * NU JL ≤ 60000 + 14000 * min t 512
def IV (X : List Int32) (t : Nat) (hp : mm_H) : Prop := ∃ D x E tr sr R JL σ, CI hp D x E tr sr R JL ∧ mR hp σ ∧ SI σ D E R ∧ AI E tr sr R ∧ PC σ D E t ∧ GI hp JL t
theorem CI.mF {hp hp' : mm_H} {D : List Nat} {x : Int32} {E : mEv} {tr sr : Nat → Nat} {R : mRn} {JL : Nat → List Value} {σ : mS} (h : CI hp D x E tr sr R JL) (M : mR hp σ) (F : mF hp hp') : CI hp' D x E tr sr R JL := by
  obtain ⟨h1, ⟨d1, d2, junk, d3, d4⟩, h3⟩ := h
  have F' := F.cE
  have z : ∀ {y : Nat}, y < 86 → ¬ wMm y := fun hy w => by unfold wMm at w; omega
  exact ⟨F'.at h1 (z (by omega)), ⟨d1, F'.at d2 (z (by omega)), junk, F'.at d3 (z (by omega)), d4⟩, h3.keepB F' M.qB (z (by omega)) (z (by omega)) (z (by omega)) (fun y hy w => by unfold wMm at w; omega)⟩
theorem ob_of {X : List Int32} {t : Nat} {hp : mm_H} {kx km : Nat} {as : List Value} (hc : mm_mc km = 10) (CL : mm_R X 999 kx 0 (mm_L0 kx (.ref 0 :: as)) [] hp (fun r hp1 => ∃ y, r = some (.int y) ∧ ∃ D x E tr sr R JL σ, CI hp1 D x E tr sr R JL ∧ mR hp1 σ ∧ AI E tr sr R ∧ GI hp1 JL (t + 1) ∧ mM X 999 km 0 (mm_L0 km (.ref 86 :: as)) [] σ (fun r2 σ' => r2 = some (.int y) ∧ SI σ' D E R ∧ PC σ' D E (t + 1)))) : mL_ob X (IV X) t hp kx km as := by
  refine CL.mono (fun r hp1 h => ?_)
  obtain ⟨y, rfl, D, x, E, tr, sr, R, JL, σ, hC, M, hA, hG, hM⟩ := h
  refine ⟨y, rfl, m_rc M hc, (hM hp1 M).mono (fun r2 hp2 h2 => ?_)⟩
  obtain ⟨σ', M', F, rfl, hS, hP⟩ := h2
  refine ⟨rfl, D, x, E, tr, sr, R, JL, σ', hC.mF M F, M', hS, hA, hP, ?_⟩
  unfold GI
  rw [F.1, mR_sz M M' F]; exact hG
theorem PC.up {σ : mS} {D : List Nat} {E : mEv} {t : Nat} (h : PC σ D E t) : PC σ D E (t + 1) := by
  obtain ⟨p0, h1, h2, h3⟩ := h
  exact ⟨p0, h1, by omega, h3⟩
theorem PC.kp {F : Nat → Prop} {B : Nat → Nat → Prop} {P W : Nat → Prop} {σ σ' : mS} {D : List Nat} {E : mEv} {t : Nat} (h : PC σ D E t) (K : mKp F B P W σ σ') (hF : ¬ F 1) (hP : ∀ p, p < 600 → ¬ P p) (hW : ∀ x, x < 27 → ¬ W x) : PC σ' D E t := by
  obtain ⟨p0, h1, h2, h3, h4⟩ := h
  exact ⟨p0, (K.1 1 hF).trans h1, h2, fun c hc => (h3 c hc).keep K (hW c (by omega)) (fun p hp => hP p (by have := Nat.min_le_right t 512; omega)), fun s p t' hs hp e => (h4 s p t' hs hp e).keep K (hW _ (by omega)) (fun q hq => hP q (by have := Nat.min_le_right t 512; omega))⟩
theorem GI.up {hp : mm_H} {JL : Nat → List Value} {t : Nat} (h : GI hp JL t) : GI hp JL (t + 1) := ⟨by have := h.1; omega, by have := h.2; omega⟩
theorem IV.up {X : List Int32} {t : Nat} {hp : mm_H} (h : IV X t hp) : IV X (t + 1) hp := by
  obtain ⟨D, x, E, tr, sr, R, JL, σ, h1, h2, h3, h4, h5, h6⟩ := h
  exact ⟨D, x, E, tr, sr, R, JL, σ, h1, h2, h3, h4, h5.up, h6.up⟩
theorem ob_ro {X : List Int32} {t : Nat} {hp : mm_H} {kx km : Nat} {as : List Value} (hc : mm_mc km = 10) (I : IV X t hp) (H : ∀ D x E tr sr R JL σ, CI hp D x E tr sr R JL → SI σ D E R → AI E tr sr R → ∃ y : Int32, (∀ Q : Option Value → mm_H → Prop, Q (some (.int y)) hp → mm_R X 999 kx 0 (mm_L0 kx (.ref 0 :: as)) [] hp Q) ∧ ∀ Q : Option Value → mS → Prop, Q (some (.int y)) σ → mM X 999 km 0 (mm_L0 km (.ref 86 :: as)) [] σ Q) : mL_ob X (IV X) t hp kx km as := by
  obtain ⟨D, x, E, tr, sr, R, JL, σ, h1, h2, h3, h4, h5, h6⟩ := I
  obtain ⟨y, H1, H2⟩ := H D x E tr sr R JL σ h1 h3 h4
  exact ob_of hc (H1 _ ⟨y, rfl, D, x, E, tr, sr, R, JL, σ, h1, h2, h4, h6.up, H2 _ ⟨rfl, h3, h5.up⟩⟩)
section RDR
variable {X : List Int32} {t : Nat} {hp : mm_H}
theorem ob_status (I : IV X t hp) : mL_ob X (IV X) t hp 109 202 [] := ob_ro rfl I (fun D x E tr sr R JL σ hC hS hA => by
  obtain ⟨⟨s1, i1, r12, _⟩, _⟩ := hC.2.2.2.2.1
  refine ⟨nI (nSt R), fun Q H => w109_0 ⟨_, _, _, rfl, hC.1, rfl, _, _, _, rfl, r12, rfl, H⟩, fun Q H => u202_0 ?_⟩
  rw [hS.2.2.2.1.1.1]; exact H)
theorem ob_started (I : IV X t hp) : mL_ob X (IV X) t hp 111 204 [] := ob_ro rfl I (fun D x E tr sr R JL σ hC hS hA => by
  obtain ⟨⟨s1, i1, r12, _⟩, _⟩ := hC.2.2.2.2.1
  refine ⟨nI (nBg R), fun Q H => w111_0 ⟨_, _, _, rfl, hC.1, rfl, _, _, _, rfl, r12, rfl, H⟩, fun Q H => u204_0 ?_⟩
  rw [hS.2.2.2.1.1.2.2.2.1]; exact H)
theorem ob_running (I : IV X t hp) : mL_ob X (IV X) t hp 110 203 [] := ob_ro rfl I (fun D x E tr sr R JL σ hC hS hA => by
  obtain ⟨⟨s1, i1, r12, _⟩, _⟩ := hC.2.2.2.2.1
  refine ⟨nI (nAc R).length, fun Q H => w110_0 ⟨_, _, _, rfl, hC.1, rfl, _, _, _, rfl, r12, rfl, H⟩, fun Q H => u203_0 ?_⟩
  have h3 := hA.2.2.2.1
  rw [hS.2.2.2.1.1.1, hS.2.2.2.1.1.2.2.2.2.1]
  refine pk_ne (nSt R) 1 (fun e => H) (fun e => ?_)
  rw [hA.2.2.1 e] at H; exact H)
theorem AI.len {E : mEv} {tr sr : Nat → Nat} {R : mRn} (h : AI E tr sr R) : (nAc R).length ≤ 3 := by
  by_cases e : nSt R = 1
  · have := (h.2.1 e).1
    have := this.2.2.2.2.2.1
    have := (h.2.1 e).1.2.2.2.2.2.2.1
    omega
  · rw [h.2.2.1 e]; exact Nat.zero_le _
theorem AI.act {E : mEv} {tr sr : Nat → Nat} {R : mRn} {n : Nat} (h : AI E tr sr R) (hn : n < (nAc R).length) : nSt R = 1 ∧ rOk E R := by
  by_cases e : nSt R = 1
  · exact ⟨e, (h.2.1 e).1⟩
  · rw [h.2.2.1 e] at hn; exact absurd hn (Nat.not_lt_zero _)
theorem nI_arg (k : Int32) {L : Nat} (hL : L < 2 ^ 31) : (∃ n : Nat, k = nI n ∧ n < L) ∨ ((k < 0 ∨ nI L ≤ k) ∧ ∀ n : Nat, n < L → k ≠ nI n) := by
  rcases pk_ix k hL with h | h | ⟨j, h1, h2⟩
  · exact Or.inr ⟨Or.inl h, fun n hn e => by rw [e] at h; exact nI_pos (by omega) h⟩
  · refine Or.inr ⟨Or.inr h, fun n hn e => ?_⟩
    rw [e] at h; exact nI_ge hn hL h
  · exact Or.inl ⟨j, h2, h1⟩
theorem ob_job {y1 y2 : Int32} (I : IV X t hp) : mL_ob X (IV X) t hp 112 205 [.int y1, .int y2] := ob_ro rfl I (fun D x E tr sr R JL σ hC hS hA => by
  have hL := hA.len
  have c5 : σ.1 27 = nI (nAc R).length := hS.2.2.2.1.1.2.2.2.2.1
  have rn := hC.2.2.2.2.1
  obtain ⟨⟨s1, i1, r12, _⟩, _⟩ := id rn
  rcases nI_arg y1 (L := (nAc R).length) (by omega) with ⟨n, rfl, hn⟩ | ⟨h, hno⟩
  · obtain ⟨e1, hR⟩ := hA.act hn
    have hs := hS.2.2.2.2 e1
    obtain ⟨q1, q2⟩ := hs.2.2.2.1 n hn
    obtain ⟨z1, z2, z3, ⟨ws, z4, z5⟩, _⟩ := hR.2.2.2.1 (nAc R)[n].1 (nAc R)[n].2 (List.getElem_mem hn)
    have U := q2 ws z4
    have hk6 : (nAc R)[n].1 < 6 := by have := hR.1; have := hA.1.2.2.1; omega
    have hJ : ∀ Q : Option Value → mm_H → Prop, (∀ j, cJw hp j (nAc R)[n].1 (nAc R)[n].2 ws → Q (some (.ref j)) hp) → mm_R X 998 100 0 (mm_L0 100 [.ref 12, .int (nI n)]) [] hp Q := fun Q H => k100 rn (fun m e hm s p j ws' a b c dd => by
        have := (nI_eq (by omega) (by omega)).mp e
        subst this
        rw [List.getElem?_eq_getElem hn] at a
        have a' := Option.some.inj a
        rw [a'] at z4 H
        have : ws' = ws := Option.some.inj (b.symm.trans z4)
        subst this
        exact H j c) (fun hno => absurd rfl (hno n hn))
    have cls : ∀ (y : Int32), (∀ j, cJw hp j (nAc R)[n].1 (nAc R)[n].2 ws → ∀ Q : Option Value → mm_H → Prop, Q (some (.int y)) hp → ((y2.toInt < 0 ∨ 2 < y2.toInt) → Q (some (.int (-1))) hp) ∧ (y2.toInt = 0 → mw_gi 9 0 (.ref j) hp (fun x6 => Q (some (.int x6)) hp)) ∧ (y2.toInt = 1 → mw_gi 9 1 (.ref j) hp (fun x7 => Q (some (.int x7)) hp)) ∧ (y2.toInt = 2 → mw_gi 9 4 (.ref j) hp (fun x8 => Q (some (.int x8)) hp))) → ∀ Q : Option Value → mm_H → Prop, Q (some (.int y)) hp → mm_R X 999 112 0 (mm_L0 112 [.ref 0, .int (nI n), .int y2]) [] hp Q := fun y hy Q H => w112_0 ⟨_, _, _, rfl, hC.1, rfl, ⟨_, _, rfl, r12⟩, hJ _ (fun j J => ⟨_, rfl, rfl, Or.inr ⟨⟨_, rfl⟩, hy j J Q H⟩⟩)⟩
    have ref : ∀ Q : Option Value → mS → Prop, ((y2 < 0 → Q (some (.int (-1))) σ) ∧ (¬ y2 < 0 → ((y2 ≤ 2 → ((¬ y2 = 0 → ((¬ y2 = 1 → Q (some (.int (nI ws.length))) σ) ∧ (y2 = 1 → Q (some (.int (nI (nAc R)[n].2))) σ))) ∧ (y2 = 0 → Q (some (.int (nI (nAc R)[n].1))) σ))) ∧ (¬ y2 ≤ 2 → Q (some (.int (-1))) σ)))) → mM X 999 205 0 (mm_L0 205 [.ref 86, .int (nI n), .int y2]) [] σ Q := by
      intro Q H
      refine u205_0 ⟨fun g => absurd g (nI_pos (by omega)), fun _ => ?_⟩
      rw [c5]
      refine pk_le (nAc R).length n (fun g => absurd g (by omega)) (fun _ => ⟨H.1, fun g => ⟨fun g2 => ⟨fun g3 => ⟨fun g4 => ⟨m_ix (by omega) (by decide), ?_⟩, fun g4 => ⟨m_ix (by omega) (by decide), ?_⟩⟩, fun g3 => ⟨m_ix (by omega) (by decide), ?_⟩⟩, (H.2 g).2⟩⟩)
      · rw [mGet_e (by omega), q1]
        refine ⟨m_ix (by omega) (by decide), ?_⟩
        rw [mGet_e (by omega), U.2.1]
        exact (((H.2 g).1 g2).1 g3).1 g4
      · rw [mGet_e (by omega), q1, show (16 : Int32) = nI 16 from rfl, pk_rem (by omega) (by omega) (by omega), show (16 * (nAc R)[n].1 + (nAc R)[n].2) % 16 = (nAc R)[n].2 by omega]
        exact (((H.2 g).1 g2).1 g3).2 g4
      · rw [mGet_e (by omega), q1, show (16 : Int32) = nI 16 from rfl, pk_div (by omega) (by omega) (by omega), show (16 * (nAc R)[n].1 + (nAc R)[n].2) / 16 = (nAc R)[n].1 by omega]
        exact ((H.2 g).1 g2).2 g3
    have i0 : (0 : Int32).toInt = 0 := by decide
    have i1' : (1 : Int32).toInt = 1 := by decide
    have i2 : (2 : Int32).toInt = 2 := by decide
    by_cases g0 : y2 < 0
    · have g0' := Int32.lt_iff_toInt_lt.mp g0
      rw [i0] at g0'
      exact ⟨-1, cls (-1) (fun j J Q H => ⟨fun _ => H, fun e => by omega, fun e => by omega, fun e => by omega⟩), fun Q H => ref Q ⟨fun _ => H, fun g => absurd g0 g⟩⟩
    · have g0' : ¬ y2.toInt < 0 := fun z => g0 (Int32.lt_iff_toInt_lt.mpr (by rw [i0]; exact z))
      by_cases g2 : y2 ≤ 2
      · have g2' := Int32.le_iff_toInt_le.mp g2
        rw [i2] at g2'
        by_cases e0 : y2 = 0
        · subst e0
          exact ⟨nI (nAc R)[n].1, cls _ (fun j J Q H => by
            obtain ⟨lb, jk, ej, a, _⟩ := id J
            exact ⟨fun e => by omega, fun _ => ⟨_, _, _, rfl, a, rfl, H⟩, fun e => by omega, fun e => by omega⟩), fun Q H => ref Q ⟨fun g => absurd g g0, fun _ => ⟨fun _ => ⟨fun g => absurd rfl g, fun _ => H⟩, fun g => absurd g2 g⟩⟩⟩
        · have e0' : ¬ y2.toInt = 0 := fun z => e0 (Int32.toInt_inj.mp (z.trans i0.symm))
          by_cases e1 : y2 = 1
          · subst e1
            exact ⟨nI (nAc R)[n].2, cls _ (fun j J Q H => by
              obtain ⟨lb, jk, ej, a, _⟩ := id J
              exact ⟨fun e => by omega, fun e => by omega, fun _ => ⟨_, _, _, rfl, a, rfl, H⟩, fun e => by omega⟩), fun Q H => ref Q ⟨fun g => absurd g g0, fun _ => ⟨fun _ => ⟨fun _ => ⟨fun g => absurd rfl g, fun _ => H⟩, fun g => absurd g e0⟩, fun g => absurd g2 g⟩⟩⟩
          · have e1' : ¬ y2.toInt = 1 := fun z => e1 (Int32.toInt_inj.mp (z.trans i1'.symm))
            exact ⟨nI ws.length, cls _ (fun j J Q H => by
              obtain ⟨lb, jk, ej, a, _⟩ := id J
              exact ⟨fun e => by omega, fun e => by omega, fun e => by omega, fun _ => ⟨_, _, _, rfl, a, rfl, H⟩⟩), fun Q H => ref Q ⟨fun g => absurd g g0, fun _ => ⟨fun _ => ⟨fun _ => ⟨fun _ => H, fun g => absurd g e1⟩, fun g => absurd g e0⟩, fun g => absurd g2 g⟩⟩⟩
      · have g2' : ¬ y2.toInt ≤ 2 := fun z => g2 (Int32.le_iff_toInt_le.mpr (by rw [i2]; exact z))
        exact ⟨-1, cls (-1) (fun j J Q H => ⟨fun _ => H, fun e => by omega, fun e => by omega, fun e => by omega⟩), fun Q H => ref Q ⟨fun _ => H, fun _ => ⟨fun g => absurd g g2, fun _ => H⟩⟩⟩
  · refine ⟨-1, fun Q H => w112_0 ⟨_, _, _, rfl, hC.1, rfl, ⟨_, _, rfl, r12⟩, k100 rn (fun m e hm => absurd e (hno m hm)) (fun _ => ⟨_, rfl, rfl, Or.inl ⟨rfl, H⟩⟩)⟩, fun Q H => u205_0 ?_⟩
    rw [c5]
    exact ⟨fun _ => H, fun g => ⟨fun _ => H, fun g2 => absurd (h.resolve_left g) g2⟩⟩)
end RDR
