/-! THE CLASS ADVANCES, and begins a run -/
theorem nSt_aStt {R : mRn} (h : nSt (aStj 96 0 R) = nSt R) : nSt (aStt R) = nSt R := by
  unfold aStt
  split
  · rfl
  · exact h
section CAF
variable {X : List Int32} {d : Nat} {hp : mm_H} {Q : Option Value → mm_H → Prop}
theorem rOk_end {E : mEv} {R : mRn} (h : rOk E R) : rOk E (aEnd R) := by
  unfold aEnd
  split
  · exact h
  · exact h
theorem k59_120 {E : mEv} {tr sr : Nat → Nat} {R : mRn} {JL : Nat → List Value} {i1 : Int32} {o2 o3 : Option Value} (A : cA hp E tr sr R JL) (hR : rOk E R) (hst : nSt R ≠ 0)
    (H : ∀ hp', cE wRun hp hp' → cH 0 0 hp hp' → cA hp' E tr sr (aEnd R) JL → rOk E (aEnd R) → Q none hp') : mm_R X (d + 1) 59 120 [some (.ref 12), some (.int i1), o2, o3] [] hp Q := by
  obtain ⟨s1, i1', r12, e1, e2, e3⟩ := id A.2.2.1.1
  have hlen := hR.2.2.2.2.2.1
  have hwk := hR.2.2.2.2.2.2.1
  refine w59_120 ⟨_, _, _, rfl, r12, rfl, pk_ne (nAc R).length 0 (fun h0 => ⟨_, _, _, rfl, r12, rfl, ?_⟩) (fun h0 => ?_)⟩
  · have hnil : nAc R = [] := List.length_eq_zero_iff.mp h0
    have eE : aEnd R = (if nFl R = true then 3 else 2, R.2) := if_pos hnil
    obtain ⟨A1, F1, G1⟩ := A.set12 (R' := aEnd R) (s2 := s1) (i2 := i1') r12 (by rw [eE]; rfl) (by rw [eE]; rfl) ⟨e1, e2, fun _ => e3 hst⟩
    cases hf : nFl R with
    | true =>
      refine ⟨fun g => absurd g (by show ¬ (1 : Int32) = 0; decide), fun _ => ⟨_, _, rfl, r12, Nat.le_of_ble_eq_true rfl, rfl, ?_⟩⟩
      have : rnL (aEnd R) s1 i1' = [.ref 13, .ref 52, .ref 53, .int (nI (nAc R).length), .int (nI (nBg R)), s1, i1', .int (nI (nKn R)), .int (nI (nWk R)), .int (if nFl R = true then 1 else 0), .int 3] := by rw [eE, hf]; show [Value.ref 13, _, _, _, _, _, _, _, _, Value.int (if nFl R = true then 1 else 0), _] = _; rw [hf]; rfl
      rw [this] at A1 F1 G1
      exact H _ F1 G1.h A1 (rOk_end hR)
    | false =>
      refine ⟨fun _ => ⟨_, _, rfl, r12, Nat.le_of_ble_eq_true rfl, rfl, ?_⟩, fun g => absurd rfl g⟩
      have : rnL (aEnd R) s1 i1' = [.ref 13, .ref 52, .ref 53, .int (nI (nAc R).length), .int (nI (nBg R)), s1, i1', .int (nI (nKn R)), .int (nI (nWk R)), .int (if nFl R = true then 1 else 0), .int 2] := by rw [eE, hf]; show [Value.ref 13, _, _, _, _, _, _, _, _, Value.int (if nFl R = true then 1 else 0), _] = _; rw [hf]; rfl
      rw [this] at A1 F1 G1
      exact H _ F1 G1.h A1 (rOk_end hR)
  · have eE : aEnd R = R := if_neg (fun g => h0 (by rw [g]; rfl))
    rw [eE] at H
    exact H hp cE.rf cH.rf A hR
/-- advance -/
theorem k59 {E : mEv} {tr sr : Nat → Nat} {R : mRn} {JL : Nat → List Value} (hE : eOk E) (A : cA hp E tr sr R JL) (hR : rOk E R) (hst : nSt R ≠ 0)
    (H : ∀ hp' JL', cE wRun hp hp' → cB 876 6570 hp hp' JL JL' → cA hp' E tr sr (aAd E R) JL' → rOk E (aAd E R) → Q none hp') : mm_R X (d + 10) 59 0 (mm_L0 59 [.ref 12]) [] hp Q := by
  have h6 : nKn R ≤ 6 := by obtain ⟨_, _, ⟨n, c1, c2, c3, c4⟩⟩ := id A.2.1; have := hR.1; omega
  refine w59_0 (k59_2 (d := d) hE (nKn R) 0 R hp JL none none (by omega) A hR hst (fun hp1 JL1 i1 o2 o3 F1 B1 A1 R1 e1 => ?_))
  obtain ⟨s1, i1', r12, g1, g2, g3⟩ := id A1.2.2.1.1
  have hst1 : nSt (aGo E (nKn R) R) ≠ 0 := by rw [e1]; exact hst
  have h61 : nKn (aGo E (nKn R) R) ≤ 6 := by obtain ⟨_, _, ⟨n, c1, c2, c3, c4⟩⟩ := id A1.2.1; have := R1.1; omega
  refine ⟨_, _, _, rfl, r12, rfl, ?_⟩
  have eAd : aAd E R = aEnd (aStt (aGo E (nKn R) R)) := rfl
  rw [eAd] at H
  cases hf : nFl (aGo E (nKn R) R) with
  | true =>
    have eS : aStt (aGo E (nKn R) R) = aGo E (nKn R) R := if_pos hf
    rw [eS] at H
    refine ⟨fun _ => ?_, fun g => absurd g (by show ¬ (1 : Int32) = 0; decide)⟩
    exact k59_120 A1 R1 hst1 (fun hp2 F2 G2 A2 R2 => H hp2 JL1 (F1.tr F2) ((B1.tr G2.b).mono (by omega) (by omega)) A2 R2)
  | false =>
    have eS : aStt (aGo E (nKn R) R) = aStj 96 0 (aGo E (nKn R) R) := if_neg (by rw [hf]; decide)
    rw [eS] at H
    refine ⟨fun g => absurd rfl g, fun _ => ⟨⟨_, _, rfl, r12⟩, k96 (d := d + 7) h61 A1 R1 hst1 (fun hp2 F2 G2 A2 R2 e2 _ => ⟨rfl, ?_⟩)⟩⟩
    exact k59_120 A2 R2 (by rw [e2]; exact hst1) (fun hp3 F3 G3 A3 R3 => H hp3 JL1 ((F1.tr F2).tr F3) (((B1.tr G2.b).tr G3.b).mono (by omega) (by omega)) A3 R3)
def rBe (E : mEv) (w : Nat) (f : Nat → mPg) (i : Nat) : mRn := (1, w, (eSp E).length, 0, [], false, fun k => if k < i then g0 else f k)
theorem k57_58 {E : mEv} {tr sr : Nat → Nat} {w : Nat} {f : Nat → mPg} {r1 r3 : Value} {i2 i4 : Int32} (hf : ∀ k, 6 ≤ k → f k = g0) : ∀ (m i : Nat) (hp : mm_H) (JL : Nat → List Value), i + m = 6 → cA hp E tr sr (rBe E w f i) JL →
    (∀ hp', cE wRun hp hp' → cH 0 0 hp hp' → cA hp' E tr sr (aBeg E w) JL → Q none hp') →
    mm_R X (d + 2) 57 58 [some (.ref 12), some r1, some (.int i2), some r3, some (.int i4), some (.int (nI i))] [] hp Q := by
  intro m
  induction m with
  | zero =>
    intro i hp JL hm A H
    have : i = 6 := by omega
    subst this
    have eB : rBe E w f 6 = aBeg E w := by
      unfold rBe aBeg
      have : (fun k => if k < 6 then g0 else f k) = fun _ => g0 := by
        funext k
        split
        · rfl
        · exact hf k (by omega)
      rw [this]
    rw [eB] at A
    exact w57_58 ⟨fun _ => H hp cE.rf cH.rf A, fun g => absurd (Int32.le_refl _) g⟩
  | succ m ih =>
    intro i hp JL hm A H
    obtain ⟨⟨s1, i1', r12, g1, g2, g3⟩, r52, hAct, hP⟩ := id A.2.2.1
    obtain ⟨lv, jc, oc, nj, tk, out, rl, PV, JS, RS, hr, ho, e0, z0, z1, z2⟩ := hP i (by omega)
    obtain ⟨ls, p0, _⟩ := id PV
    refine w57_58 (pk_le 6 i (fun g => absurd g (by omega)) (fun _ => ⟨_, _, _, rfl, r12, rfl, mw_avr r52 (by omega) rfl (cPg_at (by omega)) rfl (by omega) ⟨⟨_, _, rfl, p0⟩, k58 PV RS (fun hp1 rl1 F1 G1 PV1 RS1 hz => ⟨rfl, ?_⟩)⟩⟩))
    rw [nI_1]
    have P1 : cPr hp1 i g0 (JL i) := by
      refine ⟨[], 0, 0, 0, tk, .null, rl1, PV1, ⟨F1.at JS.1 (by unfold wR; omega), JS.2.1, fun n hn => ?_⟩, RS1, fun g => absurd g (by show ¬ 0 < 0; omega), Or.inl rfl, F1.at e0 (by unfold wR; omega), fun _ => ⟨rfl, rfl, rfl, rfl, hz⟩, fun g => absurd g (by show ¬ 0 = 1; omega), fun g => absurd g (by show ¬ 0 = 2; omega)⟩
      rcases JS.2.2 n hn with e | ⟨j, ws, e, Jw, hj⟩
      · exact Or.inl e
      · exact Or.inr ⟨j, ws, e, Jw.keep F1 (by unfold wR; omega) (by unfold wR; omega) (by unfold wR; omega), hj⟩
    have A1 : cA hp1 E tr sr (rBe E w f (i + 1)) JL := A.pv (s := i) (by omega) F1 (by
      show cPr hp1 i (if i < i + 1 then g0 else f i) (JL i)
      rw [if_pos (by omega)]; exact P1) ⟨rfl, rfl, rfl, rfl, rfl, rfl⟩ (fun k hk => by
      show (if k < i + 1 then g0 else f k) = (if k < i then g0 else f k)
      by_cases h : k < i
      · rw [if_pos h, if_pos (by omega)]
      · rw [if_neg h, if_neg (by omega)]) (fun n hn => nomatch hn)
    refine ih (i + 1) hp1 JL (by omega) A1 (fun hp2 F2 G2 A2 => ?_)
    exact H hp2 ((F1.mono (fun x _ e => by unfold wR at e; unfold wRun; omega)).tr F2) ((G1.h.tr G2).mono (by omega) (by omega)) A2
theorem k57 {E : mEv} {tr sr : Nat → Nat} {R : mRn} {JL : Nat → List Value} {w : Nat} (hw : 1 ≤ w ∧ w ≤ 3) (hR : ∀ k, 6 ≤ k → nPg R k = g0) (A : cA hp E tr sr R JL)
    (H : ∀ hp', cE wRun hp hp' → cH 0 0 hp hp' → cA hp' E tr sr (aBeg E w) JL → Q none hp') : mm_R X (d + 2) 57 0 (mm_L0 57 [.ref 12, .ref 11, .int (nI (eSp E).length), .ref 3, .int (nI w)]) [] hp Q := by
  obtain ⟨⟨s1, i1', r12, g1, g2, g3⟩, r52, hAct, hP⟩ := id A.2.2.1
  obtain ⟨_, _, ⟨n, c1, c2, c3, c4⟩⟩ := id A.2.1
  have l12 := (List.getElem?_eq_some_iff.mp r12).1
  have eK : (if (if (6 : Int32) < nI 6 then (6 : Int32) else nI 6) < nI (eSp E).length then (if (6 : Int32) < nI 6 then (6 : Int32) else nI 6) else nI (eSp E).length) = nI (eSp E).length := by
    have e6 : (if (6 : Int32) < nI 6 then (6 : Int32) else nI 6) = nI 6 := rfl
    rw [e6]
    exact if_neg (nI_nlt (by omega) (by omega))
  have eW : (if (3 : Int32) < nI w then (3 : Int32) else nI w) = nI w := if_neg (nI_nlt (b := w) (a := 3) (by omega) (by omega))
  have F : cE (fun x => x = 12 ∨ x = 53) hp (hp.set 12 (3, rnL (rBe E w (nPg R) 0) (.ref 11) (.ref 3))) := cE.set (Or.inl rfl)
  have A1 : cA (hp.set 12 (3, rnL (rBe E w (nPg R) 0) (.ref 11) (.ref 3))) E tr sr (rBe E w (nPg R) 0) JL := by
    refine A.keepS F ⟨_, _, List.getElem?_set_self l12, Or.inr ⟨_, rfl⟩, Or.inr ⟨_, rfl⟩, fun _ => ⟨rfl, rfl⟩⟩ ?_ ?_
    · obtain ⟨al, a1, a2, a3, a4, a5⟩ := hAct
      exact ⟨al, (by rw [List.getElem?_set_ne (by omega)]; exact a1), a2, a3, Nat.zero_le _, fun k s n hk => nomatch hk⟩
    · funext k
      show (if k < 0 then g0 else nPg R k) = _
      rw [if_neg (Nat.not_lt_zero _)]
  have G1 : cH 0 0 hp (hp.set 12 (3, rnL (rBe E w (nPg R) 0) (.ref 11) (.ref 3))) := ⟨by rw [List.length_set]; omega, by rw [mm_sz_set (c' := (3, rnL (rBe E w (nPg R) 0) (.ref 11) (.ref 3))) r12 rfl]; omega⟩
  have hs : ∀ (c : mm_C), (hp.set 12 c)[12]? = some c := fun c => List.getElem?_set_self l12
  refine w57_0 ⟨rfl, _, _, rfl, r12, Nat.le_of_ble_eq_true rfl, rfl, ?_⟩
  have ln : ∀ (c : mm_C) (K : Int32 → Prop), K (nI 6) → mw_ln (.ref 11) (hp.set 12 c) K := fun c K hK => ⟨11, _, _, rfl, (by rw [List.getElem?_set_ne (by omega)]; exact c1), by omega, rfl, by rw [c2]; exact hK⟩
  refine ln _ _ ⟨_, _, rfl, hs _, Nat.le_of_ble_eq_true rfl, rfl, ?_⟩
  rw [List.set_set, eK]
  refine ⟨rfl, _, _, rfl, hs _, Nat.le_of_ble_eq_true rfl, rfl, ?_⟩
  rw [List.set_set]
  refine ⟨_, _, rfl, hs _, Nat.le_of_ble_eq_true rfl, rfl, ?_⟩
  rw [List.set_set, eW]
  refine ⟨_, _, rfl, hs _, Nat.le_of_ble_eq_true rfl, rfl, ?_⟩
  rw [List.set_set]
  refine ⟨_, _, rfl, hs _, Nat.le_of_ble_eq_true rfl, rfl, ?_⟩
  rw [List.set_set]
  refine ⟨_, _, rfl, hs _, Nat.le_of_ble_eq_true rfl, rfl, ?_⟩
  rw [List.set_set]
  refine ⟨_, _, rfl, hs _, Nat.le_of_ble_eq_true rfl, rfl, ?_⟩
  rw [List.set_set]
  refine k57_58 (f := nPg R) hR 6 0 (hp.set 12 (3, rnL (rBe E w (nPg R) 0) (.ref 11) (.ref 3))) JL (by omega) A1 (fun hp2 F2 G2 A2 => ?_)
  exact H hp2 ((F.mono (fun x _ e => by unfold wRun; omega)).tr F2) ((G1.tr G2).mono (by omega) (by omega)) A2
end CAF
