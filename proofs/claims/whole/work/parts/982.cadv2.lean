/-! THE CLASS ADVANCES: the loop of expansions -/
def adK (X : List Int32) (d : Nat) (hp : mm_H) (i1 : Int32) (o2 o3 : Option Value) (Q : Option Value → mm_H → Prop) : Prop := mw_gi 3 9 (.ref 12) hp (fun x2 => ((¬ x2 = (0 : Int32) → mm_R X (d + 1) 59 120 [some (.ref 12), some (.int i1), o2, o3] [] hp Q) ∧ (x2 = (0 : Int32) → mw_rc (.ref 12) 96 hp ∧ mm_R X d 96 0 (mm_L0 96 [.ref 12]) [] hp (mw_r0 (fun hp4 => mm_R X (d + 1) 59 120 [some (.ref 12), some (.int i1), o2, o3] [] hp4 Q)))))
def rUp (R : mRn) (s : Nat) (g : mPg) : mRn := (nSt R, nWk R, nKn R, nBg R, nAc R, nFl R, up (nPg R) s g)
theorem wX_56 {s : Nat} {jl : List Value} : wX s jl (56 + 5 * s) := Or.inr (Or.inl ⟨by omega, by omega⟩)
section CAE
variable {X : List Int32} {d : Nat} {hp : mm_H} {Q : Option Value → mm_H → Prop}
/-- a step's new progress, and the flag -/
theorem k59_79 {E : mEv} {tr sr : Nat → Nat} {R : mRn} {JL : Nat → List Value} {s : Nat} {g : mPg} {jl : List Value} {i1 i2 : Int32} {hp3 : mm_H} (hs : s < 6) (h : cA hp E tr sr R JL) (hst : nSt R ≠ 0) (hf : nFl R = false) (hg : gPh g ≤ 3) (F : cE (wX s (JL s)) hp hp3) (EX : cEx hp3) (P : cPr hp3 s g jl) (hn : ∀ k n, (k, n) ∈ nAc R → k ≠ s ∧ k < 6)
    (H : ∀ hp4, cE wRun hp hp4 → cH 0 0 hp3 hp4 → cA hp4 E tr sr (rPg R s g) (up JL s jl) → mm_R X (d + 1) 59 2 [some (.ref 12), some (.int (i1 + 1)), some (.int i2), some (.ref (56 + 5 * s))] [] hp4 Q) : mm_R X (d + 1) 59 79 [some (.ref 12), some (.int i1), some (.int i2), some (.ref (56 + 5 * s))] [] hp3 Q := by
  obtain ⟨_, _, qr⟩ := (h.2.2.1.2.2.2 s hs).qy hs
  have A3 : cA hp3 E tr sr (rUp R s g) (up JL s jl) := h.step hs F EX (by show cPr hp3 s (up (nPg R) s g s) jl; rw [up_eq]; exact P) ⟨rfl, rfl, rfl, rfl, rfl, rfl⟩ (fun k hk => up_ne hk) hn
  obtain ⟨s1, i1', r12, e1, e2, e3⟩ := A3.2.2.1.1
  obtain ⟨A4, F4, G4⟩ := A3.set12 (R' := rPg R s g) (s2 := s1) (i2 := i1') r12 rfl rfl ⟨e1, e2, e3⟩
  obtain ⟨lv, jc, oc, nj, tk, out, rl, ⟨ls, p0, _⟩, _⟩ := P
  have e0 : (if nFl (rUp R s g) = true then (1 : Int32) else 0) = 0 := by show (if nFl R = true then (1 : Int32) else 0) = 0; rw [hf]; rfl
  have FF : cE wRun hp (hp3.set 12 (3, rnL (rPg R s g) s1 i1')) := (F.mono (fun x _ w => qr x w)).tr F4
  unfold rnL at r12
  rw [e0] at r12
  refine w59_79 ⟨_, _, _, rfl, r12, rfl, ⟨fun g0 => absurd rfl g0, fun _ => ⟨rfl, _, _, _, rfl, p0, rfl, pk_ne (gPh g) 3 (fun h3 => ?_) (fun h3 => ?_)⟩⟩⟩
  · refine ⟨_, _, rfl, r12, Nat.le_of_ble_eq_true rfl, rfl, ?_⟩
    have : rnL (rPg R s g) s1 i1' = [.ref 13, .ref 52, .ref 53, .int (nI (nAc (rUp R s g)).length), .int (nI (nBg (rUp R s g))), s1, i1', .int (nI (nKn (rUp R s g))), .int (nI (nWk (rUp R s g))), .int 1, .int (nI (nSt (rUp R s g)))] := by
      show [Value.ref 13, .ref 52, .ref 53, _, _, _, _, _, _, Value.int (if (nFl R || gPh g == 3) = true then 1 else 0), _] = _
      rw [hf, h3]; rfl
    rw [this] at A4 FF G4
    exact H _ FF G4.h A4
  · refine ⟨_, _, rfl, r12, Nat.le_of_ble_eq_true rfl, rfl, ?_⟩
    have : rnL (rPg R s g) s1 i1' = [.ref 13, .ref 52, .ref 53, .int (nI (nAc (rUp R s g)).length), .int (nI (nBg (rUp R s g))), s1, i1', .int (nI (nKn (rUp R s g))), .int (nI (nWk (rUp R s g))), .int 0, .int (nI (nSt (rUp R s g)))] := by
      show [Value.ref 13, .ref 52, .ref 53, _, _, _, _, _, _, Value.int (if (nFl R || gPh g == 3) = true then 1 else 0), _] = _
      have : (gPh g == 3) = false := by simpa using h3
      rw [hf, this]; rfl
    rw [this] at A4 FF G4
    exact H _ FF G4.h A4
theorem k59_2 {E : mEv} {tr sr : Nat → Nat} (hE : eOk E) : ∀ (m i : Nat) (R : mRn) (hp : mm_H) (JL : Nat → List Value) (o2 o3 : Option Value), i + m = nKn R → cA hp E tr sr R JL → rOk E R → nSt R ≠ 0 →
    (∀ hp' JL' i1 o2 o3, cE wRun hp hp' → cB (146 * m) (1095 * m) hp hp' JL JL' → cA hp' E tr sr (aGo E m R) JL' → rOk E (aGo E m R) → nSt (aGo E m R) = nSt R → adK X (d + 9) hp' i1 o2 o3 Q) →
    mm_R X (d + 10) 59 2 [some (.ref 12), some (.int (nI i)), o2, o3] [] hp Q := by
  intro m
  induction m with
  | zero =>
    intro i R hp JL o2 o3 hm A hR hst H
    have hk6 : nKn R ≤ 6 := by obtain ⟨_, _, ⟨n, c1, c2, c3, c4⟩⟩ := id A.2.1; have := hR.1; omega
    obtain ⟨s1, i1', r12, e1, e2, e3⟩ := id A.2.2.1.1
    refine w59_2 ⟨_, _, _, rfl, r12, rfl, pk_le (nKn R) i (fun _ => ?_) (fun g => absurd g (by omega))⟩
    exact H hp JL (nI i) o2 o3 cE.rf (cH.rf.b.mono (by omega) (by omega)) A hR rfl
  | succ m ih =>
    intro i R hp JL o2 o3 hm A hR hst H
    obtain ⟨_, _, ⟨n, c1, c2, c3, c4⟩⟩ := id A.2.1
    have hk6 : nKn R ≤ 6 := by have := hR.1; omega
    obtain ⟨s1, i1', r12, e1, e2, e3⟩ := id A.2.2.1.1
    obtain ⟨rfl, rfl⟩ := e3 hst
    obtain ⟨_, r52, _, hP⟩ := id A.2.2.1
    refine w59_2 ⟨_, _, _, rfl, r12, rfl, pk_le (nKn R) i (fun g => absurd g (by omega)) (fun _ => ⟨_, _, _, rfl, r12, rfl, ?_⟩)⟩
    cases hf : nFl R with
    | true =>
      have eG : aGo E (m + 1) R = R := if_pos hf
      rw [eG] at H
      refine ⟨fun _ => ?_, fun g => absurd g (by show ¬ (1 : Int32) = 0; decide)⟩
      exact H hp JL (nI i) o2 o3 cE.rf (cH.rf.b.mono (by omega) (by omega)) A hR rfl
    | false =>
      refine ⟨fun g => absurd rfl g, fun _ => ⟨⟨_, _, rfl, r12⟩, k60 (d := d + 7) hE A.2.1 A.2.2.1 hR.1 hst (fun s => (hR.2.1 s).1) hR.2.2.1 (fun s hs => ?_) (fun hs => ?_)⟩⟩
      · have eG : aGo E (m + 1) R = aGo E m (rPg R s (aXg E R s)) := by
          show (if nFl R = true then R else match aNx E R with | none => R | some s => aGo E m (rPg R s (aXg E R s))) = _
          rw [hf, hs]; rfl
        rw [eG] at H
        obtain ⟨n1, n2, n3⟩ := aNx_ok hs
        have hs6 : s < 6 := by omega
        obtain ⟨b1, b2, b3, b4⟩ := c4 s (by have := hR.1; omega)
        have h4 : (eTo E s).2.length ≤ 4 := by obtain ⟨_, ⟨lt, t1, t2, t3, t4⟩, _⟩ := id A.2.1; exact (t4 _ b3).2.2.le
        have hact : ∀ k n, (k, n) ∈ nAc R → k ≠ s ∧ k < 6 := fun k n hk => by
          have := hR.2.2.2.1 k n hk
          refine ⟨fun e => ?_, by omega⟩
          subst e; rw [n2] at this; omega
        have hneg : ¬ nI s = (-1 : Int32) := by
          match s, hs6 with
          | 0, _ => decide
          | 1, _ => decide
          | 2, _ => decide
          | 3, _ => decide
          | 4, _ => decide
          | 5, _ => decide
        have hR' := rOk_xp hE hR b3 hs h4
        refine ⟨_, rfl, fun _ => ⟨_, _, _, rfl, r12, rfl, mw_avr r52 (by omega) rfl (cPg_at hs6) rfl (by omega) ⟨rfl, _, _, _, rfl, r12, rfl, _, _, _, rfl, r12, rfl, mw_avr c1 (by omega) rfl b1 rfl (by omega) ⟨_, _, _, rfl, r12, rfl, _, _, _, rfl, r12, rfl, ⟨_, _, rfl, A.1.1⟩, rfl, rfl, rfl, A.x61 (d := d + 2) hE hR hs ?_ ?_⟩⟩⟩, fun g => absurd g hneg⟩
        · intro N hN hp1 jl1 lv jc oc nj tk out F1 B1 EX1 PV1 HP
          have B1 := B1 JL
          have eX : aXg E R s = gSe (aX1 E R s N) := by unfold aXg; rw [hN]
          obtain ⟨PV2, F2, G2⟩ := PV1.put jc oc nj tk 1 out
          obtain ⟨ls1, p0, _⟩ := id PV1
          have l1 : hp.length ≤ hp1.length := F1.1
          have P2 := HP _ F2 PV2
          have l2 := F2.1
          refine ⟨_, rfl, fun _ => ⟨_, _, rfl, p0, Nat.le_of_ble_eq_true rfl, rfl, k92 (d := d) hs6 (aX1_ok hE hR b3 hs h4 hN) P2 (Nat.le_trans (Nat.le_trans (Nat.le_trans (by omega) A.2.2.2) l1) l2) (fun hp3 F3 G3 P3 => ⟨rfl, ?_⟩)⟩, fun g => absurd g (by decide)⟩
          rw [← eX] at P3
          refine k59_79 (d := d + 9) hs6 A hst hf (hR'.2.1 s |> fun h => by have : gOk (up (nPg R) s (aXg E R s) s) := h; rw [up_eq] at this; exact this.1) ((F1.tr (F2.mono (fun x _ e => by subst e; exact wX_56))).tr (F3.mono (fun x _ e => by subst e; exact wX_56))) ((EX1.keepJ F2 (fun x hx e => by omega)).keepJ F3 (fun x hx e => by omega)) P3 hact (fun hp4 F4 G4 A4 => ?_)
          rw [nI_1]
          refine ih (i + 1) _ hp4 _ _ _ (by show i + 1 + m = nKn R; omega) A4 hR' hst (fun hp' JL' i1 o2 o3 F5 B5 A5 R5 e5 => ?_)
          exact H hp' JL' i1 o2 o3 (F4.tr F5) (((((B1.tr G2.h.b).tr G3.b).tr G4.b).tr B5).mono (by omega) (by omega)) A5 R5 e5
        · intro hN hp1 jl1 lv jc oc nj tk out F1 B1 EX1 PV1 HP
          have B1 := B1 JL
          have eX : aXg E R s = (3, [], 0, fun _ => none, fun _ => none, fun _ => false, .leaf none) := by unfold aXg; rw [hN]
          obtain ⟨PV2, F2, G2⟩ := PV1.put jc oc nj tk 3 out
          obtain ⟨ls1, p0, _⟩ := id PV1
          have P2 := HP _ F2 PV2
          rw [← eX] at P2
          refine ⟨_, rfl, fun g => absurd rfl g, fun _ => ⟨_, _, rfl, p0, Nat.le_of_ble_eq_true rfl, rfl, ?_⟩⟩
          refine k59_79 (d := d + 9) hs6 A hst hf (by rw [eX]; show 3 ≤ 3; omega) (F1.tr (F2.mono (fun x _ e => by subst e; exact wX_56))) (EX1.keepJ F2 (fun x hx e => by omega)) P2 hact (fun hp4 F4 G4 A4 => ?_)
          rw [nI_1]
          refine ih (i + 1) _ hp4 _ _ _ (by show i + 1 + m = nKn R; omega) A4 hR' hst (fun hp' JL' i1 o2 o3 F5 B5 A5 R5 e5 => ?_)
          exact H hp' JL' i1 o2 o3 (F4.tr F5) ((((B1.tr G2.h.b).tr G4.b).tr B5).mono (by omega) (by omega)) A5 R5 e5
      · have eG : aGo E (m + 1) R = R := by
          show (if nFl R = true then R else match aNx E R with | none => R | some s => aGo E m (rPg R s (aXg E R s))) = _
          rw [hf, hs]; rfl
        rw [eG] at H
        refine ⟨_, rfl, fun g => absurd rfl g, fun _ => ?_⟩
        exact H hp JL (nI i) _ o3 cE.rf (cH.rf.b.mono (by omega) (by omega)) A hR rfl
end CAE
