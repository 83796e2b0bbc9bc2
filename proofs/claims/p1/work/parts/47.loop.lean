/-- what one call of the law owes: the class answers, the reference answers the same, what holds between calls holds again -/
def mL_ob (X : List Int32) (Inv : Nat → mm_H → Prop) (t : Nat) (hp : mm_H) (kx km : Nat) (as : List Value) : Prop :=
  mm_R X 999 kx 0 (mm_L0 kx (.ref 0 :: as)) [] hp (fun r hp1 => ∃ x, r = some (.int x) ∧ mw_rc (.ref 86) km hp1 ∧ mm_R X 999 km 0 (mm_L0 km (.ref 86 :: as)) [] hp1 (fun r2 hp2 => r2 = some (.int x) ∧ Inv (t + 1) hp2))
def mL_all (X : List Int32) (Inv : Nat → mm_H → Prop) (t : Nat) (hp : mm_H) (y1 y2 y3 y4 : Int32) : Prop :=
  mL_ob X Inv t hp 12 124 [.int ((Int32.toUInt32 y1 % 65536).toInt32)] ∧ mL_ob X Inv t hp 15 125 [.int y1] ∧ mL_ob X Inv t hp 18 128 [.int y1, .int y2, .int ((Int32.toUInt32 y3 % 65536).toInt32), .int y4] ∧ mL_ob X Inv t hp 20 129 [.int y1] ∧ mL_ob X Inv t hp 22 130 [.int y1, .int y2, .int y3] ∧ mL_ob X Inv t hp 26 132 [.int y1, .int y2, .int y3, .int y4] ∧ mL_ob X Inv t hp 27 133 [.int y1, .int y2] ∧ mL_ob X Inv t hp 41 155 [.int y1, .int y2] ∧ mL_ob X Inv t hp 50 160 [.int y1] ∧ mL_ob X Inv t hp 51 161 [.int y1, .int y2, .int y3] ∧ mL_ob X Inv t hp 52 162 [.int y1] ∧ mL_ob X Inv t hp 53 163 [.int y1] ∧ mL_ob X Inv t hp 98 198 [.int y1] ∧ mL_ob X Inv t hp 109 202 [] ∧ mL_ob X Inv t hp 110 203 [] ∧ mL_ob X Inv t hp 111 204 [] ∧ mL_ob X Inv t hp 112 205 [.int y1, .int y2] ∧ mL_ob X Inv t hp 113 206 [.int y1, .int y2, .int y3] ∧ mL_ob X Inv t hp 115 207 [.int y1] ∧ mL_ob X Inv t hp 117 208 [.int y1, .int y2]
theorem mL_nn (n : Nat) (h : n < 2 ^ 31) : 0 ≤ nI n := nI_pos' h
theorem mL_a1 (a : Nat) : nI a + (1 : Int32) = nI (a + 1) := nI_1 a
theorem mL_a2 (a : Nat) : nI a + (2 : Int32) = nI (a + 2) := nI_add a 2
theorem mL_a3 (a : Nat) : nI a + (3 : Int32) = nI (a + 3) := nI_add a 3
theorem mL_a4 (a : Nat) : nI a + (4 : Int32) = nI (a + 4) := nI_add a 4
theorem mL_a5 (a : Nat) : nI a + (5 : Int32) = nI (a + 5) := nI_add a 5
theorem mL_get {X : List Int32} {i : Int32} {n : Nat} (hi : i = nI n) (hn : n < X.length) (hX : X.length < 2 ^ 31) : 0 ≤ i ∧ X[i.toNatClampNeg]? = some (X.getD n 0) := by
  subst hi
  refine ⟨nI_pos' (by omega), ?_⟩
  rw [nI_clamp (by omega), List.getD_eq_getElem?_getD, List.getElem?_eq_getElem hn]
  rfl
theorem mL_le {L t : Nat} (hL : L < 2 ^ 31 - 10) (ht : 5 * t ≤ L) : nI L - (5 : Int32) < nI (5 * t) ↔ L < 5 * t + 5 := by
  have e1 : (nI L - (5 : Int32)).toInt = (L : Int) - 5 := by
    have h5 : (5 : Int32) = nI 5 := rfl
    rw [h5]
    by_cases hb : L < 2 ^ 30
    · exact pk_sub_toInt hb (by decide)
    · rw [pk_sub (by omega), nI_toInt (by omega)]; omega
  rw [Int32.lt_iff_toInt_lt, e1, nI_toInt (by omega)]
  omega
set_option maxHeartbeats 4000000 in
set_option maxRecDepth 100000 in
theorem mL_loop {X : List Int32} (hX : X.length ≤ 2560) (Inv : Nat → mm_H → Prop) (P : mm_H → Prop) (hP : ∀ t hp, Inv t hp → P hp) (hr0 : ∀ t hp, Inv t hp → ∃ vs, hp[0]? = some (0, vs)) (hsk : ∀ t hp, Inv t hp → Inv (t + 1) hp)
    (hob : ∀ t hp y1 y2 y3 y4, 5 * t + 5 ≤ X.length → Inv t hp → mL_all X Inv t hp y1 y2 y3 y4) :
    ∀ n t hp, 5 * t ≤ X.length → X.length < 5 * t + n → Inv t hp → mm_R X 1000 209 18 [some (.retAddr 100), some (.ref 0), some (.ref 86), some (.int (nI (5 * t)))] [] hp (fun r hp' => r = some (.int 1) ∧ P hp') := by
  intro n
  induction n with
  | zero => intro t hp h1 h2; exact absurd h2 (by omega)
  | succ n ih =>
    intro t hp ht hn hI
    have hrc : ∀ k, mm_mc k = 0 → mw_rc (.ref 0) k hp := fun k hk => by
      obtain ⟨vs, h⟩ := hr0 t hp hI
      exact ⟨0, vs, rfl, by rw [hk]; exact h⟩
    refine w209_18 ⟨fun _ => ⟨rfl, hP t hp hI⟩, fun hc => ?_⟩
    rw [mL_le (by omega) ht] at hc
    have hlt : 5 * t + 5 ≤ X.length := by omega
    have go : ∀ hp2, Inv (t + 1) hp2 → mm_R X 1000 209 722 [some (.retAddr 100), some (.ref 0), some (.ref 86), some (.int (nI (5 * t)))] [] hp2 (fun r hp' => r = some (.int 1) ∧ P hp') := by
      intro hp2 h2
      refine w209_722 ?_
      rw [mL_a5]
      have := ih (t + 1) hp2 (by omega) (by omega) h2
      rw [show 5 * (t + 1) = 5 * t + 5 by omega] at this
      exact this
    obtain ⟨g0, h0⟩ := mL_get (X := X) (i := nI (5 * t)) (n := 5 * t) rfl (by omega) (by omega)
    obtain ⟨g1, h1⟩ := mL_get (X := X) (n := 5 * t + 1) (mL_a1 (5 * t)) (by omega) (by omega)
    obtain ⟨g2, h2⟩ := mL_get (X := X) (n := 5 * t + 2) (mL_a2 (5 * t)) (by omega) (by omega)
    obtain ⟨g3, h3⟩ := mL_get (X := X) (n := 5 * t + 3) (mL_a3 (5 * t)) (by omega) (by omega)
    obtain ⟨g4, h4⟩ := mL_get (X := X) (n := 5 * t + 4) (mL_a4 (5 * t)) (by omega) (by omega)
    generalize X.getD (5 * t) 0 = y0 at h0
    generalize X.getD (5 * t + 1) 0 = y1 at h1
    generalize X.getD (5 * t + 2) 0 = y2 at h2
    generalize X.getD (5 * t + 3) 0 = y3 at h3
    generalize X.getD (5 * t + 4) 0 = y4 at h4
    obtain ⟨b0, b1, b2, b3, b4, b5, b6, b7, b8, b9, b10, b11, b12, b13, b14, b15, b16, b17, b18, b19⟩ := hob t hp y1 y2 y3 y4 hlt hI
    refine ⟨y0, g0, h0, fun _ => go hp (hsk t hp hI), fun _ => ?_, fun _ => ?_, fun _ => ?_, fun _ => ?_, fun _ => ?_, fun _ => ?_, fun _ => ?_, fun _ => ?_, fun _ => ?_, fun _ => ?_, fun _ => ?_, fun _ => ?_, fun _ => ?_, fun _ => ?_, fun _ => ?_, fun _ => ?_, fun _ => ?_, fun _ => ?_, fun _ => ?_, fun _ => ?_⟩
    · refine w209_128 ⟨y1, g1, h1, hrc _ rfl, b0.mono ?_⟩
      rintro r hp1 ⟨x, rfl, hrc1, hm⟩
      refine ⟨x, rfl, ⟨y1, g1, h1, hrc1, hm.mono ?_⟩⟩
      rintro r2 hp2 ⟨rfl, hI2⟩
      exact ⟨x, rfl, fun _ => go hp2 hI2, fun h => absurd rfl h⟩
    · refine w209_153 ⟨y1, g1, h1, hrc _ rfl, b1.mono ?_⟩
      rintro r hp1 ⟨x, rfl, hrc1, hm⟩
      refine ⟨x, rfl, ⟨y1, g1, h1, hrc1, hm.mono ?_⟩⟩
      rintro r2 hp2 ⟨rfl, hI2⟩
      exact ⟨x, rfl, fun _ => go hp2 hI2, fun h => absurd rfl h⟩
    · refine w209_176 ⟨y1, g1, h1, y2, g2, h2, y3, g3, h3, y4, g4, h4, hrc _ rfl, b2.mono ?_⟩
      rintro r hp1 ⟨x, rfl, hrc1, hm⟩
      refine ⟨x, rfl, ⟨y1, g1, h1, y2, g2, h2, y3, g3, h3, y4, g4, h4, hrc1, hm.mono ?_⟩⟩
      rintro r2 hp2 ⟨rfl, hI2⟩
      exact ⟨x, rfl, fun _ => go hp2 hI2, fun h => absurd rfl h⟩
    · refine w209_231 ⟨y1, g1, h1, hrc _ rfl, b3.mono ?_⟩
      rintro r hp1 ⟨x, rfl, hrc1, hm⟩
      refine ⟨x, rfl, ⟨y1, g1, h1, hrc1, hm.mono ?_⟩⟩
      rintro r2 hp2 ⟨rfl, hI2⟩
      exact ⟨x, rfl, fun _ => go hp2 hI2, fun h => absurd rfl h⟩
    · refine w209_254 ⟨y1, g1, h1, y2, g2, h2, y3, g3, h3, hrc _ rfl, b4.mono ?_⟩
      rintro r hp1 ⟨x, rfl, hrc1, hm⟩
      refine ⟨x, rfl, ⟨y1, g1, h1, y2, g2, h2, y3, g3, h3, hrc1, hm.mono ?_⟩⟩
      rintro r2 hp2 ⟨rfl, hI2⟩
      exact ⟨x, rfl, fun _ => go hp2 hI2, fun h => absurd rfl h⟩
    · refine w209_297 ⟨y1, g1, h1, y2, g2, h2, y3, g3, h3, y4, g4, h4, hrc _ rfl, b5.mono ?_⟩
      rintro r hp1 ⟨x, rfl, hrc1, hm⟩
      refine ⟨x, rfl, ⟨y1, g1, h1, y2, g2, h2, y3, g3, h3, y4, g4, h4, hrc1, hm.mono ?_⟩⟩
      rintro r2 hp2 ⟨rfl, hI2⟩
      exact ⟨x, rfl, fun _ => go hp2 hI2, fun h => absurd rfl h⟩
    · refine w209_350 ⟨y1, g1, h1, y2, g2, h2, hrc _ rfl, b6.mono ?_⟩
      rintro r hp1 ⟨x, rfl, hrc1, hm⟩
      refine ⟨x, rfl, ⟨y1, g1, h1, y2, g2, h2, hrc1, hm.mono ?_⟩⟩
      rintro r2 hp2 ⟨rfl, hI2⟩
      exact ⟨x, rfl, fun _ => go hp2 hI2, fun h => absurd rfl h⟩
    · refine w209_383 ⟨y1, g1, h1, y2, g2, h2, hrc _ rfl, b7.mono ?_⟩
      rintro r hp1 ⟨x, rfl, hrc1, hm⟩
      refine ⟨x, rfl, ⟨y1, g1, h1, y2, g2, h2, hrc1, hm.mono ?_⟩⟩
      rintro r2 hp2 ⟨rfl, hI2⟩
      exact ⟨x, rfl, fun _ => go hp2 hI2, fun h => absurd rfl h⟩
    · refine w209_416 ⟨y1, g1, h1, hrc _ rfl, b8.mono ?_⟩
      rintro r hp1 ⟨x, rfl, hrc1, hm⟩
      refine ⟨x, rfl, ⟨y1, g1, h1, hrc1, hm.mono ?_⟩⟩
      rintro r2 hp2 ⟨rfl, hI2⟩
      exact ⟨x, rfl, fun _ => go hp2 hI2, fun h => absurd rfl h⟩
    · refine w209_439 ⟨y1, g1, h1, y2, g2, h2, y3, g3, h3, hrc _ rfl, b9.mono ?_⟩
      rintro r hp1 ⟨x, rfl, hrc1, hm⟩
      refine ⟨x, rfl, ⟨y1, g1, h1, y2, g2, h2, y3, g3, h3, hrc1, hm.mono ?_⟩⟩
      rintro r2 hp2 ⟨rfl, hI2⟩
      exact ⟨x, rfl, fun _ => go hp2 hI2, fun h => absurd rfl h⟩
    · refine w209_482 ⟨y1, g1, h1, hrc _ rfl, b10.mono ?_⟩
      rintro r hp1 ⟨x, rfl, hrc1, hm⟩
      refine ⟨x, rfl, ⟨y1, g1, h1, hrc1, hm.mono ?_⟩⟩
      rintro r2 hp2 ⟨rfl, hI2⟩
      exact ⟨x, rfl, fun _ => go hp2 hI2, fun h => absurd rfl h⟩
    · refine w209_505 ⟨y1, g1, h1, hrc _ rfl, b11.mono ?_⟩
      rintro r hp1 ⟨x, rfl, hrc1, hm⟩
      refine ⟨x, rfl, ⟨y1, g1, h1, hrc1, hm.mono ?_⟩⟩
      rintro r2 hp2 ⟨rfl, hI2⟩
      exact ⟨x, rfl, fun _ => go hp2 hI2, fun h => absurd rfl h⟩
    · refine w209_528 ⟨y1, g1, h1, hrc _ rfl, b12.mono ?_⟩
      rintro r hp1 ⟨x, rfl, hrc1, hm⟩
      refine ⟨x, rfl, ⟨y1, g1, h1, hrc1, hm.mono ?_⟩⟩
      rintro r2 hp2 ⟨rfl, hI2⟩
      exact ⟨x, rfl, fun _ => go hp2 hI2, fun h => absurd rfl h⟩
    · refine w209_551 ⟨hrc _ rfl, b13.mono ?_⟩
      rintro r hp1 ⟨x, rfl, hrc1, hm⟩
      refine ⟨x, rfl, ⟨hrc1, hm.mono ?_⟩⟩
      rintro r2 hp2 ⟨rfl, hI2⟩
      exact ⟨x, rfl, fun _ => go hp2 hI2, fun h => absurd rfl h⟩
    · refine w209_564 ⟨hrc _ rfl, b14.mono ?_⟩
      rintro r hp1 ⟨x, rfl, hrc1, hm⟩
      refine ⟨x, rfl, ⟨hrc1, hm.mono ?_⟩⟩
      rintro r2 hp2 ⟨rfl, hI2⟩
      exact ⟨x, rfl, fun _ => go hp2 hI2, fun h => absurd rfl h⟩
    · refine w209_577 ⟨hrc _ rfl, b15.mono ?_⟩
      rintro r hp1 ⟨x, rfl, hrc1, hm⟩
      refine ⟨x, rfl, ⟨hrc1, hm.mono ?_⟩⟩
      rintro r2 hp2 ⟨rfl, hI2⟩
      exact ⟨x, rfl, fun _ => go hp2 hI2, fun h => absurd rfl h⟩
    · refine w209_590 ⟨y1, g1, h1, y2, g2, h2, hrc _ rfl, b16.mono ?_⟩
      rintro r hp1 ⟨x, rfl, hrc1, hm⟩
      refine ⟨x, rfl, ⟨y1, g1, h1, y2, g2, h2, hrc1, hm.mono ?_⟩⟩
      rintro r2 hp2 ⟨rfl, hI2⟩
      exact ⟨x, rfl, fun _ => go hp2 hI2, fun h => absurd rfl h⟩
    · refine w209_623 ⟨y1, g1, h1, y2, g2, h2, y3, g3, h3, hrc _ rfl, b17.mono ?_⟩
      rintro r hp1 ⟨x, rfl, hrc1, hm⟩
      refine ⟨x, rfl, ⟨y1, g1, h1, y2, g2, h2, y3, g3, h3, hrc1, hm.mono ?_⟩⟩
      rintro r2 hp2 ⟨rfl, hI2⟩
      exact ⟨x, rfl, fun _ => go hp2 hI2, fun h => absurd rfl h⟩
    · refine w209_666 ⟨y1, g1, h1, hrc _ rfl, b18.mono ?_⟩
      rintro r hp1 ⟨x, rfl, hrc1, hm⟩
      refine ⟨x, rfl, ⟨y1, g1, h1, hrc1, hm.mono ?_⟩⟩
      rintro r2 hp2 ⟨rfl, hI2⟩
      exact ⟨x, rfl, fun _ => go hp2 hI2, fun h => absurd rfl h⟩
    · refine w209_689 ⟨y1, g1, h1, y2, g2, h2, hrc _ rfl, b19.mono ?_⟩
      rintro r hp1 ⟨x, rfl, hrc1, hm⟩
      refine ⟨x, rfl, ⟨y1, g1, h1, y2, g2, h2, hrc1, hm.mono ?_⟩⟩
      rintro r2 hp2 ⟨rfl, hI2⟩
      exact ⟨x, rfl, fun _ => go hp2 hI2, fun h => absurd rfl h⟩
/-- the law, out of what holds between calls -/
theorem mL_law (N : Nat) (hN : N ≤ 2560) (Inv : List Int32 → Nat → mm_H → Prop) (h0 : ∀ X, Inv X 0 (mc_H0 ++ mc_H1)) (hr0 : ∀ X t hp, Inv X t hp → ∃ vs, hp[0]? = some (0, vs)) (hz : ∀ X t hp, Inv X t hp → hp.length ≤ 600000 ∧ mm_sz hp ≤ 7302250) (hsk : ∀ X t hp, Inv X t hp → Inv X (t + 1) hp)
    (hob : ∀ X t hp y1 y2 y3 y4, X.length ≤ N → 5 * t + 5 ≤ X.length → Inv X t hp → mL_all X (Inv X) t hp y1 y2 y3 y4) : mm_Law N := by
  intro X hX
  have main : mm_R X 1000 209 0 (mm_L0 209 [.retAddr 100]) [] [] (fun r hp' => r = some (.int 1) ∧ (hp'.length ≤ 600000 ∧ mm_sz hp' ≤ 7302250)) := by
    show mm_R X (999 + 1) 209 0 [some (.retAddr 100), none, none, none] [] [] _
    refine mm_R.newK (pc' := 0) (L' := [some (.retAddr 100), none, none, none]) (r := []) 0 rfl rfl (fun q hp1 e1 e2 => ?_)
    subst e1; subst e2
    refine mm_R.cI (pc' := 4) (L' := [some (.retAddr 100), none, none, none]) (st1 := [.ref 0, .ref 0]) (as := [.ref 0]) (rest := [.ref 0]) 1 rfl rfl (mw_sp rfl rfl (Nat.le_of_ble_eq_true rfl) rfl rfl) rfl rfl rfl ⟨_, _, _, mm_evN_ok _ _ _ _ _ _ _ _ mc_ctor0, ?_⟩
    refine mm_R.newK (pc' := 8) (L' := [some (.retAddr 100), some (.ref 0), none, none]) (r := []) 1 rfl rfl (fun q hp1 e1 e2 => ?_)
    obtain rfl : q = 86 := e1
    subst e2
    refine mm_R.cI (pc' := 12) (L' := [some (.retAddr 100), some (.ref 0), none, none]) (st1 := [.ref 86, .ref 86]) (as := [.ref 86]) (rest := [.ref 86]) 1 rfl rfl (mw_sp rfl rfl (Nat.le_of_ble_eq_true rfl) rfl rfl) rfl rfl rfl ⟨_, _, _, mm_evN_ok _ _ _ _ _ _ _ _ mc_ctor1, ?_⟩
    refine mm_R.pn (pc' := 18) (L' := [some (.retAddr 100), some (.ref 0), some (.ref 86), some (.int 0)]) (st' := []) 3 rfl ?_
    have := mL_loop (by omega) (Inv X) _ (hz X) (hr0 X) (hsk X) (fun t hp y1 y2 y3 y4 h1 h2 => hob X t hp y1 y2 y3 y4 hX h1 h2) (X.length + 1) 0 _ (by omega) (by omega) (h0 X)
    exact this
  obtain ⟨n, r, hp', h1, rfl, h2, h3⟩ := main
  exact ⟨n, hp', h1, h2, h3⟩
