section MPO
variable {X : List Int32} {i1 i2 i3 i4 : Int32}
theorem mp_ob12 : mL_ob X (mp_I X) 0 mp_H 12 124 [.int i1] := by
  by_cases h1 : i1 < 32
  · refine w12_0 ⟨0, _, _, rfl, mp_h0, rfl, ⟨1, _, rfl, mp_h1⟩, w13_0 (w14_0 ⟨fun _ => ⟨_, rfl, fun _ => ⟨_, rfl, rfl, ?_⟩, fun h => absurd rfl h⟩, fun h => absurd h1 h⟩)⟩
    exact mp_fin0 rfl (u124_0 ⟨fun _ => rfl, fun h => absurd h1 h⟩)
  · by_cases h2 : (126 : Int32) < i1
    · refine w12_0 ⟨0, _, _, rfl, mp_h0, rfl, ⟨1, _, rfl, mp_h1⟩, w13_0 (w14_0 ⟨fun h => absurd h h1, fun _ => ⟨fun _ => ⟨_, rfl, fun _ => ⟨_, rfl, rfl, ?_⟩, fun h => absurd rfl h⟩, fun h => absurd h2 h⟩⟩)⟩
      exact mp_fin0 rfl (u124_0 ⟨fun h => absurd h h1, fun _ => ⟨fun _ => rfl, fun h => absurd h2 h⟩⟩)
    · have hc : 0 ≤ i1 ∧ i1 ≤ 65535 := by
        rw [Int32.lt_iff_toInt_lt] at h1 h2
        rw [Int32.le_iff_toInt_le, Int32.le_iff_toInt_le]
        rw [show (32 : Int32).toInt = 32 from rfl] at h1
        rw [show (126 : Int32).toInt = 126 from rfl] at h2
        rw [show (0 : Int32).toInt = 0 from rfl, show (65535 : Int32).toInt = 65535 from rfl]
        omega
      have ok : mp_ok mp_H := mp_okb_ok mp_o
      refine w12_0 ⟨0, _, _, rfl, mp_h0, rfl, ⟨1, _, rfl, mp_h1⟩, w13_0 (w14_0 ⟨fun h => absurd h h1, fun _ => ⟨fun h => absurd h h2, fun _ => ⟨_, rfl, fun h => absurd h (by decide), fun _ => ⟨1, _, _, rfl, mp_h1, rfl, ⟨1, _, _, rfl, mp_h1, rfl, ⟨2, _, _, rfl, mp_h2, by decide, rfl, ?_⟩⟩⟩⟩⟩⟩)⟩
      refine ⟨fun _ => ?_, fun h => absurd (by rw [List.length_replicate]; decide) h⟩
      refine ⟨1, _, _, rfl, mp_h1, rfl, ⟨1, _, _, rfl, mp_h1, rfl, ⟨2, _, rfl, mp_h2, by decide, by rw [List.length_replicate]; decide, m_fc hc, ?_⟩⟩⟩
      have g1 : (mp_H.set 2 (1001, (List.replicate 60 (Value.int 0)).set (Int32.toNatClampNeg 0) (.int i1)))[1]? = some (1, [.ref 2, .int 0, .int 0]) := by rw [List.getElem?_set_ne (by decide)]; exact mp_h1
      refine ⟨1, _, _, rfl, g1, rfl, ⟨1, _, rfl, g1, by decide, rfl, ?_⟩⟩
      refine ⟨_, rfl, rfl, mp_fin (mR_set (mR_set mp_R (Or.inl (by decide))) (Or.inl (by decide))) ⟨?_, ?_, ?_⟩ rfl ?_⟩
      · rw [List.getElem?_set_ne (by decide), List.getElem?_set_ne (by decide)]; exact ok.1
      · rw [List.length_set, List.length_set]; exact ok.2.1
      · rw [mm_sz_set g1 (by rw [List.length_set]), mm_sz_set mp_h2 (by rw [List.length_set])]; exact ok.2.2
      · exact u124_0 ⟨fun h => absurd h h1, fun _ => ⟨fun h => absurd h h2, fun _ => ⟨fun _ => ⟨by decide, hc, fun _ _ _ _ => rfl⟩, fun h => absurd (show mp_s.1 3 < 60 by decide) h⟩⟩⟩
theorem mp_four (h1 : ¬ i1 < 0) (h2 : i1 ≤ 3) : i1 = 0 ∨ i1 = 1 ∨ i1 = 2 ∨ i1 = 3 := by
  rw [Int32.lt_iff_toInt_lt] at h1
  rw [Int32.le_iff_toInt_le] at h2
  rw [show (0 : Int32).toInt = 0 from rfl] at h1
  rw [show (3 : Int32).toInt = 3 from rfl] at h2
  have : i1.toInt = 0 ∨ i1.toInt = 1 ∨ i1.toInt = 2 ∨ i1.toInt = 3 := by omega
  rcases this with h | h | h | h
  · exact Or.inl (Int32.toInt_inj.mp h)
  · exact Or.inr (Or.inl (Int32.toInt_inj.mp h))
  · exact Or.inr (Or.inr (Or.inl (Int32.toInt_inj.mp h)))
  · exact Or.inr (Or.inr (Or.inr (Int32.toInt_inj.mp h)))
set_option maxRecDepth 100000 in
theorem mp_t0 : mp_chk 3000 15 125 [.int 0] = true := by decide +kernel
set_option maxRecDepth 100000 in
theorem mp_t1 : mp_chk 3000 15 125 [.int 1] = true := by decide +kernel
set_option maxRecDepth 100000 in
theorem mp_t2 : mp_chk 3000 15 125 [.int 2] = true := by decide +kernel
set_option maxRecDepth 100000 in
theorem mp_t3 : mp_chk 3000 15 125 [.int 3] = true := by decide +kernel
theorem mp_ob15 : mL_ob X (mp_I X) 0 mp_H 15 125 [.int i1] := by
  by_cases h1 : i1 < 0
  · refine w15_0 ⟨0, _, _, rfl, mp_h0, rfl, ⟨12, _, rfl, mp_h12⟩, mp_16 mp_h12 ⟨_, rfl, fun h => absurd rfl h, fun _ => ⟨0, _, _, rfl, mp_h0, rfl, fun h => absurd h (by decide), fun _ => ⟨fun _ => ?_, fun h => absurd h1 h⟩⟩⟩⟩
    exact mp_fin0 rfl (u125_0 (mp_126 ⟨_, rfl, fun h => absurd h (by decide), fun _ => ⟨fun h => absurd h (by decide), fun _ => u127_0 ⟨fun _ => ⟨_, rfl, fun h => absurd rfl h, fun _ => rfl⟩, fun h => absurd h1 h⟩⟩⟩))
  · by_cases h2 : i1 ≤ 3
    · rcases mp_four h1 h2 with rfl | rfl | rfl | rfl
      · exact mp_cl 3000 mp_t0
      · exact mp_cl 3000 mp_t1
      · exact mp_cl 3000 mp_t2
      · exact mp_cl 3000 mp_t3
    · refine w15_0 ⟨0, _, _, rfl, mp_h0, rfl, ⟨12, _, rfl, mp_h12⟩, mp_16 mp_h12 ⟨_, rfl, fun h => absurd rfl h, fun _ => ⟨0, _, _, rfl, mp_h0, rfl, fun h => absurd h (by decide), fun _ => ⟨fun h => absurd h h1, fun _ => ⟨fun h => absurd h h2, fun _ => ?_⟩⟩⟩⟩⟩
      exact mp_fin0 rfl (u125_0 (mp_126 ⟨_, rfl, fun h => absurd h (by decide), fun _ => ⟨fun h => absurd h (by decide), fun _ => u127_0 ⟨fun h => absurd h h1, fun _ => ⟨fun _ => ⟨_, rfl, fun h => absurd rfl h, fun _ => rfl⟩, fun h => absurd (Int32.not_lt.mp h) h2⟩⟩⟩⟩))
theorem mp_ob18 : mL_ob X (mp_I X) 0 mp_H 18 128 [.int i1, .int i2, .int i3, .int i4] := by
  have cl : ∀ (Q : Option Value → mm_H → Prop), Q (some (.int (-1))) mp_H → mm_R X 999 18 0 (mm_L0 18 [.ref 0, .int i1, .int i2, .int i3, .int i4]) [] mp_H Q := fun Q H =>
    w18_0 ⟨0, _, _, rfl, mp_h0, rfl, ⟨12, _, rfl, mp_h12⟩, mp_16 mp_h12 ⟨_, rfl, fun h => absurd rfl h, fun _ => ⟨fun _ => H, fun h => ⟨0, _, _, rfl, mp_h0, rfl, fun h2 => absurd h2 h, fun _ => H⟩⟩⟩⟩
  have rf : ∀ s : Int32, mM X 999 128 21 [some (.ref 86), some (.int i1), some (.int i2), some (.int i3), some (.int i4), none, none] [.int s] mp_s (fun r _ => r = some (.int (-1))) := fun s =>
    u128_21 (mp_126 ⟨_, rfl, fun h => absurd h (by decide), fun _ => ⟨fun _ => rfl, fun h => ⟨fun _ => rfl, fun h2 => absurd (Int32.not_lt.mp h) h2⟩⟩⟩)
  exact cl _ (mp_fin0 rfl (u128_0 ⟨fun _ => rf _, fun _ => ⟨fun _ => rf _, fun _ => ⟨fun _ => rf _, fun _ => rf _⟩⟩⟩))
theorem mp_ob20 : mL_ob X (mp_I X) 0 mp_H 20 129 [.int i1] := by
  have rf : mM X 999 129 0 (mm_L0 129 [.ref 86, .int i1]) [] mp_s (fun r _ => r = some (.int (-1))) :=
    u129_0 (mp_126 ⟨_, rfl, fun h => absurd h (by decide), fun _ => ⟨fun h => absurd h (by decide), fun _ => ⟨fun _ => rfl, fun h => ⟨fun h2 => absurd h2 h, fun _ => rfl⟩⟩⟩⟩)
  exact w20_0 ⟨0, _, _, rfl, mp_h0, rfl, ⟨12, _, rfl, mp_h12⟩, mp_16 mp_h12 ⟨_, rfl, fun h => absurd rfl h, fun _ => ⟨0, _, _, rfl, mp_h0, rfl, fun h => absurd h (by decide), fun _ => ⟨fun _ => mp_fin0 rfl rf, fun h => ⟨0, _, _, rfl, mp_h0, rfl, fun h2 => absurd h2 h, fun _ => mp_fin0 rfl rf⟩⟩⟩⟩⟩
theorem mp_rc (k : Nat) (h : mm_mc k = 0) : mw_rc (.ref 0) k mp_H := ⟨0, _, rfl, by rw [h]; exact mp_h0⟩
theorem mp_ob22 : mL_ob X (mp_I X) 0 mp_H 22 130 [.int i1, .int i2, .int i3] := by
  have rf : mM X 999 130 0 (mm_L0 130 [.ref 86, .int i1, .int i2, .int i3]) [] mp_s (fun r _ => r = some (.int 0)) :=
    u130_0 (mp_126 ⟨_, rfl, fun h => absurd h (by decide), fun _ => mp_131 ⟨_, rfl, fun _ => rfl, fun h => absurd rfl h⟩⟩)
  have e := mp_fin0 (X := X) (km := 130) rfl rf
  have b : ∀ (s : Int32) (L : Option Value) (M : Option Value), mm_R X 999 22 40 [some (.ref 0), some (.int i1), some (.int i2), some (.int i3), some .null, some (.int s), M] [.int 0] mp_H (fun r hp1 => ∃ x, r = some (.int x) ∧ mw_rc (.ref 86) 130 hp1 ∧ mm_R X 999 130 0 (mm_L0 130 (.ref 86 :: [.int i1, .int i2, .int i3])) [] hp1 (fun r2 hp2 => r2 = some (.int x) ∧ mp_I X (0 + 1) hp2)) := fun s L M => w22_40 ⟨rfl, Or.inl ⟨rfl, e⟩⟩
  have b1 : ∀ (s t : Int32) (M : Option Value), mm_R X 999 22 40 [some (.ref 0), some (.int i1), some (.int i2), some (.int i3), some .null, some (.int s), M] [.int t] mp_H (fun r hp1 => ∃ x, r = some (.int x) ∧ mw_rc (.ref 86) 130 hp1 ∧ mm_R X 999 130 0 (mm_L0 130 (.ref 86 :: [.int i1, .int i2, .int i3])) [] hp1 (fun r2 hp2 => r2 = some (.int x) ∧ mp_I X (0 + 1) hp2)) := fun s t M => w22_40 ⟨rfl, Or.inl ⟨rfl, e⟩⟩
  exact w22_0 ⟨mp_rc _ rfl, mp_23 mp_h0 mp_h12 ⟨_, rfl, rfl, fun _ => w22_21 ⟨fun _ => b1 _ _ _, fun _ => ⟨fun _ => b1 _ _ _, fun _ => b1 _ _ _⟩⟩, fun _ => ⟨fun _ => w22_21 ⟨fun _ => b1 _ _ _, fun _ => ⟨fun _ => b1 _ _ _, fun _ => b1 _ _ _⟩⟩, fun _ => w22_21 ⟨fun _ => b1 _ _ _, fun _ => ⟨fun _ => b1 _ _ _, fun _ => b1 _ _ _⟩⟩⟩⟩⟩
theorem mp_ob26 : mL_ob X (mp_I X) 0 mp_H 26 132 [.int i1, .int i2, .int i3, .int i4] := by
  have rf : mM X 999 132 0 (mm_L0 132 [.ref 86, .int i1, .int i2, .int i3, .int i4]) [] mp_s (fun r _ => r = some (.int 0)) :=
    u132_0 (mp_126 ⟨_, rfl, fun h => absurd h (by decide), fun _ => mp_131 ⟨_, rfl, fun _ => rfl, fun h => absurd rfl h⟩⟩)
  have e := mp_fin0 (X := X) (km := 132) rfl rf
  have b1 : ∀ (s t : Int32) (M : Option Value), mm_R X 999 26 39 [some (.ref 0), some (.int i1), some (.int i2), some (.int i3), some (.int i4), some .null, some (.int s), M] [.int t] mp_H (fun r hp1 => ∃ x, r = some (.int x) ∧ mw_rc (.ref 86) 132 hp1 ∧ mm_R X 999 132 0 (mm_L0 132 (.ref 86 :: [.int i1, .int i2, .int i3, .int i4])) [] hp1 (fun r2 hp2 => r2 = some (.int x) ∧ mp_I X (0 + 1) hp2)) := fun s t M => w26_39 ⟨rfl, Or.inl ⟨rfl, e⟩⟩
  exact w26_0 ⟨mp_rc _ rfl, mp_23 mp_h0 mp_h12 ⟨_, rfl, rfl, fun _ => w26_21 ⟨fun _ => b1 _ _ _, fun _ => ⟨fun _ => b1 _ _ _, fun _ => b1 _ _ _⟩⟩, fun _ => ⟨fun _ => w26_21 ⟨fun _ => b1 _ _ _, fun _ => ⟨fun _ => b1 _ _ _, fun _ => b1 _ _ _⟩⟩, fun _ => w26_21 ⟨fun _ => b1 _ _ _, fun _ => ⟨fun _ => b1 _ _ _, fun _ => b1 _ _ _⟩⟩⟩⟩⟩
theorem mp_ob51 : mL_ob X (mp_I X) 0 mp_H 51 161 [.int i1, .int i2, .int i3] := by
  have rf : mM X 999 161 0 (mm_L0 161 [.ref 86, .int i1, .int i2, .int i3]) [] mp_s (fun r _ => r = some (.int 0)) :=
    u161_0 (mp_126 ⟨_, rfl, fun h => absurd h (by decide), fun _ => mp_131 ⟨_, rfl, fun _ => rfl, fun h => absurd rfl h⟩⟩)
  have e := mp_fin0 (X := X) (km := 161) rfl rf
  have b1 : ∀ (t : Int32) (M : Option Value), mm_R X 999 51 21 [some (.ref 0), some (.int i1), some (.int i2), some (.int i3), some .null, M] [.int t] mp_H (fun r hp1 => ∃ x, r = some (.int x) ∧ mw_rc (.ref 86) 161 hp1 ∧ mm_R X 999 161 0 (mm_L0 161 (.ref 86 :: [.int i1, .int i2, .int i3])) [] hp1 (fun r2 hp2 => r2 = some (.int x) ∧ mp_I X (0 + 1) hp2)) := fun t M => w51_21 ⟨rfl, Or.inl ⟨rfl, e⟩⟩
  exact w51_0 ⟨mp_rc _ rfl, mp_23 mp_h0 mp_h12 ⟨_, rfl, rfl, fun _ => b1 _ _, fun _ => ⟨fun _ => b1 _ _, fun _ => b1 _ _⟩⟩⟩
set_option maxRecDepth 100000 in
theorem mp_28 : mm_evN 3000 998 28 0 (mm_L0 28 [.ref 1]) [] mp_H = some (some .null, mp_H) := by decide +kernel
def mp_Hr : mm_H := mp_H ++ [(8, [.ref 114, .int 0, .int 0, .int 0]), (1000, [])]
set_option maxRecDepth 100000 in
theorem mp_42 : mm_evN 3000 998 42 0 (mm_L0 42 [.ref 1]) [] mp_H = some (some (.ref 113), mp_Hr) := by decide +kernel
theorem mp_134 {d : Nat} {Q : Option Value → mS → Prop} (H : ∀ σ, Q (some (.int 0)) σ) : mM X (d + 1) 134 0 (mm_L0 134 [.ref 86, .int 0, .int i2]) [] mp_s Q :=
  u134_0 ⟨fun _ => u134_16 ⟨fun _ _ _ => ⟨Or.inl rfl, H _⟩, fun h => absurd rfl h⟩, fun h => absurd rfl h⟩
theorem mp_ob27 : mL_ob X (mp_I X) 0 mp_H 27 133 [.int i1, .int i2] := by
  have rf : mM X 999 133 0 (mm_L0 133 [.ref 86, .int i1, .int i2]) [] mp_s (fun r _ => r = some (.int 0)) :=
    u133_0 (mp_126 ⟨_, rfl, fun h => absurd h (by decide), fun _ => mp_131 ⟨_, rfl, fun _ => u133_29 ⟨fun _ => u133_47 (mp_134 (fun _ => ⟨_, rfl, fun _ => ⟨Or.inl rfl, rfl⟩, fun h => absurd rfl h⟩)), fun h => absurd rfl h⟩, fun h => absurd rfl h⟩⟩)
  exact w27_0 ⟨0, _, _, rfl, mp_h0, rfl, ⟨1, _, rfl, mp_h1⟩, ⟨_, _, _, mm_evN_ok _ _ _ _ _ _ _ _ mp_28, _, rfl, rfl, mp_rc _ rfl, mp_23 mp_h0 mp_h12 ⟨_, rfl, rfl, Or.inl ⟨rfl, mp_fin0 rfl rf⟩⟩⟩⟩
theorem mp_hr0 : mp_Hr[0]? = some (0, mp_c0) := rfl
theorem mp_hr12 : mp_Hr[12]? = some (3, mp_c12) := rfl
set_option maxRecDepth 100000 in
theorem mp_or : mp_okb mp_Hr = true := by decide +kernel
theorem mp_Rr : mR mp_Hr mp_s := mR_app mp_R (by decide)
theorem mp_156 {d : Nat} {Q : Option Value → mS → Prop} (H : ∀ σ, Q (some (.int 0)) σ) : mM X (d + 1) 156 0 (mm_L0 156 [.ref 86, .int 0, .int i2]) [] mp_s Q :=
  u156_0 ⟨fun _ => u156_20 ⟨fun _ => u156_58 ⟨fun _ _ _ => ⟨Or.inl rfl, H _⟩, fun h => absurd rfl h⟩, fun h => absurd (show mp_s.1 3 ≤ 0 by decide) h⟩, fun h => absurd rfl h⟩
theorem mp_ob41 : mL_ob X (mp_I X) 0 mp_H 41 155 [.int i1, .int i2] := by
  have rf : mM X 999 155 0 (mm_L0 155 [.ref 86, .int i1, .int i2]) [] mp_s (fun r _ => r = some (.int 0)) :=
    u155_0 (mp_126 ⟨_, rfl, fun h => absurd h (by decide), fun _ => mp_131 ⟨_, rfl, fun _ => u155_29 ⟨fun _ => mp_156 (fun _ => ⟨_, rfl, Or.inl rfl, rfl⟩), fun h => absurd rfl h⟩, fun h => absurd rfl h⟩⟩)
  exact w41_0 ⟨0, _, _, rfl, mp_h0, rfl, ⟨1, _, rfl, mp_h1⟩, ⟨_, _, _, mm_evN_ok _ _ _ _ _ _ _ _ mp_42, _, rfl, rfl, ⟨0, _, rfl, mp_hr0⟩, mp_23 mp_hr0 mp_hr12 ⟨_, rfl, rfl, Or.inr ⟨⟨_, rfl⟩, Or.inl ⟨rfl, mp_fin mp_Rr (mp_okb_ok mp_or) rfl rf⟩⟩⟩⟩⟩
theorem mp_ob50 : mL_ob X (mp_I X) 0 mp_H 50 160 [.int i1] := by
  have rf : mM X 999 160 0 (mm_L0 160 [.ref 86, .int i1]) [] mp_s (fun r _ => r = some (.int 0)) :=
    u160_0 (mp_126 ⟨_, rfl, fun h => absurd h (by decide), fun _ => mp_131 ⟨_, rfl, fun _ => u160_20 ⟨fun _ => mp_156 (fun _ => ⟨_, rfl, Or.inl rfl, rfl⟩), fun h => absurd rfl h⟩, fun h => absurd rfl h⟩⟩)
  exact w50_0 ⟨0, _, _, rfl, mp_h0, rfl, ⟨1, _, rfl, mp_h1⟩, ⟨_, _, _, mm_evN_ok _ _ _ _ _ _ _ _ mp_42, _, rfl, rfl, ⟨0, _, rfl, mp_hr0⟩, mp_23 mp_hr0 mp_hr12 ⟨_, rfl, rfl, Or.inr ⟨⟨_, rfl⟩, Or.inl ⟨rfl, mp_fin mp_Rr (mp_okb_ok mp_or) rfl rf⟩⟩⟩⟩⟩
set_option maxRecDepth 100000 in
theorem mp_i0 : mp_chk 3000 52 162 [.int 0] = true := by decide +kernel
set_option maxRecDepth 100000 in
theorem mp_i1 : mp_chk 3000 52 162 [.int 1] = true := by decide +kernel
set_option maxRecDepth 100000 in
theorem mp_i2 : mp_chk 3000 52 162 [.int 2] = true := by decide +kernel
theorem mp_ob52 : mL_ob X (mp_I X) 0 mp_H 52 162 [.int i1] := by
  have out : (mM X 999 162 0 (mm_L0 162 [.ref 86, .int i1]) [] mp_s (fun r _ => r = some (.int 0))) → mL_ob X (mp_I X) 0 mp_H 52 162 [.int i1] := fun rf =>
    w52_0 ⟨0, _, _, rfl, mp_h0, rfl, ⟨1, _, rfl, mp_h1⟩, ⟨_, _, _, mm_evN_ok _ _ _ _ _ _ _ _ mp_28, _, rfl, rfl, Or.inl ⟨rfl, mp_fin0 rfl rf⟩⟩⟩
  have no : mM X 999 162 20 [some (.ref 86), some (.int i1), none] [] mp_s (fun r _ => r = some (.int 0)) :=
    u162_20 ⟨fun _ => mp_134 (fun _ => ⟨_, rfl, Or.inl rfl, rfl⟩), fun h => absurd rfl h⟩
  by_cases h1 : i1 < 0
  · exact out (u162_0 (mp_126 ⟨_, rfl, fun h => absurd h (by decide), fun _ => u127_0 ⟨fun _ => ⟨_, rfl, fun _ => no, fun h => absurd rfl h⟩, fun h => absurd h1 h⟩⟩))
  · by_cases h2 : (2 : Int32) < i1
    · exact out (u162_0 (mp_126 ⟨_, rfl, fun h => absurd h (by decide), fun _ => u127_0 ⟨fun h => absurd h h1, fun _ => ⟨fun _ => ⟨_, rfl, fun _ => no, fun h => absurd rfl h⟩, fun h => absurd h2 h⟩⟩⟩))
    · have h3 : i1 ≤ 3 := by
        rw [Int32.lt_iff_toInt_lt] at h2
        rw [Int32.le_iff_toInt_le]
        rw [show (2 : Int32).toInt = 2 from rfl] at h2
        rw [show (3 : Int32).toInt = 3 from rfl]
        omega
      rcases mp_four h1 h3 with rfl | rfl | rfl | rfl
      · exact mp_cl 3000 mp_i0
      · exact mp_cl 3000 mp_i1
      · exact mp_cl 3000 mp_i2
      · exact absurd (by decide) h2
set_option maxRecDepth 100000 in
theorem mp_s1 : mp_chk 6000 53 163 [.int 1] = true := by decide +kernel
set_option maxRecDepth 100000 in
theorem mp_s2 : mp_chk 6000 53 163 [.int 2] = true := by decide +kernel
set_option maxRecDepth 100000 in
theorem mp_s3 : mp_chk 6000 53 163 [.int 3] = true := by decide +kernel
theorem mp_ob53 : mL_ob X (mp_I X) 0 mp_H 53 163 [.int i1] := by
  by_cases h1 : i1 < 1
  · refine w53_0 ⟨0, _, _, rfl, mp_h0, rfl, ⟨12, _, rfl, mp_h12⟩, mp_16 mp_h12 ⟨_, rfl, fun h => absurd rfl h, fun _ => ⟨fun _ => ?_, fun h => absurd h1 h⟩⟩⟩
    exact mp_fin0 rfl (u163_0 ⟨fun h => absurd h (by decide), fun _ => u127_0 ⟨fun _ => ⟨_, rfl, fun h => absurd rfl h, fun _ => rfl⟩, fun h => absurd h1 h⟩⟩)
  · by_cases h2 : i1 ≤ 3
    · have h0 : ¬ i1 < 0 := by
        rw [Int32.lt_iff_toInt_lt] at h1 ⊢
        rw [show (1 : Int32).toInt = 1 from rfl] at h1
        rw [show (0 : Int32).toInt = 0 from rfl]
        omega
      rcases mp_four h0 h2 with rfl | rfl | rfl | rfl
      · exact absurd (by decide) h1
      · exact mp_cl 6000 mp_s1
      · exact mp_cl 6000 mp_s2
      · exact mp_cl 6000 mp_s3
    · refine w53_0 ⟨0, _, _, rfl, mp_h0, rfl, ⟨12, _, rfl, mp_h12⟩, mp_16 mp_h12 ⟨_, rfl, fun h => absurd rfl h, fun _ => ⟨fun h => absurd h h1, fun _ => ⟨fun h => absurd h h2, fun _ => ?_⟩⟩⟩⟩
      exact mp_fin0 rfl (u163_0 ⟨fun h => absurd h (by decide), fun _ => u127_0 ⟨fun h => absurd h h1, fun _ => ⟨fun _ => ⟨_, rfl, fun h => absurd rfl h, fun _ => rfl⟩, fun h => absurd (Int32.not_lt.mp h) h2⟩⟩⟩)
theorem mp_ob98 : mL_ob X (mp_I X) 0 mp_H 98 198 [.int i1] := by
  have rf : mM X 999 198 0 (mm_L0 198 [.ref 86, .int i1]) [] mp_s (fun r _ => r = some (.int 0)) :=
    u198_0 ⟨fun _ => rfl, fun h => ⟨fun h2 => absurd h2 h, fun _ => rfl⟩⟩
  exact w98_0 ⟨0, _, _, rfl, mp_h0, rfl, ⟨12, _, rfl, mp_h12⟩, w99_0 ⟨⟨12, _, rfl, mp_h12⟩, mp_100 mp_h12 ⟨_, rfl, rfl, Or.inl ⟨rfl, ⟨_, rfl, fun h => absurd rfl h, fun _ => mp_fin0 rfl rf⟩⟩⟩⟩⟩
set_option maxRecDepth 100000 in
theorem mp_q0 : mp_chk 100 109 202 [] = true := by decide +kernel
set_option maxRecDepth 100000 in
theorem mp_q1 : mp_chk 100 110 203 [] = true := by decide +kernel
set_option maxRecDepth 100000 in
theorem mp_q2 : mp_chk 100 111 204 [] = true := by decide +kernel
theorem mp_ob112 : mL_ob X (mp_I X) 0 mp_H 112 205 [.int i1, .int i2] := by
  have rf : mM X 999 205 0 (mm_L0 205 [.ref 86, .int i1, .int i2]) [] mp_s (fun r _ => r = some (.int (-1))) :=
    u205_0 ⟨fun _ => rfl, fun h => ⟨fun _ => rfl, fun h2 => absurd (Int32.not_lt.mp h) h2⟩⟩
  exact w112_0 ⟨0, _, _, rfl, mp_h0, rfl, ⟨12, _, rfl, mp_h12⟩, mp_100 mp_h12 ⟨_, rfl, rfl, Or.inl ⟨rfl, mp_fin0 rfl rf⟩⟩⟩
theorem mp_ob113 : mL_ob X (mp_I X) 0 mp_H 113 206 [.int i1, .int i2, .int i3] := by
  have rf : mM X 999 206 0 (mm_L0 206 [.ref 86, .int i1, .int i2, .int i3]) [] mp_s (fun r _ => r = some (.int (-1))) :=
    u206_0 ⟨fun _ => rfl, fun h => ⟨fun _ => rfl, fun h2 => absurd (Int32.not_lt.mp h) h2⟩⟩
  exact w113_0 ⟨0, _, _, rfl, mp_h0, rfl, ⟨12, _, rfl, mp_h12⟩, mp_100 mp_h12 ⟨_, rfl, rfl, Or.inl ⟨rfl, mp_fin0 rfl rf⟩⟩⟩
theorem mp_207 {d : Nat} {Q : Option Value → mS → Prop} (H : Q (some (.int (-1))) mp_s) : mM X (d + 1) 207 0 (mm_L0 207 [.ref 86, .int i1]) [] mp_s Q :=
  u207_0 ⟨fun _ => H, fun h => absurd (show mp_s.1 23 = 0 from rfl) h⟩
theorem mp_ob115 : mL_ob X (mp_I X) 0 mp_H 115 207 [.int i1] :=
  w115_0 ⟨0, _, _, rfl, mp_h0, rfl, ⟨12, _, _, rfl, mp_h12, rfl, fun _ => mp_fin0 rfl (mp_207 rfl), fun h => absurd rfl h⟩⟩
theorem mp_ob117 : mL_ob X (mp_I X) 0 mp_H 117 208 [.int i1, .int i2] :=
  w117_0 ⟨0, _, _, rfl, mp_h0, rfl, ⟨12, _, rfl, mp_h12⟩, w118_0 ⟨⟨12, _, rfl, mp_h12⟩, mp_116 mp_h12 ⟨_, rfl, fun _ => ⟨_, rfl, rfl, Or.inl ⟨rfl, mp_fin0 rfl (u208_0 (mp_207 ⟨_, rfl, fun _ => rfl, fun h => absurd h (by decide)⟩))⟩⟩, fun h => absurd h (by decide)⟩⟩⟩
end MPO
theorem mp_law : mm_Law 5 := by
  refine mL_law 5 (by decide) mp_I (fun X => Or.inl ⟨rfl, rfl⟩) ?_ ?_ ?_ ?_
  · intro X t hp h
    rcases h with ⟨_, rfl⟩ | ⟨_, h⟩
    · exact ⟨_, mp_h0⟩
    · exact h.1
  · intro X t hp h
    rcases h with ⟨_, rfl⟩ | ⟨_, h⟩
    · exact (mp_okb_ok mp_o).2
    · exact h.2
  · intro X t hp h
    rcases h with ⟨_, rfl⟩ | ⟨_, h⟩
    · exact Or.inr ⟨by omega, mp_okb_ok mp_o⟩
    · exact Or.inr ⟨by omega, h⟩
  · intro X t hp y1 y2 y3 y4 hX ht h
    obtain rfl : t = 0 := by omega
    rcases h with ⟨_, rfl⟩ | ⟨h, _⟩
    · exact ⟨mp_ob12, mp_ob15, mp_ob18, mp_ob20, mp_ob22, mp_ob26, mp_ob27, mp_ob41, mp_ob50, mp_ob51, mp_ob52, mp_ob53, mp_ob98, mp_cl 100 mp_q0, mp_cl 100 mp_q1, mp_cl 100 mp_q2, mp_ob112, mp_ob113, mp_ob115, mp_ob117⟩
    · exact absurd h (by decide)
