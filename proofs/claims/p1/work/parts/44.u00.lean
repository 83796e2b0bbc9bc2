-- StepRunnerModel.empty, from 0
set_option maxRecDepth 10000 in
theorem u120_0 {X : List Int32} {d : Nat} {i1 : Int32} {σ : mS} {Q : Option Value → mS → Prop} (H : mM X d 121 0 (mm_L0 121 [(.ref 86), .int i1]) [] σ (m0_K (fun σ1 => mM X d 122 0 (mm_L0 122 [(.ref 86), .int i1, .int (0 : Int32), .int (0 : Int32), .int (0 : Int32)]) [] σ1 (m0_K (fun σ2 => Q none σ2))))) : mM X (d + 1) 120 0 (mm_L0 120 [(.ref 86), .int i1]) [] σ Q := by
  intro hp R
  have F : mF hp hp := mF.rf
  show mm_R X (d + 1) 120 0 [some ((.ref 86)), some (.int i1)] [] hp (mQ hp Q)
  refine mm_R.cV (pc' := 2) (L' := [some ((.ref 86)), some (.int i1)]) (st1 := [.int i1, (.ref 86)]) (as := [.int i1]) (rest := []) 2 rfl rfl (mw_sp rfl rfl (Nat.le_of_ble_eq_true rfl) (mw_ac rfl (mw_ac rfl mw_an)) mw_an) rfl rfl (m_rc R rfl) ((H _ R).mono (fun o hp1 H => ?_))
  obtain ⟨σ1, R, F1, rfl, H⟩ := H
  replace F := F.tr F1
  refine mm_R.cV (pc' := 10) (L' := [some ((.ref 86)), some (.int i1)]) (st1 := [.int (0 : Int32), .int (0 : Int32), .int (0 : Int32), .int i1, (.ref 86)]) (as := [.int i1, .int (0 : Int32), .int (0 : Int32), .int (0 : Int32)]) (rest := []) 5 rfl rfl (mw_sp rfl rfl (Nat.le_of_ble_eq_true rfl) (mw_ac rfl (mw_ac rfl (mw_ac rfl (mw_ac rfl (mw_ac rfl mw_an))))) mw_an) rfl rfl (m_rc R rfl) ((H _ R).mono (fun o hp1 H => ?_))
  obtain ⟨σ2, R, F1, rfl, H⟩ := H
  replace F := F.tr F1
  exact mm_R.rt (pc' := 13) (L' := [some ((.ref 86)), some (.int i1)]) (st1 := []) 0 rfl rfl rfl rfl rfl rfl ⟨_, R, F, H⟩
-- StepRunnerModel.clear, from 0
set_option maxRecDepth 10000 in
theorem u121_0 {X : List Int32} {d : Nat} {i1 : Int32} {σ : mS} {Q : Option Value → mS → Prop} (H : (0 ≤ i1 ∧ Int32.toNatClampNeg i1 < 142) ∧ ∀ σ2, σ2 = mPut σ 90 i1 (0 : Int32) → Q none σ2) : mM X (d + 1) 121 0 (mm_L0 121 [(.ref 86), .int i1]) [] σ Q := by
  intro hp R
  have F : mF hp hp := mF.rf
  show mm_R X (d + 1) 121 0 [some ((.ref 86)), some (.int i1)] [] hp (mQ hp Q)
  refine mm_R.wgv (pc' := 1) (L' := [some ((.ref 86)), some (.int i1)]) (r := []) 1 rfl rfl (m_gv R rfl ?_)
  obtain ⟨hi1, H⟩ := H
  refine mm_R.wsi (pc' := 6) (L' := [some ((.ref 86)), some (.int i1)]) (r := []) (t := 1000) (ty := .int) 2 rfl rfl rfl rfl (m_si (i := i1) (v := (0 : Int32)) R F (n := 142) (by decide) hi1 rfl (fun hp R F => ?_))
  obtain ⟨σ2, es⟩ : ∃ z, z = mPut σ 90 i1 (0 : Int32) := ⟨_, rfl⟩
  rw [← es] at R
  replace H := H σ2 es
  exact mm_R.rt (pc' := 7) (L' := [some ((.ref 86)), some (.int i1)]) (st1 := []) 0 rfl rfl rfl rfl rfl rfl ⟨_, R, F, H⟩
-- StepRunnerModel.add, from 0
set_option maxRecDepth 10000 in
theorem u122_0 {X : List Int32} {d : Nat} {i1 : Int32} {i2 : Int32} {i3 : Int32} {i4 : Int32} {σ : mS} {Q : Option Value → mS → Prop} (H : mM X d 123 0 (mm_L0 123 [.int i1]) [] σ (mi_K (fun x2 σ1 => (0 ≤ i1 ∧ Int32.toNatClampNeg i1 < 142) ∧ (0 ≤ (x2 + (mGet σ1 90 i1)) ∧ Int32.toNatClampNeg (x2 + (mGet σ1 90 i1)) < 9856) ∧ ∀ σ5, σ5 = mPuL σ1 89 (x2 + (mGet σ1 90 i1)) ((((Int32.toInt64 i4) <<< (Int32.toInt64 (32 : Int32) &&& 63)) ||| (Int32.toInt64 i2)) ||| (Int32.toInt64 (i3 <<< ((2 : Int32) &&& 31)))) → (0 ≤ i1 ∧ Int32.toNatClampNeg i1 < 142) ∧ (0 ≤ i1 ∧ Int32.toNatClampNeg i1 < 142) ∧ ∀ σ8, σ8 = mPut σ5 90 i1 ((mGet σ5 90 i1) + (1 : Int32)) → Q none σ8))) : mM X (d + 1) 122 0 (mm_L0 122 [(.ref 86), .int i1, .int i2, .int i3, .int i4]) [] σ Q := by
  intro hp R
  have F : mF hp hp := mF.rf
  show mm_R X (d + 1) 122 0 [some ((.ref 86)), some (.int i1), some (.int i2), some (.int i3), some (.int i4)] [] hp (mQ hp Q)
  refine mm_R.wgv (pc' := 1) (L' := [some ((.ref 86)), some (.int i1), some (.int i2), some (.int i3), some (.int i4)]) (r := []) 1 rfl rfl (m_gv R rfl ?_)
  refine mm_R.cS (pc' := 5) (L' := [some ((.ref 86)), some (.int i1), some (.int i2), some (.int i3), some (.int i4)]) (st1 := [.int i1, (.ref 89)]) (as := [.int i1]) (rest := [(.ref 89)]) 1 rfl rfl (mw_sp rfl rfl (Nat.le_of_ble_eq_true rfl) (mw_ac rfl mw_an) (mw_ac rfl mw_an)) rfl rfl ((H _ R).mono (fun o hp1 H => ?_))
  obtain ⟨σ1, R, F1, x2, rfl, H⟩ := H
  replace F := F.tr F1
  refine mm_R.wgv (pc' := 9) (L' := [some ((.ref 86)), some (.int i1), some (.int i2), some (.int i3), some (.int i4)]) (r := [.int x2, (.ref 89)]) 1 rfl rfl (m_gv R rfl ?_)
  obtain ⟨hi3, H⟩ := H
  refine mm_R.wai (pc' := 13) (L' := [some ((.ref 86)), some (.int i1), some (.int i2), some (.int i3), some (.int i4)]) (r := [.int x2, (.ref 89)]) (t := 1000) 1 rfl rfl rfl rfl (m_ai (i := i1) R (n := 142) (by decide) hi3 ?_)
  obtain ⟨hi4, H⟩ := H
  refine mm_R.wsl (pc' := 29) (L' := [some ((.ref 86)), some (.int i1), some (.int i2), some (.int i3), some (.int i4)]) (r := []) 13 rfl rfl (m_sl (i := (x2 + (mGet σ1 90 i1))) (v := ((((Int32.toInt64 i4) <<< (Int32.toInt64 (32 : Int32) &&& 63)) ||| (Int32.toInt64 i2)) ||| (Int32.toInt64 (i3 <<< ((2 : Int32) &&& 31))))) R F (n := 9856) (by decide) hi4 (fun hp R F => ?_))
  obtain ⟨σ5, es⟩ : ∃ z, z = mPuL σ1 89 (x2 + (mGet σ1 90 i1)) ((((Int32.toInt64 i4) <<< (Int32.toInt64 (32 : Int32) &&& 63)) ||| (Int32.toInt64 i2)) ||| (Int32.toInt64 (i3 <<< ((2 : Int32) &&& 31)))) := ⟨_, rfl⟩
  rw [← es] at R
  replace H := H σ5 es
  refine mm_R.wgv (pc' := 31) (L' := [some ((.ref 86)), some (.int i1), some (.int i2), some (.int i3), some (.int i4)]) (r := []) 1 rfl rfl (m_gv R rfl ?_)
  obtain ⟨hi6, H⟩ := H
  refine mm_R.wai (pc' := 36) (L' := [some ((.ref 86)), some (.int i1), some (.int i2), some (.int i3), some (.int i4)]) (r := [.int i1, (.ref 90)]) (t := 1000) 2 rfl rfl rfl rfl (m_ai (i := i1) R (n := 142) (by decide) hi6 ?_)
  obtain ⟨hi7, H⟩ := H
  refine mm_R.wsi (pc' := 39) (L' := [some ((.ref 86)), some (.int i1), some (.int i2), some (.int i3), some (.int i4)]) (r := []) (t := 1000) (ty := .int) 2 rfl rfl rfl rfl (m_si (i := i1) (v := ((mGet σ5 90 i1) + (1 : Int32))) R F (n := 142) (by decide) hi7 rfl (fun hp R F => ?_))
  obtain ⟨σ8, es⟩ : ∃ z, z = mPut σ5 90 i1 ((mGet σ5 90 i1) + (1 : Int32)) := ⟨_, rfl⟩
  rw [← es] at R
  replace H := H σ8 es
  exact mm_R.rt (pc' := 40) (L' := [some ((.ref 86)), some (.int i1), some (.int i2), some (.int i3), some (.int i4)]) (st1 := []) 0 rfl rfl rfl rfl rfl rfl ⟨_, R, F, H⟩
-- StepRunnerModel.base, from 0
set_option maxRecDepth 10000 in
theorem u123_0 {X : List Int32} {d : Nat} {i0 : Int32} {σ : mS} {Q : Option Value → mS → Prop} (H : (((27 : Int32) ≤ i0 → (((123 : Int32) ≤ i0 → (((129 : Int32) ≤ i0 → Q (some (.int ((2784 : Int32) + ((544 : Int32) * (i0 - (129 : Int32)))))) σ) ∧ (¬ (129 : Int32) ≤ i0 → Q (some (.int ((1728 : Int32) + ((176 : Int32) * (i0 - (123 : Int32)))))) σ))) ∧ (¬ (123 : Int32) ≤ i0 → Q (some (.int ((864 : Int32) + ((9 : Int32) * (i0 - (27 : Int32)))))) σ))) ∧ (¬ (27 : Int32) ≤ i0 → Q (some (.int ((32 : Int32) * i0))) σ))) : mM X (d + 1) 123 0 (mm_L0 123 [.int i0]) [] σ Q := by
  intro hp R
  have F : mF hp hp := mF.rf
  show mm_R X (d + 1) 123 0 [some (.int i0)] [] hp (mQ hp Q)
  refine mm_R.br (L' := [some (.int i0)]) (st' := []) (t := 11) (u := 6) (b := mm_cc .ge i0 (27 : Int32)) 3 rfl (fun c => ?_) (fun c => ?_)
  · replace H := H.1 (of_decide_eq_true c)
    refine mm_R.br (L' := [some (.int i0)]) (st' := []) (t := 29) (u := 17) (b := mm_cc .ge i0 (123 : Int32)) 3 rfl (fun c => ?_) (fun c => ?_)
    · replace H := H.1 (of_decide_eq_true c)
      refine mm_R.br (L' := [some (.int i0)]) (st' := []) (t := 51) (u := 36) (b := mm_cc .ge i0 (129 : Int32)) 3 rfl (fun c => ?_) (fun c => ?_)
      · replace H := H.1 (of_decide_eq_true c)
        exact mm_R.rt (pc' := 64) (L' := [some (.int i0)]) (st1 := [.int ((2784 : Int32) + ((544 : Int32) * (i0 - (129 : Int32))))]) 7 rfl rfl rfl rfl rfl rfl ⟨_, R, F, H⟩
      · replace H := H.2 (of_decide_eq_false c)
        exact mm_R.rt (pc' := 64) (L' := [some (.int i0)]) (st1 := [.int ((1728 : Int32) + ((176 : Int32) * (i0 - (123 : Int32))))]) 8 rfl rfl rfl rfl rfl rfl ⟨_, R, F, H⟩
    · replace H := H.2 (of_decide_eq_false c)
      exact mm_R.rt (pc' := 28) (L' := [some (.int i0)]) (st1 := [.int ((864 : Int32) + ((9 : Int32) * (i0 - (27 : Int32))))]) 7 rfl rfl rfl rfl rfl rfl ⟨_, R, F, H⟩
  · replace H := H.2 (of_decide_eq_false c)
    exact mm_R.rt (pc' := 10) (L' := [some (.int i0)]) (st1 := [.int ((32 : Int32) * i0)]) 3 rfl rfl rfl rfl rfl rfl ⟨_, R, F, H⟩
-- StepRunnerModel.write, from 0
set_option maxRecDepth 10000 in
theorem u124_0 {X : List Int32} {d : Nat} {i1 : Int32} {σ : mS} {Q : Option Value → mS → Prop} (H : ((i1 < (32 : Int32) → Q (some (.int (0 : Int32))) σ) ∧ (¬ i1 < (32 : Int32) → (((126 : Int32) < i1 → Q (some (.int (0 : Int32))) σ) ∧ (¬ (126 : Int32) < i1 → (((σ.1 3) < (60 : Int32) → (0 ≤ (σ.1 3) ∧ Int32.toNatClampNeg (σ.1 3) < 60) ∧ (0 ≤ i1 ∧ i1 ≤ 65535) ∧ ∀ σ2, σ2 = mPut σ 88 (σ.1 3) i1 → ∀ σ3, σ3 = mSet σ2 3 ((σ2.1 3) + (1 : Int32)) → Q (some (.int (1 : Int32))) σ3) ∧ (¬ (σ.1 3) < (60 : Int32) → Q (some (.int (0 : Int32))) σ))))))) : mM X (d + 1) 124 0 (mm_L0 124 [(.ref 86), .int i1]) [] σ Q := by
  intro hp R
  have F : mF hp hp := mF.rf
  show mm_R X (d + 1) 124 0 [some ((.ref 86)), some (.int i1)] [] hp (mQ hp Q)
  refine mm_R.br (L' := [some ((.ref 86)), some (.int i1)]) (st' := []) (t := 21) (u := 6) (b := mm_cc .lt i1 (32 : Int32)) 3 rfl (fun c => ?_) (fun c => ?_)
  · replace H := H.1 (of_decide_eq_true c)
    exact mm_R.rt (pc' := 22) (L' := [some ((.ref 86)), some (.int i1)]) (st1 := [.int (0 : Int32)]) 1 rfl rfl rfl rfl rfl rfl ⟨_, R, F, H⟩
  · replace H := H.2 (of_decide_eq_false c)
    refine mm_R.br (L' := [some ((.ref 86)), some (.int i1)]) (st' := []) (t := 21) (u := 12) (b := mm_cc .gt i1 (126 : Int32)) 3 rfl (fun c => ?_) (fun c => ?_)
    · replace H := H.1 (of_decide_eq_true c)
      exact mm_R.rt (pc' := 22) (L' := [some ((.ref 86)), some (.int i1)]) (st1 := [.int (0 : Int32)]) 1 rfl rfl rfl rfl rfl rfl ⟨_, R, F, H⟩
    · replace H := H.2 (of_decide_eq_false c)
      refine mm_R.wgi (pc' := 13) (L' := [some ((.ref 86)), some (.int i1)]) (r := []) 1 rfl rfl (m_gi R rfl ?_)
      refine mm_R.br (L' := [some ((.ref 86)), some (.int i1)]) (st' := []) (t := 23) (u := 21) (b := mm_cc .lt (σ.1 3) (60 : Int32)) 2 rfl (fun c => ?_) (fun c => ?_)
      · replace H := H.1 (of_decide_eq_true c)
        refine mm_R.wgv (pc' := 24) (L' := [some ((.ref 86)), some (.int i1)]) (r := []) 1 rfl rfl (m_gv R rfl ?_)
        refine mm_R.wgi (pc' := 28) (L' := [some ((.ref 86)), some (.int i1)]) (r := [(.ref 88)]) 1 rfl rfl (m_gi R rfl ?_)
        obtain ⟨hi1, H⟩ := H
        obtain ⟨hf4, H⟩ := H
        refine mm_R.wsi (pc' := 32) (L' := [some ((.ref 86)), some (.int i1)]) (r := []) (t := 1001) (ty := .char) 1 rfl rfl rfl rfl (m_si (i := (σ.1 3)) (v := i1) R F (n := 60) (by decide) hi1 (m_fc hf4) (fun hp R F => ?_))
        obtain ⟨σ2, es⟩ : ∃ z, z = mPut σ 88 (σ.1 3) i1 := ⟨_, rfl⟩
        rw [← es] at R
        replace H := H σ2 es
        refine mm_R.wgi (pc' := 35) (L' := [some ((.ref 86)), some (.int i1)]) (r := [(.ref 86)]) 2 rfl rfl (m_gi R rfl ?_)
        refine mm_R.wpt (pc' := 40) (L' := [some ((.ref 86)), some (.int i1)]) (r := []) 2 rfl rfl (m_pt (v := ((σ2.1 3) + (1 : Int32))) R F rfl rfl rfl (fun hp R F => ?_))
        obtain ⟨σ3, es⟩ : ∃ z, z = mSet σ2 3 ((σ2.1 3) + (1 : Int32)) := ⟨_, rfl⟩
        rw [← es] at R
        replace H := H σ3 es
        exact mm_R.rt (pc' := 44) (L' := [some ((.ref 86)), some (.int i1)]) (st1 := [.int (1 : Int32)]) 1 rfl rfl rfl rfl rfl rfl ⟨_, R, F, H⟩
      · replace H := H.2 (of_decide_eq_false c)
        exact mm_R.rt (pc' := 22) (L' := [some ((.ref 86)), some (.int i1)]) (st1 := [.int (0 : Int32)]) 1 rfl rfl rfl rfl rfl rfl ⟨_, R, F, H⟩
-- StepRunnerModel.tool, from 0
set_option maxRecDepth 10000 in
theorem u125_0 {X : List Int32} {d : Nat} {i1 : Int32} {σ : mS} {Q : Option Value → mS → Prop} (H : mM X d 126 0 (mm_L0 126 [(.ref 86)]) [] σ (mi_K (fun x2 σ1 => ((x2 = (0 : Int32) → Q (some (.int (-1 : Int32))) σ1) ∧ (¬ x2 = (0 : Int32) → (((σ1.1 6) = (4 : Int32) → Q (some (.int (-1 : Int32))) σ1) ∧ (¬ (σ1.1 6) = (4 : Int32) → mM X d 127 0 (mm_L0 127 [.int i1, .int (0 : Int32), .int (3 : Int32)]) [] σ1 (mi_K (fun x4 σ3 => ((¬ x4 = (0 : Int32) → (0 ≤ (σ3.1 6) ∧ Int32.toNatClampNeg (σ3.1 6) < 4) ∧ ∀ σ6, σ6 = mPut σ3 91 (σ3.1 6) i1 → ∀ σ7, σ7 = mSet σ6 6 ((σ6.1 6) + (1 : Int32)) → Q (some (.int ((σ7.1 6) - (1 : Int32)))) σ7) ∧ (x4 = (0 : Int32) → Q (some (.int (-1 : Int32))) σ3))))))))))) : mM X (d + 1) 125 0 (mm_L0 125 [(.ref 86), .int i1]) [] σ Q := by
  intro hp R
  have F : mF hp hp := mF.rf
  show mm_R X (d + 1) 125 0 [some ((.ref 86)), some (.int i1)] [] hp (mQ hp Q)
  refine mm_R.cV (pc' := 1) (L' := [some ((.ref 86)), some (.int i1)]) (st1 := [(.ref 86)]) (as := []) (rest := []) 1 rfl rfl (mw_sp rfl rfl (Nat.le_of_ble_eq_true rfl) (mw_ac rfl mw_an) mw_an) rfl rfl (m_rc R rfl) ((H _ R).mono (fun o hp1 H => ?_))
  obtain ⟨σ1, R, F1, x2, rfl, H⟩ := H
  replace F := F.tr F1
  refine mm_R.br (L' := [some ((.ref 86)), some (.int i1)]) (st' := []) (t := 24) (u := 7) (b := mm_cc .eq x2 (0 : Int32)) 1 rfl (fun c => ?_) (fun c => ?_)
  · replace H := H.1 (of_decide_eq_true c)
    exact mm_R.rt (pc' := 25) (L' := [some ((.ref 86)), some (.int i1)]) (st1 := [.int (-1 : Int32)]) 1 rfl rfl rfl rfl rfl rfl ⟨_, R, F, H⟩
  · replace H := H.2 (of_decide_eq_false c)
    refine mm_R.wgi (pc' := 8) (L' := [some ((.ref 86)), some (.int i1)]) (r := []) 1 rfl rfl (m_gi R rfl ?_)
    refine mm_R.br (L' := [some ((.ref 86)), some (.int i1)]) (st' := []) (t := 24) (u := 15) (b := mm_cc .eq (σ1.1 6) (4 : Int32)) 2 rfl (fun c => ?_) (fun c => ?_)
    · replace H := H.1 (of_decide_eq_true c)
      exact mm_R.rt (pc' := 25) (L' := [some ((.ref 86)), some (.int i1)]) (st1 := [.int (-1 : Int32)]) 1 rfl rfl rfl rfl rfl rfl ⟨_, R, F, H⟩
    · replace H := H.2 (of_decide_eq_false c)
      refine mm_R.cS (pc' := 18) (L' := [some ((.ref 86)), some (.int i1)]) (st1 := [.int (3 : Int32), .int (0 : Int32), .int i1]) (as := [.int i1, .int (0 : Int32), .int (3 : Int32)]) (rest := []) 3 rfl rfl (mw_sp rfl rfl (Nat.le_of_ble_eq_true rfl) (mw_ac rfl (mw_ac rfl (mw_ac rfl mw_an))) mw_an) rfl rfl ((H _ R).mono (fun o hp1 H => ?_))
      obtain ⟨σ3, R, F1, x4, rfl, H⟩ := H
      replace F := F.tr F1
      refine mm_R.br (L' := [some ((.ref 86)), some (.int i1)]) (st' := []) (t := 26) (u := 24) (b := mm_cc .ne x4 (0 : Int32)) 1 rfl (fun c => ?_) (fun c => ?_)
      · replace H := H.1 (of_decide_eq_true c)
        refine mm_R.wgv (pc' := 27) (L' := [some ((.ref 86)), some (.int i1)]) (r := []) 1 rfl rfl (m_gv R rfl ?_)
        refine mm_R.wgi (pc' := 31) (L' := [some ((.ref 86)), some (.int i1)]) (r := [(.ref 91)]) 1 rfl rfl (m_gi R rfl ?_)
        obtain ⟨hi5, H⟩ := H
        refine mm_R.wsi (pc' := 35) (L' := [some ((.ref 86)), some (.int i1)]) (r := []) (t := 1000) (ty := .int) 1 rfl rfl rfl rfl (m_si (i := (σ3.1 6)) (v := i1) R F (n := 4) (by decide) hi5 rfl (fun hp R F => ?_))
        obtain ⟨σ6, es⟩ : ∃ z, z = mPut σ3 91 (σ3.1 6) i1 := ⟨_, rfl⟩
        rw [← es] at R
        replace H := H σ6 es
        refine mm_R.wgi (pc' := 38) (L' := [some ((.ref 86)), some (.int i1)]) (r := [(.ref 86)]) 2 rfl rfl (m_gi R rfl ?_)
        refine mm_R.wpt (pc' := 43) (L' := [some ((.ref 86)), some (.int i1)]) (r := []) 2 rfl rfl (m_pt (v := ((σ6.1 6) + (1 : Int32))) R F rfl rfl rfl (fun hp R F => ?_))
        obtain ⟨σ7, es⟩ : ∃ z, z = mSet σ6 6 ((σ6.1 6) + (1 : Int32)) := ⟨_, rfl⟩
        rw [← es] at R
        replace H := H σ7 es
        refine mm_R.wgi (pc' := 47) (L' := [some ((.ref 86)), some (.int i1)]) (r := []) 1 rfl rfl (m_gi R rfl ?_)
        exact mm_R.rt (pc' := 52) (L' := [some ((.ref 86)), some (.int i1)]) (st1 := [.int ((σ7.1 6) - (1 : Int32))]) 2 rfl rfl rfl rfl rfl rfl ⟨_, R, F, H⟩
      · replace H := H.2 (Decidable.of_not_not (of_decide_eq_false c))
        exact mm_R.rt (pc' := 25) (L' := [some ((.ref 86)), some (.int i1)]) (st1 := [.int (-1 : Int32)]) 1 rfl rfl rfl rfl rfl rfl ⟨_, R, F, H⟩
-- StepRunnerModel.builds, from 0
set_option maxRecDepth 10000 in
theorem u126_0 {X : List Int32} {d : Nat}  {σ : mS} {Q : Option Value → mS → Prop} (H : (((σ.1 23) = (1 : Int32) → Q (some (.int (0 : Int32))) σ) ∧ (¬ (σ.1 23) = (1 : Int32) → Q (some (.int (1 : Int32))) σ))) : mM X (d + 1) 126 0 (mm_L0 126 [(.ref 86)]) [] σ Q := by
  intro hp R
  have F : mF hp hp := mF.rf
  show mm_R X (d + 1) 126 0 [some ((.ref 86))] [] hp (mQ hp Q)
  refine mm_R.wgi (pc' := 1) (L' := [some ((.ref 86))]) (r := []) 1 rfl rfl (m_gi R rfl ?_)
  refine mm_R.br (L' := [some ((.ref 86))]) (st' := []) (t := 12) (u := 8) (b := mm_cc .eq (σ.1 23) (1 : Int32)) 2 rfl (fun c => ?_) (fun c => ?_)
  · replace H := H.1 (of_decide_eq_true c)
    exact mm_R.rt (pc' := 13) (L' := [some ((.ref 86))]) (st1 := [.int (0 : Int32)]) 1 rfl rfl rfl rfl rfl rfl ⟨_, R, F, H⟩
  · replace H := H.2 (of_decide_eq_false c)
    exact mm_R.rt (pc' := 13) (L' := [some ((.ref 86))]) (st1 := [.int (1 : Int32)]) 2 rfl rfl rfl rfl rfl rfl ⟨_, R, F, H⟩
-- StepRunnerModel.in, from 0
set_option maxRecDepth 10000 in
theorem u127_0 {X : List Int32} {d : Nat} {i0 : Int32} {i1 : Int32} {i2 : Int32} {σ : mS} {Q : Option Value → mS → Prop} (H : ((i0 < i1 → Q (some (.int (0 : Int32))) σ) ∧ (¬ i0 < i1 → ((i2 < i0 → Q (some (.int (0 : Int32))) σ) ∧ (¬ i2 < i0 → Q (some (.int (1 : Int32))) σ))))) : mM X (d + 1) 127 0 (mm_L0 127 [.int i0, .int i1, .int i2]) [] σ Q := by
  intro hp R
  have F : mF hp hp := mF.rf
  show mm_R X (d + 1) 127 0 [some (.int i0), some (.int i1), some (.int i2)] [] hp (mQ hp Q)
  refine mm_R.br (L' := [some (.int i0), some (.int i1), some (.int i2)]) (st' := []) (t := 14) (u := 5) (b := mm_cc .lt i0 i1) 3 rfl (fun c => ?_) (fun c => ?_)
  · replace H := H.1 (of_decide_eq_true c)
    exact mm_R.rt (pc' := 15) (L' := [some (.int i0), some (.int i1), some (.int i2)]) (st1 := [.int (0 : Int32)]) 1 rfl rfl rfl rfl rfl rfl ⟨_, R, F, H⟩
  · replace H := H.2 (of_decide_eq_false c)
    refine mm_R.br (L' := [some (.int i0), some (.int i1), some (.int i2)]) (st' := []) (t := 14) (u := 10) (b := mm_cc .gt i0 i2) 3 rfl (fun c => ?_) (fun c => ?_)
    · replace H := H.1 (of_decide_eq_true c)
      exact mm_R.rt (pc' := 15) (L' := [some (.int i0), some (.int i1), some (.int i2)]) (st1 := [.int (0 : Int32)]) 1 rfl rfl rfl rfl rfl rfl ⟨_, R, F, H⟩
    · replace H := H.2 (of_decide_eq_false c)
      exact mm_R.rt (pc' := 15) (L' := [some (.int i0), some (.int i1), some (.int i2)]) (st1 := [.int (1 : Int32)]) 2 rfl rfl rfl rfl rfl rfl ⟨_, R, F, H⟩
-- StepRunnerModel.port, from 0
set_option maxRecDepth 10000 in
theorem u128_0 {X : List Int32} {d : Nat} {i1 : Int32} {i2 : Int32} {i3 : Int32} {i4 : Int32} {σ : mS} {Q : Option Value → mS → Prop} (H : ((i3 = (0 : Int32) → mM X (d + 1) 128 21 [some ((.ref 86)), some (.int i1), some (.int i2), some (.int i3), some (.int i4), none, none] [.int (1 : Int32)] σ Q) ∧ (¬ i3 = (0 : Int32) → ((i3 < (97 : Int32) → mM X (d + 1) 128 21 [some ((.ref 86)), some (.int i1), some (.int i2), some (.int i3), some (.int i4), none, none] [.int (0 : Int32)] σ Q) ∧ (¬ i3 < (97 : Int32) → (((122 : Int32) < i3 → mM X (d + 1) 128 21 [some ((.ref 86)), some (.int i1), some (.int i2), some (.int i3), some (.int i4), none, none] [.int (0 : Int32)] σ Q) ∧ (¬ (122 : Int32) < i3 → mM X (d + 1) 128 21 [some ((.ref 86)), some (.int i1), some (.int i2), some (.int i3), some (.int i4), none, none] [.int (1 : Int32)] σ Q))))))) : mM X (d + 1) 128 0 (mm_L0 128 [(.ref 86), .int i1, .int i2, .int i3, .int i4]) [] σ Q := by
  intro hp R
  have F : mF hp hp := mF.rf
  show mm_R X (d + 1) 128 0 [some ((.ref 86)), some (.int i1), some (.int i2), some (.int i3), some (.int i4), none, none] [] hp (mQ hp Q)
  refine mm_R.br (L' := [some ((.ref 86)), some (.int i1), some (.int i2), some (.int i3), some (.int i4), none, none]) (st' := []) (t := 16) (u := 4) (b := mm_cc .eq i3 (0 : Int32)) 2 rfl (fun c => ?_) (fun c => ?_)
  · replace H := H.1 (of_decide_eq_true c)
    exact mm_R.pn (pc' := 21) (L' := [some ((.ref 86)), some (.int i1), some (.int i2), some (.int i3), some (.int i4), none, none]) (st' := [.int (1 : Int32)]) 2 rfl (H.use R F)
  · replace H := H.2 (of_decide_eq_false c)
    refine mm_R.br (L' := [some ((.ref 86)), some (.int i1), some (.int i2), some (.int i3), some (.int i4), none, none]) (st' := []) (t := 20) (u := 10) (b := mm_cc .lt i3 (97 : Int32)) 3 rfl (fun c => ?_) (fun c => ?_)
    · replace H := H.1 (of_decide_eq_true c)
      exact mm_R.pn (pc' := 21) (L' := [some ((.ref 86)), some (.int i1), some (.int i2), some (.int i3), some (.int i4), none, none]) (st' := [.int (0 : Int32)]) 1 rfl (H.use R F)
    · replace H := H.2 (of_decide_eq_false c)
      refine mm_R.br (L' := [some ((.ref 86)), some (.int i1), some (.int i2), some (.int i3), some (.int i4), none, none]) (st' := []) (t := 20) (u := 16) (b := mm_cc .gt i3 (122 : Int32)) 3 rfl (fun c => ?_) (fun c => ?_)
      · replace H := H.1 (of_decide_eq_true c)
        exact mm_R.pn (pc' := 21) (L' := [some ((.ref 86)), some (.int i1), some (.int i2), some (.int i3), some (.int i4), none, none]) (st' := [.int (0 : Int32)]) 1 rfl (H.use R F)
      · replace H := H.2 (of_decide_eq_false c)
        exact mm_R.pn (pc' := 21) (L' := [some ((.ref 86)), some (.int i1), some (.int i2), some (.int i3), some (.int i4), none, none]) (st' := [.int (1 : Int32)]) 2 rfl (H.use R F)
-- StepRunnerModel.port, from 21
set_option maxRecDepth 10000 in
theorem u128_21 {X : List Int32} {d : Nat} {i1 : Int32} {i2 : Int32} {i3 : Int32} {i4 : Int32} {o5 : Option Value} {o6 : Option Value} {s0 : Int32} {σ : mS} {Q : Option Value → mS → Prop} (H : mM X d 126 0 (mm_L0 126 [(.ref 86)]) [] σ (mi_K (fun x2 σ1 => ((x2 = (0 : Int32) → Q (some (.int (-1 : Int32))) σ1) ∧ (¬ x2 = (0 : Int32) → ((i1 < (0 : Int32) → Q (some (.int (-1 : Int32))) σ1) ∧ (¬ i1 < (0 : Int32) → (((σ1.1 6) ≤ i1 → Q (some (.int (-1 : Int32))) σ1) ∧ (¬ (σ1.1 6) ≤ i1 → (0 ≤ i1 ∧ Int32.toNatClampNeg i1 < 4) ∧ (((mGet σ1 92 i1) = (4 : Int32) → Q (some (.int (-1 : Int32))) σ1) ∧ (¬ (mGet σ1 92 i1) = (4 : Int32) → mM X d 127 0 (mm_L0 127 [.int i2, .int (-9 : Int32), .int (9 : Int32)]) [] σ1 (mi_K (fun x5 σ4 => ((x5 = (0 : Int32) → Q (some (.int (-1 : Int32))) σ4) ∧ (¬ x5 = (0 : Int32) → ((s0 = (0 : Int32) → Q (some (.int (-1 : Int32))) σ4) ∧ (¬ s0 = (0 : Int32) → mM X d 127 0 (mm_L0 127 [.int i4, .int (0 : Int32), .int (4 : Int32)]) [] σ4 (mi_K (fun x7 σ6 => ((¬ x7 = (0 : Int32) → (0 ≤ i1 ∧ Int32.toNatClampNeg i1 < 4) ∧ (0 ≤ (((4 : Int32) * i1) + (mGet σ6 92 i1)) ∧ Int32.toNatClampNeg (((4 : Int32) * i1) + (mGet σ6 92 i1)) < 16) ∧ ∀ σ10, σ10 = mPut σ6 93 (((4 : Int32) * i1) + (mGet σ6 92 i1)) i2 → (0 ≤ (((4 : Int32) * i1) + (mGet σ6 92 i1)) ∧ Int32.toNatClampNeg (((4 : Int32) * i1) + (mGet σ6 92 i1)) < 16) ∧ ∀ σ12, σ12 = mPut σ10 94 (((4 : Int32) * i1) + (mGet σ6 92 i1)) i3 → (0 ≤ (((4 : Int32) * i1) + (mGet σ6 92 i1)) ∧ Int32.toNatClampNeg (((4 : Int32) * i1) + (mGet σ6 92 i1)) < 16) ∧ ∀ σ14, σ14 = mPut σ12 95 (((4 : Int32) * i1) + (mGet σ6 92 i1)) i4 → (0 ≤ i1 ∧ Int32.toNatClampNeg i1 < 4) ∧ (0 ≤ i1 ∧ Int32.toNatClampNeg i1 < 4) ∧ ∀ σ17, σ17 = mPut σ14 92 i1 ((mGet σ14 92 i1) + (1 : Int32)) → (0 ≤ i1 ∧ Int32.toNatClampNeg i1 < 4) ∧ Q (some (.int ((mGet σ17 92 i1) - (1 : Int32)))) σ17) ∧ (x7 = (0 : Int32) → Q (some (.int (-1 : Int32))) σ6))))))))))))))))))))) : mM X (d + 1) 128 21 [some ((.ref 86)), some (.int i1), some (.int i2), some (.int i3), some (.int i4), o5, o6] [.int s0] σ Q := by
  intro hp R
  have F : mF hp hp := mF.rf
  refine mm_R.cV (pc' := 24) (L' := [some ((.ref 86)), some (.int i1), some (.int i2), some (.int i3), some (.int i4), some (.int s0), o6]) (st1 := [(.ref 86)]) (as := []) (rest := []) 2 rfl rfl (mw_sp rfl rfl (Nat.le_of_ble_eq_true rfl) (mw_ac rfl mw_an) mw_an) rfl rfl (m_rc R rfl) ((H _ R).mono (fun o hp1 H => ?_))
  obtain ⟨σ1, R, F1, x2, rfl, H⟩ := H
  replace F := F.tr F1
  refine mm_R.br (L' := [some ((.ref 86)), some (.int i1), some (.int i2), some (.int i3), some (.int i4), some (.int s0), o6]) (st' := []) (t := 78) (u := 30) (b := mm_cc .eq x2 (0 : Int32)) 1 rfl (fun c => ?_) (fun c => ?_)
  · replace H := H.1 (of_decide_eq_true c)
    exact mm_R.rt (pc' := 79) (L' := [some ((.ref 86)), some (.int i1), some (.int i2), some (.int i3), some (.int i4), some (.int s0), o6]) (st1 := [.int (-1 : Int32)]) 1 rfl rfl rfl rfl rfl rfl ⟨_, R, F, H⟩
  · replace H := H.2 (of_decide_eq_false c)
    refine mm_R.br (L' := [some ((.ref 86)), some (.int i1), some (.int i2), some (.int i3), some (.int i4), some (.int s0), o6]) (st' := []) (t := 78) (u := 34) (b := mm_cc .lt i1 (0 : Int32)) 2 rfl (fun c => ?_) (fun c => ?_)
    · replace H := H.1 (of_decide_eq_true c)
      exact mm_R.rt (pc' := 79) (L' := [some ((.ref 86)), some (.int i1), some (.int i2), some (.int i3), some (.int i4), some (.int s0), o6]) (st1 := [.int (-1 : Int32)]) 1 rfl rfl rfl rfl rfl rfl ⟨_, R, F, H⟩
    · replace H := H.2 (of_decide_eq_false c)
      refine mm_R.wgi (pc' := 36) (L' := [some ((.ref 86)), some (.int i1), some (.int i2), some (.int i3), some (.int i4), some (.int s0), o6]) (r := [.int i1]) 2 rfl rfl (m_gi R rfl ?_)
      refine mm_R.br (L' := [some ((.ref 86)), some (.int i1), some (.int i2), some (.int i3), some (.int i4), some (.int s0), o6]) (st' := []) (t := 78) (u := 42) (b := mm_cc .ge i1 (σ1.1 6)) 1 rfl (fun c => ?_) (fun c => ?_)
      · replace H := H.1 (of_decide_eq_true c)
        exact mm_R.rt (pc' := 79) (L' := [some ((.ref 86)), some (.int i1), some (.int i2), some (.int i3), some (.int i4), some (.int s0), o6]) (st1 := [.int (-1 : Int32)]) 1 rfl rfl rfl rfl rfl rfl ⟨_, R, F, H⟩
      · replace H := H.2 (of_decide_eq_false c)
        refine mm_R.wgv (pc' := 43) (L' := [some ((.ref 86)), some (.int i1), some (.int i2), some (.int i3), some (.int i4), some (.int s0), o6]) (r := []) 1 rfl rfl (m_gv R rfl ?_)
        obtain ⟨hi3, H⟩ := H
        refine mm_R.wai (pc' := 47) (L' := [some ((.ref 86)), some (.int i1), some (.int i2), some (.int i3), some (.int i4), some (.int s0), o6]) (r := []) (t := 1000) 1 rfl rfl rfl rfl (m_ai (i := i1) R (n := 4) (by decide) hi3 ?_)
        refine mm_R.br (L' := [some ((.ref 86)), some (.int i1), some (.int i2), some (.int i3), some (.int i4), some (.int s0), o6]) (st' := []) (t := 78) (u := 52) (b := mm_cc .eq (mGet σ1 92 i1) (4 : Int32)) 2 rfl (fun c => ?_) (fun c => ?_)
        · replace H := H.1 (of_decide_eq_true c)
          exact mm_R.rt (pc' := 79) (L' := [some ((.ref 86)), some (.int i1), some (.int i2), some (.int i3), some (.int i4), some (.int s0), o6]) (st1 := [.int (-1 : Int32)]) 1 rfl rfl rfl rfl rfl rfl ⟨_, R, F, H⟩
        · replace H := H.2 (of_decide_eq_false c)
          refine mm_R.cS (pc' := 57) (L' := [some ((.ref 86)), some (.int i1), some (.int i2), some (.int i3), some (.int i4), some (.int s0), o6]) (st1 := [.int (9 : Int32), .int (-9 : Int32), .int i2]) (as := [.int i2, .int (-9 : Int32), .int (9 : Int32)]) (rest := []) 3 rfl rfl (mw_sp rfl rfl (Nat.le_of_ble_eq_true rfl) (mw_ac rfl (mw_ac rfl (mw_ac rfl mw_an))) mw_an) rfl rfl ((H _ R).mono (fun o hp1 H => ?_))
          obtain ⟨σ4, R, F1, x5, rfl, H⟩ := H
          replace F := F.tr F1
          refine mm_R.br (L' := [some ((.ref 86)), some (.int i1), some (.int i2), some (.int i3), some (.int i4), some (.int s0), o6]) (st' := []) (t := 78) (u := 63) (b := mm_cc .eq x5 (0 : Int32)) 1 rfl (fun c => ?_) (fun c => ?_)
          · replace H := H.1 (of_decide_eq_true c)
            exact mm_R.rt (pc' := 79) (L' := [some ((.ref 86)), some (.int i1), some (.int i2), some (.int i3), some (.int i4), some (.int s0), o6]) (st1 := [.int (-1 : Int32)]) 1 rfl rfl rfl rfl rfl rfl ⟨_, R, F, H⟩
          · replace H := H.2 (of_decide_eq_false c)
            refine mm_R.br (L' := [some ((.ref 86)), some (.int i1), some (.int i2), some (.int i3), some (.int i4), some (.int s0), o6]) (st' := []) (t := 78) (u := 68) (b := mm_cc .eq s0 (0 : Int32)) 2 rfl (fun c => ?_) (fun c => ?_)
            · replace H := H.1 (of_decide_eq_true c)
              exact mm_R.rt (pc' := 79) (L' := [some ((.ref 86)), some (.int i1), some (.int i2), some (.int i3), some (.int i4), some (.int s0), o6]) (st1 := [.int (-1 : Int32)]) 1 rfl rfl rfl rfl rfl rfl ⟨_, R, F, H⟩
            · replace H := H.2 (of_decide_eq_false c)
              refine mm_R.cS (pc' := 72) (L' := [some ((.ref 86)), some (.int i1), some (.int i2), some (.int i3), some (.int i4), some (.int s0), o6]) (st1 := [.int (4 : Int32), .int (0 : Int32), .int i4]) (as := [.int i4, .int (0 : Int32), .int (4 : Int32)]) (rest := []) 3 rfl rfl (mw_sp rfl rfl (Nat.le_of_ble_eq_true rfl) (mw_ac rfl (mw_ac rfl (mw_ac rfl mw_an))) mw_an) rfl rfl ((H _ R).mono (fun o hp1 H => ?_))
              obtain ⟨σ6, R, F1, x7, rfl, H⟩ := H
              replace F := F.tr F1
              refine mm_R.br (L' := [some ((.ref 86)), some (.int i1), some (.int i2), some (.int i3), some (.int i4), some (.int s0), o6]) (st' := []) (t := 80) (u := 78) (b := mm_cc .ne x7 (0 : Int32)) 1 rfl (fun c => ?_) (fun c => ?_)
              · replace H := H.1 (of_decide_eq_true c)
                refine mm_R.wgv (pc' := 84) (L' := [some ((.ref 86)), some (.int i1), some (.int i2), some (.int i3), some (.int i4), some (.int s0), o6]) (r := [.int ((4 : Int32) * i1)]) 4 rfl rfl (m_gv R rfl ?_)
                obtain ⟨hi8, H⟩ := H
                refine mm_R.wai (pc' := 88) (L' := [some ((.ref 86)), some (.int i1), some (.int i2), some (.int i3), some (.int i4), some (.int s0), o6]) (r := [.int ((4 : Int32) * i1)]) (t := 1000) 1 rfl rfl rfl rfl (m_ai (i := i1) R (n := 4) (by decide) hi8 ?_)
                refine mm_R.wgv (pc' := 93) (L' := [some ((.ref 86)), some (.int i1), some (.int i2), some (.int i3), some (.int i4), some (.int s0), some (.int (((4 : Int32) * i1) + (mGet σ6 92 i1)))]) (r := []) 3 rfl rfl (m_gv R rfl ?_)
                obtain ⟨hi9, H⟩ := H
                refine mm_R.wsi (pc' := 99) (L' := [some ((.ref 86)), some (.int i1), some (.int i2), some (.int i3), some (.int i4), some (.int s0), some (.int (((4 : Int32) * i1) + (mGet σ6 92 i1)))]) (r := []) (t := 1000) (ty := .int) 2 rfl rfl rfl rfl (m_si (i := (((4 : Int32) * i1) + (mGet σ6 92 i1))) (v := i2) R F (n := 16) (by decide) hi9 rfl (fun hp R F => ?_))
                obtain ⟨σ10, es⟩ : ∃ z, z = mPut σ6 93 (((4 : Int32) * i1) + (mGet σ6 92 i1)) i2 := ⟨_, rfl⟩
                rw [← es] at R
                replace H := H σ10 es
                refine mm_R.wgv (pc' := 101) (L' := [some ((.ref 86)), some (.int i1), some (.int i2), some (.int i3), some (.int i4), some (.int s0), some (.int (((4 : Int32) * i1) + (mGet σ6 92 i1)))]) (r := []) 1 rfl rfl (m_gv R rfl ?_)
                obtain ⟨hi11, H⟩ := H
                refine mm_R.wsi (pc' := 107) (L' := [some ((.ref 86)), some (.int i1), some (.int i2), some (.int i3), some (.int i4), some (.int s0), some (.int (((4 : Int32) * i1) + (mGet σ6 92 i1)))]) (r := []) (t := 1000) (ty := .int) 2 rfl rfl rfl rfl (m_si (i := (((4 : Int32) * i1) + (mGet σ6 92 i1))) (v := i3) R F (n := 16) (by decide) hi11 rfl (fun hp R F => ?_))
                obtain ⟨σ12, es⟩ : ∃ z, z = mPut σ10 94 (((4 : Int32) * i1) + (mGet σ6 92 i1)) i3 := ⟨_, rfl⟩
                rw [← es] at R
                replace H := H σ12 es
                refine mm_R.wgv (pc' := 109) (L' := [some ((.ref 86)), some (.int i1), some (.int i2), some (.int i3), some (.int i4), some (.int s0), some (.int (((4 : Int32) * i1) + (mGet σ6 92 i1)))]) (r := []) 1 rfl rfl (m_gv R rfl ?_)
                obtain ⟨hi13, H⟩ := H
                refine mm_R.wsi (pc' := 116) (L' := [some ((.ref 86)), some (.int i1), some (.int i2), some (.int i3), some (.int i4), some (.int s0), some (.int (((4 : Int32) * i1) + (mGet σ6 92 i1)))]) (r := []) (t := 1000) (ty := .int) 2 rfl rfl rfl rfl (m_si (i := (((4 : Int32) * i1) + (mGet σ6 92 i1))) (v := i4) R F (n := 16) (by decide) hi13 rfl (fun hp R F => ?_))
                obtain ⟨σ14, es⟩ : ∃ z, z = mPut σ12 95 (((4 : Int32) * i1) + (mGet σ6 92 i1)) i4 := ⟨_, rfl⟩
                rw [← es] at R
                replace H := H σ14 es
                refine mm_R.wgv (pc' := 118) (L' := [some ((.ref 86)), some (.int i1), some (.int i2), some (.int i3), some (.int i4), some (.int s0), some (.int (((4 : Int32) * i1) + (mGet σ6 92 i1)))]) (r := []) 1 rfl rfl (m_gv R rfl ?_)
                obtain ⟨hi15, H⟩ := H
                refine mm_R.wai (pc' := 123) (L' := [some ((.ref 86)), some (.int i1), some (.int i2), some (.int i3), some (.int i4), some (.int s0), some (.int (((4 : Int32) * i1) + (mGet σ6 92 i1)))]) (r := [.int i1, (.ref 92)]) (t := 1000) 2 rfl rfl rfl rfl (m_ai (i := i1) R (n := 4) (by decide) hi15 ?_)
                obtain ⟨hi16, H⟩ := H
                refine mm_R.wsi (pc' := 126) (L' := [some ((.ref 86)), some (.int i1), some (.int i2), some (.int i3), some (.int i4), some (.int s0), some (.int (((4 : Int32) * i1) + (mGet σ6 92 i1)))]) (r := []) (t := 1000) (ty := .int) 2 rfl rfl rfl rfl (m_si (i := i1) (v := ((mGet σ14 92 i1) + (1 : Int32))) R F (n := 4) (by decide) hi16 rfl (fun hp R F => ?_))
                obtain ⟨σ17, es⟩ : ∃ z, z = mPut σ14 92 i1 ((mGet σ14 92 i1) + (1 : Int32)) := ⟨_, rfl⟩
                rw [← es] at R
                replace H := H σ17 es
                refine mm_R.wgv (pc' := 128) (L' := [some ((.ref 86)), some (.int i1), some (.int i2), some (.int i3), some (.int i4), some (.int s0), some (.int (((4 : Int32) * i1) + (mGet σ6 92 i1)))]) (r := []) 1 rfl rfl (m_gv R rfl ?_)
                obtain ⟨hi18, H⟩ := H
                refine mm_R.wai (pc' := 132) (L' := [some ((.ref 86)), some (.int i1), some (.int i2), some (.int i3), some (.int i4), some (.int s0), some (.int (((4 : Int32) * i1) + (mGet σ6 92 i1)))]) (r := []) (t := 1000) 1 rfl rfl rfl rfl (m_ai (i := i1) R (n := 4) (by decide) hi18 ?_)
                exact mm_R.rt (pc' := 135) (L' := [some ((.ref 86)), some (.int i1), some (.int i2), some (.int i3), some (.int i4), some (.int s0), some (.int (((4 : Int32) * i1) + (mGet σ6 92 i1)))]) (st1 := [.int ((mGet σ17 92 i1) - (1 : Int32))]) 2 rfl rfl rfl rfl rfl rfl ⟨_, R, F, H⟩
              · replace H := H.2 (Decidable.of_not_not (of_decide_eq_false c))
                exact mm_R.rt (pc' := 79) (L' := [some ((.ref 86)), some (.int i1), some (.int i2), some (.int i3), some (.int i4), some (.int s0), o6]) (st1 := [.int (-1 : Int32)]) 1 rfl rfl rfl rfl rfl rfl ⟨_, R, F, H⟩
-- StepRunnerModel.step, from 0
set_option maxRecDepth 10000 in
theorem u129_0 {X : List Int32} {d : Nat} {i1 : Int32} {σ : mS} {Q : Option Value → mS → Prop} (H : mM X d 126 0 (mm_L0 126 [(.ref 86)]) [] σ (mi_K (fun x2 σ1 => ((x2 = (0 : Int32) → Q (some (.int (-1 : Int32))) σ1) ∧ (¬ x2 = (0 : Int32) → (((σ1.1 12) = (6 : Int32) → Q (some (.int (-1 : Int32))) σ1) ∧ (¬ (σ1.1 12) = (6 : Int32) → ((i1 < (0 : Int32) → Q (some (.int (-1 : Int32))) σ1) ∧ (¬ i1 < (0 : Int32) → ((i1 < (σ1.1 6) → (0 ≤ (σ1.1 12) ∧ Int32.toNatClampNeg (σ1.1 12) < 6) ∧ ∀ σ4, σ4 = mPut σ1 96 (σ1.1 12) i1 → ∀ σ5, σ5 = mSet σ4 12 ((σ4.1 12) + (1 : Int32)) → Q (some (.int ((σ5.1 12) - (1 : Int32)))) σ5) ∧ (¬ i1 < (σ1.1 6) → Q (some (.int (-1 : Int32))) σ1))))))))))) : mM X (d + 1) 129 0 (mm_L0 129 [(.ref 86), .int i1]) [] σ Q := by
  intro hp R
  have F : mF hp hp := mF.rf
  show mm_R X (d + 1) 129 0 [some ((.ref 86)), some (.int i1)] [] hp (mQ hp Q)
  refine mm_R.cV (pc' := 1) (L' := [some ((.ref 86)), some (.int i1)]) (st1 := [(.ref 86)]) (as := []) (rest := []) 1 rfl rfl (mw_sp rfl rfl (Nat.le_of_ble_eq_true rfl) (mw_ac rfl mw_an) mw_an) rfl rfl (m_rc R rfl) ((H _ R).mono (fun o hp1 H => ?_))
  obtain ⟨σ1, R, F1, x2, rfl, H⟩ := H
  replace F := F.tr F1
  refine mm_R.br (L' := [some ((.ref 86)), some (.int i1)]) (st' := []) (t := 28) (u := 7) (b := mm_cc .eq x2 (0 : Int32)) 1 rfl (fun c => ?_) (fun c => ?_)
  · replace H := H.1 (of_decide_eq_true c)
    exact mm_R.rt (pc' := 29) (L' := [some ((.ref 86)), some (.int i1)]) (st1 := [.int (-1 : Int32)]) 1 rfl rfl rfl rfl rfl rfl ⟨_, R, F, H⟩
  · replace H := H.2 (of_decide_eq_false c)
    refine mm_R.wgi (pc' := 8) (L' := [some ((.ref 86)), some (.int i1)]) (r := []) 1 rfl rfl (m_gi R rfl ?_)
    refine mm_R.br (L' := [some ((.ref 86)), some (.int i1)]) (st' := []) (t := 28) (u := 16) (b := mm_cc .eq (σ1.1 12) (6 : Int32)) 2 rfl (fun c => ?_) (fun c => ?_)
    · replace H := H.1 (of_decide_eq_true c)
      exact mm_R.rt (pc' := 29) (L' := [some ((.ref 86)), some (.int i1)]) (st1 := [.int (-1 : Int32)]) 1 rfl rfl rfl rfl rfl rfl ⟨_, R, F, H⟩
    · replace H := H.2 (of_decide_eq_false c)
      refine mm_R.br (L' := [some ((.ref 86)), some (.int i1)]) (st' := []) (t := 28) (u := 20) (b := mm_cc .lt i1 (0 : Int32)) 2 rfl (fun c => ?_) (fun c => ?_)
      · replace H := H.1 (of_decide_eq_true c)
        exact mm_R.rt (pc' := 29) (L' := [some ((.ref 86)), some (.int i1)]) (st1 := [.int (-1 : Int32)]) 1 rfl rfl rfl rfl rfl rfl ⟨_, R, F, H⟩
      · replace H := H.2 (of_decide_eq_false c)
        refine mm_R.wgi (pc' := 22) (L' := [some ((.ref 86)), some (.int i1)]) (r := [.int i1]) 2 rfl rfl (m_gi R rfl ?_)
        refine mm_R.br (L' := [some ((.ref 86)), some (.int i1)]) (st' := []) (t := 30) (u := 28) (b := mm_cc .lt i1 (σ1.1 6)) 1 rfl (fun c => ?_) (fun c => ?_)
        · replace H := H.1 (of_decide_eq_true c)
          refine mm_R.wgv (pc' := 31) (L' := [some ((.ref 86)), some (.int i1)]) (r := []) 1 rfl rfl (m_gv R rfl ?_)
          refine mm_R.wgi (pc' := 35) (L' := [some ((.ref 86)), some (.int i1)]) (r := [(.ref 96)]) 1 rfl rfl (m_gi R rfl ?_)
          obtain ⟨hi3, H⟩ := H
          refine mm_R.wsi (pc' := 39) (L' := [some ((.ref 86)), some (.int i1)]) (r := []) (t := 1000) (ty := .int) 1 rfl rfl rfl rfl (m_si (i := (σ1.1 12)) (v := i1) R F (n := 6) (by decide) hi3 rfl (fun hp R F => ?_))
          obtain ⟨σ4, es⟩ : ∃ z, z = mPut σ1 96 (σ1.1 12) i1 := ⟨_, rfl⟩
          rw [← es] at R
          replace H := H σ4 es
          refine mm_R.wgi (pc' := 42) (L' := [some ((.ref 86)), some (.int i1)]) (r := [(.ref 86)]) 2 rfl rfl (m_gi R rfl ?_)
          refine mm_R.wpt (pc' := 47) (L' := [some ((.ref 86)), some (.int i1)]) (r := []) 2 rfl rfl (m_pt (v := ((σ4.1 12) + (1 : Int32))) R F rfl rfl rfl (fun hp R F => ?_))
          obtain ⟨σ5, es⟩ : ∃ z, z = mSet σ4 12 ((σ4.1 12) + (1 : Int32)) := ⟨_, rfl⟩
          rw [← es] at R
          replace H := H σ5 es
          refine mm_R.wgi (pc' := 51) (L' := [some ((.ref 86)), some (.int i1)]) (r := []) 1 rfl rfl (m_gi R rfl ?_)
          exact mm_R.rt (pc' := 56) (L' := [some ((.ref 86)), some (.int i1)]) (st1 := [.int ((σ5.1 12) - (1 : Int32))]) 2 rfl rfl rfl rfl rfl rfl ⟨_, R, F, H⟩
        · replace H := H.2 (of_decide_eq_false c)
          exact mm_R.rt (pc' := 29) (L' := [some ((.ref 86)), some (.int i1)]) (st1 := [.int (-1 : Int32)]) 1 rfl rfl rfl rfl rfl rfl ⟨_, R, F, H⟩
-- StepRunnerModel.link, from 0
set_option maxRecDepth 10000 in
theorem u130_0 {X : List Int32} {d : Nat} {i1 : Int32} {i2 : Int32} {i3 : Int32} {σ : mS} {Q : Option Value → mS → Prop} (H : mM X d 126 0 (mm_L0 126 [(.ref 86)]) [] σ (mi_K (fun x2 σ1 => ((x2 = (0 : Int32) → Q (some (.int (0 : Int32))) σ1) ∧ (¬ x2 = (0 : Int32) → mM X d 131 0 (mm_L0 131 [(.ref 86), .int i1]) [] σ1 (mi_K (fun x4 σ3 => ((x4 = (0 : Int32) → Q (some (.int (0 : Int32))) σ3) ∧ (¬ x4 = (0 : Int32) → mM X d 127 0 (mm_L0 127 [.int i2, .int (0 : Int32), .int (3 : Int32)]) [] σ3 (mi_K (fun x6 σ5 => ((x6 = (0 : Int32) → Q (some (.int (0 : Int32))) σ5) ∧ (¬ x6 = (0 : Int32) → (0 ≤ (((4 : Int32) * i1) + i2) ∧ Int32.toNatClampNeg (((4 : Int32) * i1) + i2) < 24) ∧ (((mGet σ5 99 (((4 : Int32) * i1) + i2)) = (3 : Int32) → Q (some (.int (0 : Int32))) σ5) ∧ (¬ (mGet σ5 99 (((4 : Int32) * i1) + i2)) = (3 : Int32) → mM X d 127 0 (mm_L0 127 [.int i3, .int (0 : Int32), .int (2 : Int32)]) [] σ5 (mi_K (fun x9 σ8 => ((¬ x9 = (0 : Int32) → mM X (d + 1) 130 60 [some ((.ref 86)), some (.int i1), some (.int i2), some (.int i3), none] [] σ8 Q) ∧ (x9 = (0 : Int32) → mM X d 127 0 (mm_L0 127 [.int i3, .int (10 : Int32), .int (15 : Int32)]) [] σ8 (mi_K (fun x11 σ10 => ((¬ x11 = (0 : Int32) → mM X (d + 1) 130 60 [some ((.ref 86)), some (.int i1), some (.int i2), some (.int i3), none] [] σ10 Q) ∧ (x11 = (0 : Int32) → Q (some (.int (0 : Int32))) σ10))))))))))))))))))))))) : mM X (d + 1) 130 0 (mm_L0 130 [(.ref 86), .int i1, .int i2, .int i3]) [] σ Q := by
  intro hp R
  have F : mF hp hp := mF.rf
  show mm_R X (d + 1) 130 0 [some ((.ref 86)), some (.int i1), some (.int i2), some (.int i3), none] [] hp (mQ hp Q)
  refine mm_R.cV (pc' := 1) (L' := [some ((.ref 86)), some (.int i1), some (.int i2), some (.int i3), none]) (st1 := [(.ref 86)]) (as := []) (rest := []) 1 rfl rfl (mw_sp rfl rfl (Nat.le_of_ble_eq_true rfl) (mw_ac rfl mw_an) mw_an) rfl rfl (m_rc R rfl) ((H _ R).mono (fun o hp1 H => ?_))
  obtain ⟨σ1, R, F1, x2, rfl, H⟩ := H
  replace F := F.tr F1
  refine mm_R.br (L' := [some ((.ref 86)), some (.int i1), some (.int i2), some (.int i3), none]) (st' := []) (t := 58) (u := 7) (b := mm_cc .eq x2 (0 : Int32)) 1 rfl (fun c => ?_) (fun c => ?_)
  · replace H := H.1 (of_decide_eq_true c)
    exact mm_R.rt (pc' := 59) (L' := [some ((.ref 86)), some (.int i1), some (.int i2), some (.int i3), none]) (st1 := [.int (0 : Int32)]) 1 rfl rfl rfl rfl rfl rfl ⟨_, R, F, H⟩
  · replace H := H.2 (of_decide_eq_false c)
    refine mm_R.cV (pc' := 9) (L' := [some ((.ref 86)), some (.int i1), some (.int i2), some (.int i3), none]) (st1 := [.int i1, (.ref 86)]) (as := [.int i1]) (rest := []) 2 rfl rfl (mw_sp rfl rfl (Nat.le_of_ble_eq_true rfl) (mw_ac rfl (mw_ac rfl mw_an)) mw_an) rfl rfl (m_rc R rfl) ((H _ R).mono (fun o hp1 H => ?_))
    obtain ⟨σ3, R, F1, x4, rfl, H⟩ := H
    replace F := F.tr F1
    refine mm_R.br (L' := [some ((.ref 86)), some (.int i1), some (.int i2), some (.int i3), none]) (st' := []) (t := 58) (u := 15) (b := mm_cc .eq x4 (0 : Int32)) 1 rfl (fun c => ?_) (fun c => ?_)
    · replace H := H.1 (of_decide_eq_true c)
      exact mm_R.rt (pc' := 59) (L' := [some ((.ref 86)), some (.int i1), some (.int i2), some (.int i3), none]) (st1 := [.int (0 : Int32)]) 1 rfl rfl rfl rfl rfl rfl ⟨_, R, F, H⟩
    · replace H := H.2 (of_decide_eq_false c)
      refine mm_R.cS (pc' := 18) (L' := [some ((.ref 86)), some (.int i1), some (.int i2), some (.int i3), none]) (st1 := [.int (3 : Int32), .int (0 : Int32), .int i2]) (as := [.int i2, .int (0 : Int32), .int (3 : Int32)]) (rest := []) 3 rfl rfl (mw_sp rfl rfl (Nat.le_of_ble_eq_true rfl) (mw_ac rfl (mw_ac rfl (mw_ac rfl mw_an))) mw_an) rfl rfl ((H _ R).mono (fun o hp1 H => ?_))
      obtain ⟨σ5, R, F1, x6, rfl, H⟩ := H
      replace F := F.tr F1
      refine mm_R.br (L' := [some ((.ref 86)), some (.int i1), some (.int i2), some (.int i3), none]) (st' := []) (t := 58) (u := 24) (b := mm_cc .eq x6 (0 : Int32)) 1 rfl (fun c => ?_) (fun c => ?_)
      · replace H := H.1 (of_decide_eq_true c)
        exact mm_R.rt (pc' := 59) (L' := [some ((.ref 86)), some (.int i1), some (.int i2), some (.int i3), none]) (st1 := [.int (0 : Int32)]) 1 rfl rfl rfl rfl rfl rfl ⟨_, R, F, H⟩
      · replace H := H.2 (of_decide_eq_false c)
        refine mm_R.wgv (pc' := 25) (L' := [some ((.ref 86)), some (.int i1), some (.int i2), some (.int i3), none]) (r := []) 1 rfl rfl (m_gv R rfl ?_)
        obtain ⟨hi7, H⟩ := H
        refine mm_R.wai (pc' := 33) (L' := [some ((.ref 86)), some (.int i1), some (.int i2), some (.int i3), none]) (r := []) (t := 1000) 5 rfl rfl rfl rfl (m_ai (i := (((4 : Int32) * i1) + i2)) R (n := 24) (by decide) hi7 ?_)
        refine mm_R.br (L' := [some ((.ref 86)), some (.int i1), some (.int i2), some (.int i3), none]) (st' := []) (t := 58) (u := 38) (b := mm_cc .eq (mGet σ5 99 (((4 : Int32) * i1) + i2)) (3 : Int32)) 2 rfl (fun c => ?_) (fun c => ?_)
        · replace H := H.1 (of_decide_eq_true c)
          exact mm_R.rt (pc' := 59) (L' := [some ((.ref 86)), some (.int i1), some (.int i2), some (.int i3), none]) (st1 := [.int (0 : Int32)]) 1 rfl rfl rfl rfl rfl rfl ⟨_, R, F, H⟩
        · replace H := H.2 (of_decide_eq_false c)
          refine mm_R.cS (pc' := 41) (L' := [some ((.ref 86)), some (.int i1), some (.int i2), some (.int i3), none]) (st1 := [.int (2 : Int32), .int (0 : Int32), .int i3]) (as := [.int i3, .int (0 : Int32), .int (2 : Int32)]) (rest := []) 3 rfl rfl (mw_sp rfl rfl (Nat.le_of_ble_eq_true rfl) (mw_ac rfl (mw_ac rfl (mw_ac rfl mw_an))) mw_an) rfl rfl ((H _ R).mono (fun o hp1 H => ?_))
          obtain ⟨σ8, R, F1, x9, rfl, H⟩ := H
          replace F := F.tr F1
          refine mm_R.br (L' := [some ((.ref 86)), some (.int i1), some (.int i2), some (.int i3), none]) (st' := []) (t := 60) (u := 47) (b := mm_cc .ne x9 (0 : Int32)) 1 rfl (fun c => ?_) (fun c => ?_)
          · replace H := H.1 (of_decide_eq_true c)
            exact H.use R F
          · replace H := H.2 (Decidable.of_not_not (of_decide_eq_false c))
            refine mm_R.cS (pc' := 52) (L' := [some ((.ref 86)), some (.int i1), some (.int i2), some (.int i3), none]) (st1 := [.int (15 : Int32), .int (10 : Int32), .int i3]) (as := [.int i3, .int (10 : Int32), .int (15 : Int32)]) (rest := []) 3 rfl rfl (mw_sp rfl rfl (Nat.le_of_ble_eq_true rfl) (mw_ac rfl (mw_ac rfl (mw_ac rfl mw_an))) mw_an) rfl rfl ((H _ R).mono (fun o hp1 H => ?_))
            obtain ⟨σ10, R, F1, x11, rfl, H⟩ := H
            replace F := F.tr F1
            refine mm_R.br (L' := [some ((.ref 86)), some (.int i1), some (.int i2), some (.int i3), none]) (st' := []) (t := 60) (u := 58) (b := mm_cc .ne x11 (0 : Int32)) 1 rfl (fun c => ?_) (fun c => ?_)
            · replace H := H.1 (of_decide_eq_true c)
              exact H.use R F
            · replace H := H.2 (Decidable.of_not_not (of_decide_eq_false c))
              exact mm_R.rt (pc' := 59) (L' := [some ((.ref 86)), some (.int i1), some (.int i2), some (.int i3), none]) (st1 := [.int (0 : Int32)]) 1 rfl rfl rfl rfl rfl rfl ⟨_, R, F, H⟩
-- StepRunnerModel.link, from 60
set_option maxRecDepth 10000 in
theorem u130_60 {X : List Int32} {d : Nat} {i1 : Int32} {i2 : Int32} {i3 : Int32} {o4 : Option Value} {σ : mS} {Q : Option Value → mS → Prop} (H : (0 ≤ (((4 : Int32) * i1) + i2) ∧ Int32.toNatClampNeg (((4 : Int32) * i1) + i2) < 24) ∧ (0 ≤ (((3 : Int32) * (((4 : Int32) * i1) + i2)) + (mGet σ 99 (((4 : Int32) * i1) + i2))) ∧ Int32.toNatClampNeg (((3 : Int32) * (((4 : Int32) * i1) + i2)) + (mGet σ 99 (((4 : Int32) * i1) + i2))) < 72) ∧ ∀ σ3, σ3 = mPut σ 100 (((3 : Int32) * (((4 : Int32) * i1) + i2)) + (mGet σ 99 (((4 : Int32) * i1) + i2))) i3 → (0 ≤ (((4 : Int32) * i1) + i2) ∧ Int32.toNatClampNeg (((4 : Int32) * i1) + i2) < 24) ∧ (0 ≤ (((4 : Int32) * i1) + i2) ∧ Int32.toNatClampNeg (((4 : Int32) * i1) + i2) < 24) ∧ ∀ σ6, σ6 = mPut σ3 99 (((4 : Int32) * i1) + i2) ((mGet σ3 99 (((4 : Int32) * i1) + i2)) + (1 : Int32)) → Q (some (.int (1 : Int32))) σ6) : mM X (d + 1) 130 60 [some ((.ref 86)), some (.int i1), some (.int i2), some (.int i3), o4] [] σ Q := by
  intro hp R
  have F : mF hp hp := mF.rf
  refine mm_R.wgv (pc' := 68) (L' := [some ((.ref 86)), some (.int i1), some (.int i2), some (.int i3), some (.int (((4 : Int32) * i1) + i2))]) (r := []) 7 rfl rfl (m_gv R rfl ?_)
  refine mm_R.wgv (pc' := 76) (L' := [some ((.ref 86)), some (.int i1), some (.int i2), some (.int i3), some (.int (((4 : Int32) * i1) + i2))]) (r := [.int ((3 : Int32) * (((4 : Int32) * i1) + i2)), (.ref 100)]) 4 rfl rfl (m_gv R rfl ?_)
  obtain ⟨hi1, H⟩ := H
  refine mm_R.wai (pc' := 81) (L' := [some ((.ref 86)), some (.int i1), some (.int i2), some (.int i3), some (.int (((4 : Int32) * i1) + i2))]) (r := [.int ((3 : Int32) * (((4 : Int32) * i1) + i2)), (.ref 100)]) (t := 1000) 1 rfl rfl rfl rfl (m_ai (i := (((4 : Int32) * i1) + i2)) R (n := 24) (by decide) hi1 ?_)
  obtain ⟨hi2, H⟩ := H
  refine mm_R.wsi (pc' := 84) (L' := [some ((.ref 86)), some (.int i1), some (.int i2), some (.int i3), some (.int (((4 : Int32) * i1) + i2))]) (r := []) (t := 1000) (ty := .int) 2 rfl rfl rfl rfl (m_si (i := (((3 : Int32) * (((4 : Int32) * i1) + i2)) + (mGet σ 99 (((4 : Int32) * i1) + i2)))) (v := i3) R F (n := 72) (by decide) hi2 rfl (fun hp R F => ?_))
  obtain ⟨σ3, es⟩ : ∃ z, z = mPut σ 100 (((3 : Int32) * (((4 : Int32) * i1) + i2)) + (mGet σ 99 (((4 : Int32) * i1) + i2))) i3 := ⟨_, rfl⟩
  rw [← es] at R
  replace H := H σ3 es
  refine mm_R.wgv (pc' := 86) (L' := [some ((.ref 86)), some (.int i1), some (.int i2), some (.int i3), some (.int (((4 : Int32) * i1) + i2))]) (r := []) 1 rfl rfl (m_gv R rfl ?_)
  obtain ⟨hi4, H⟩ := H
  refine mm_R.wai (pc' := 92) (L' := [some ((.ref 86)), some (.int i1), some (.int i2), some (.int i3), some (.int (((4 : Int32) * i1) + i2))]) (r := [.int (((4 : Int32) * i1) + i2), (.ref 99)]) (t := 1000) 2 rfl rfl rfl rfl (m_ai (i := (((4 : Int32) * i1) + i2)) R (n := 24) (by decide) hi4 ?_)
  obtain ⟨hi5, H⟩ := H
  refine mm_R.wsi (pc' := 95) (L' := [some ((.ref 86)), some (.int i1), some (.int i2), some (.int i3), some (.int (((4 : Int32) * i1) + i2))]) (r := []) (t := 1000) (ty := .int) 2 rfl rfl rfl rfl (m_si (i := (((4 : Int32) * i1) + i2)) (v := ((mGet σ3 99 (((4 : Int32) * i1) + i2)) + (1 : Int32))) R F (n := 24) (by decide) hi5 rfl (fun hp R F => ?_))
  obtain ⟨σ6, es⟩ : ∃ z, z = mPut σ3 99 (((4 : Int32) * i1) + i2) ((mGet σ3 99 (((4 : Int32) * i1) + i2)) + (1 : Int32)) := ⟨_, rfl⟩
  rw [← es] at R
  replace H := H σ6 es
  exact mm_R.rt (pc' := 97) (L' := [some ((.ref 86)), some (.int i1), some (.int i2), some (.int i3), some (.int (((4 : Int32) * i1) + i2))]) (st1 := [.int (1 : Int32)]) 1 rfl rfl rfl rfl rfl rfl ⟨_, R, F, H⟩
-- StepRunnerModel.isStep, from 0
set_option maxRecDepth 10000 in
theorem u131_0 {X : List Int32} {d : Nat} {i1 : Int32} {σ : mS} {Q : Option Value → mS → Prop} (H : ((i1 < (0 : Int32) → Q (some (.int (0 : Int32))) σ) ∧ (¬ i1 < (0 : Int32) → (((σ.1 12) ≤ i1 → Q (some (.int (0 : Int32))) σ) ∧ (¬ (σ.1 12) ≤ i1 → Q (some (.int (1 : Int32))) σ))))) : mM X (d + 1) 131 0 (mm_L0 131 [(.ref 86), .int i1]) [] σ Q := by
  intro hp R
  have F : mF hp hp := mF.rf
  show mm_R X (d + 1) 131 0 [some ((.ref 86)), some (.int i1)] [] hp (mQ hp Q)
  refine mm_R.br (L' := [some ((.ref 86)), some (.int i1)]) (st' := []) (t := 16) (u := 4) (b := mm_cc .lt i1 (0 : Int32)) 2 rfl (fun c => ?_) (fun c => ?_)
  · replace H := H.1 (of_decide_eq_true c)
    exact mm_R.rt (pc' := 17) (L' := [some ((.ref 86)), some (.int i1)]) (st1 := [.int (0 : Int32)]) 1 rfl rfl rfl rfl rfl rfl ⟨_, R, F, H⟩
  · replace H := H.2 (of_decide_eq_false c)
    refine mm_R.wgi (pc' := 6) (L' := [some ((.ref 86)), some (.int i1)]) (r := [.int i1]) 2 rfl rfl (m_gi R rfl ?_)
    refine mm_R.br (L' := [some ((.ref 86)), some (.int i1)]) (st' := []) (t := 16) (u := 12) (b := mm_cc .ge i1 (σ.1 12)) 1 rfl (fun c => ?_) (fun c => ?_)
    · replace H := H.1 (of_decide_eq_true c)
      exact mm_R.rt (pc' := 17) (L' := [some ((.ref 86)), some (.int i1)]) (st1 := [.int (0 : Int32)]) 1 rfl rfl rfl rfl rfl rfl ⟨_, R, F, H⟩
    · replace H := H.2 (of_decide_eq_false c)
      exact mm_R.rt (pc' := 17) (L' := [some ((.ref 86)), some (.int i1)]) (st1 := [.int (1 : Int32)]) 2 rfl rfl rfl rfl rfl rfl ⟨_, R, F, H⟩
-- StepRunnerModel.gather, from 0
set_option maxRecDepth 10000 in
theorem u132_0 {X : List Int32} {d : Nat} {i1 : Int32} {i2 : Int32} {i3 : Int32} {i4 : Int32} {σ : mS} {Q : Option Value → mS → Prop} (H : mM X d 126 0 (mm_L0 126 [(.ref 86)]) [] σ (mi_K (fun x2 σ1 => ((x2 = (0 : Int32) → Q (some (.int (0 : Int32))) σ1) ∧ (¬ x2 = (0 : Int32) → mM X d 131 0 (mm_L0 131 [(.ref 86), .int i1]) [] σ1 (mi_K (fun x4 σ3 => ((x4 = (0 : Int32) → Q (some (.int (0 : Int32))) σ3) ∧ (¬ x4 = (0 : Int32) → mM X d 127 0 (mm_L0 127 [.int i2, .int (0 : Int32), .int (3 : Int32)]) [] σ3 (mi_K (fun x6 σ5 => ((x6 = (0 : Int32) → Q (some (.int (0 : Int32))) σ5) ∧ (¬ x6 = (0 : Int32) → mM X d 127 0 (mm_L0 127 [.int i3, .int (0 : Int32), .int (2 : Int32)]) [] σ5 (mi_K (fun x8 σ7 => ((x8 = (0 : Int32) → Q (some (.int (0 : Int32))) σ7) ∧ (¬ x8 = (0 : Int32) → mM X d 127 0 (mm_L0 127 [.int i4, .int (0 : Int32), .int (3 : Int32)]) [] σ7 (mi_K (fun x10 σ9 => ((¬ x10 = (0 : Int32) → (0 ≤ (((4 : Int32) * i1) + i2) ∧ Int32.toNatClampNeg (((4 : Int32) * i1) + i2) < 24) ∧ ∀ σ12, σ12 = mPut σ9 101 (((4 : Int32) * i1) + i2) i3 → (0 ≤ (((4 : Int32) * i1) + i2) ∧ Int32.toNatClampNeg (((4 : Int32) * i1) + i2) < 24) ∧ ∀ σ14, σ14 = mPut σ12 102 (((4 : Int32) * i1) + i2) i4 → Q (some (.int (1 : Int32))) σ14) ∧ (x10 = (0 : Int32) → Q (some (.int (0 : Int32))) σ9))))))))))))))))))))) : mM X (d + 1) 132 0 (mm_L0 132 [(.ref 86), .int i1, .int i2, .int i3, .int i4]) [] σ Q := by
  intro hp R
  have F : mF hp hp := mF.rf
  show mm_R X (d + 1) 132 0 [some ((.ref 86)), some (.int i1), some (.int i2), some (.int i3), some (.int i4)] [] hp (mQ hp Q)
  refine mm_R.cV (pc' := 1) (L' := [some ((.ref 86)), some (.int i1), some (.int i2), some (.int i3), some (.int i4)]) (st1 := [(.ref 86)]) (as := []) (rest := []) 1 rfl rfl (mw_sp rfl rfl (Nat.le_of_ble_eq_true rfl) (mw_ac rfl mw_an) mw_an) rfl rfl (m_rc R rfl) ((H _ R).mono (fun o hp1 H => ?_))
  obtain ⟨σ1, R, F1, x2, rfl, H⟩ := H
  replace F := F.tr F1
  refine mm_R.br (L' := [some ((.ref 86)), some (.int i1), some (.int i2), some (.int i3), some (.int i4)]) (st' := []) (t := 43) (u := 7) (b := mm_cc .eq x2 (0 : Int32)) 1 rfl (fun c => ?_) (fun c => ?_)
  · replace H := H.1 (of_decide_eq_true c)
    exact mm_R.rt (pc' := 44) (L' := [some ((.ref 86)), some (.int i1), some (.int i2), some (.int i3), some (.int i4)]) (st1 := [.int (0 : Int32)]) 1 rfl rfl rfl rfl rfl rfl ⟨_, R, F, H⟩
  · replace H := H.2 (of_decide_eq_false c)
    refine mm_R.cV (pc' := 9) (L' := [some ((.ref 86)), some (.int i1), some (.int i2), some (.int i3), some (.int i4)]) (st1 := [.int i1, (.ref 86)]) (as := [.int i1]) (rest := []) 2 rfl rfl (mw_sp rfl rfl (Nat.le_of_ble_eq_true rfl) (mw_ac rfl (mw_ac rfl mw_an)) mw_an) rfl rfl (m_rc R rfl) ((H _ R).mono (fun o hp1 H => ?_))
    obtain ⟨σ3, R, F1, x4, rfl, H⟩ := H
    replace F := F.tr F1
    refine mm_R.br (L' := [some ((.ref 86)), some (.int i1), some (.int i2), some (.int i3), some (.int i4)]) (st' := []) (t := 43) (u := 15) (b := mm_cc .eq x4 (0 : Int32)) 1 rfl (fun c => ?_) (fun c => ?_)
    · replace H := H.1 (of_decide_eq_true c)
      exact mm_R.rt (pc' := 44) (L' := [some ((.ref 86)), some (.int i1), some (.int i2), some (.int i3), some (.int i4)]) (st1 := [.int (0 : Int32)]) 1 rfl rfl rfl rfl rfl rfl ⟨_, R, F, H⟩
    · replace H := H.2 (of_decide_eq_false c)
      refine mm_R.cS (pc' := 18) (L' := [some ((.ref 86)), some (.int i1), some (.int i2), some (.int i3), some (.int i4)]) (st1 := [.int (3 : Int32), .int (0 : Int32), .int i2]) (as := [.int i2, .int (0 : Int32), .int (3 : Int32)]) (rest := []) 3 rfl rfl (mw_sp rfl rfl (Nat.le_of_ble_eq_true rfl) (mw_ac rfl (mw_ac rfl (mw_ac rfl mw_an))) mw_an) rfl rfl ((H _ R).mono (fun o hp1 H => ?_))
      obtain ⟨σ5, R, F1, x6, rfl, H⟩ := H
      replace F := F.tr F1
      refine mm_R.br (L' := [some ((.ref 86)), some (.int i1), some (.int i2), some (.int i3), some (.int i4)]) (st' := []) (t := 43) (u := 24) (b := mm_cc .eq x6 (0 : Int32)) 1 rfl (fun c => ?_) (fun c => ?_)
      · replace H := H.1 (of_decide_eq_true c)
        exact mm_R.rt (pc' := 44) (L' := [some ((.ref 86)), some (.int i1), some (.int i2), some (.int i3), some (.int i4)]) (st1 := [.int (0 : Int32)]) 1 rfl rfl rfl rfl rfl rfl ⟨_, R, F, H⟩
      · replace H := H.2 (of_decide_eq_false c)
        refine mm_R.cS (pc' := 27) (L' := [some ((.ref 86)), some (.int i1), some (.int i2), some (.int i3), some (.int i4)]) (st1 := [.int (2 : Int32), .int (0 : Int32), .int i3]) (as := [.int i3, .int (0 : Int32), .int (2 : Int32)]) (rest := []) 3 rfl rfl (mw_sp rfl rfl (Nat.le_of_ble_eq_true rfl) (mw_ac rfl (mw_ac rfl (mw_ac rfl mw_an))) mw_an) rfl rfl ((H _ R).mono (fun o hp1 H => ?_))
        obtain ⟨σ7, R, F1, x8, rfl, H⟩ := H
        replace F := F.tr F1
        refine mm_R.br (L' := [some ((.ref 86)), some (.int i1), some (.int i2), some (.int i3), some (.int i4)]) (st' := []) (t := 43) (u := 33) (b := mm_cc .eq x8 (0 : Int32)) 1 rfl (fun c => ?_) (fun c => ?_)
        · replace H := H.1 (of_decide_eq_true c)
          exact mm_R.rt (pc' := 44) (L' := [some ((.ref 86)), some (.int i1), some (.int i2), some (.int i3), some (.int i4)]) (st1 := [.int (0 : Int32)]) 1 rfl rfl rfl rfl rfl rfl ⟨_, R, F, H⟩
        · replace H := H.2 (of_decide_eq_false c)
          refine mm_R.cS (pc' := 37) (L' := [some ((.ref 86)), some (.int i1), some (.int i2), some (.int i3), some (.int i4)]) (st1 := [.int (3 : Int32), .int (0 : Int32), .int i4]) (as := [.int i4, .int (0 : Int32), .int (3 : Int32)]) (rest := []) 3 rfl rfl (mw_sp rfl rfl (Nat.le_of_ble_eq_true rfl) (mw_ac rfl (mw_ac rfl (mw_ac rfl mw_an))) mw_an) rfl rfl ((H _ R).mono (fun o hp1 H => ?_))
          obtain ⟨σ9, R, F1, x10, rfl, H⟩ := H
          replace F := F.tr F1
          refine mm_R.br (L' := [some ((.ref 86)), some (.int i1), some (.int i2), some (.int i3), some (.int i4)]) (st' := []) (t := 45) (u := 43) (b := mm_cc .ne x10 (0 : Int32)) 1 rfl (fun c => ?_) (fun c => ?_)
          · replace H := H.1 (of_decide_eq_true c)
            refine mm_R.wgv (pc' := 46) (L' := [some ((.ref 86)), some (.int i1), some (.int i2), some (.int i3), some (.int i4)]) (r := []) 1 rfl rfl (m_gv R rfl ?_)
            obtain ⟨hi11, H⟩ := H
            refine mm_R.wsi (pc' := 55) (L' := [some ((.ref 86)), some (.int i1), some (.int i2), some (.int i3), some (.int i4)]) (r := []) (t := 1000) (ty := .int) 6 rfl rfl rfl rfl (m_si (i := (((4 : Int32) * i1) + i2)) (v := i3) R F (n := 24) (by decide) hi11 rfl (fun hp R F => ?_))
            obtain ⟨σ12, es⟩ : ∃ z, z = mPut σ9 101 (((4 : Int32) * i1) + i2) i3 := ⟨_, rfl⟩
            rw [← es] at R
            replace H := H σ12 es
            refine mm_R.wgv (pc' := 57) (L' := [some ((.ref 86)), some (.int i1), some (.int i2), some (.int i3), some (.int i4)]) (r := []) 1 rfl rfl (m_gv R rfl ?_)
            obtain ⟨hi13, H⟩ := H
            refine mm_R.wsi (pc' := 67) (L' := [some ((.ref 86)), some (.int i1), some (.int i2), some (.int i3), some (.int i4)]) (r := []) (t := 1000) (ty := .int) 6 rfl rfl rfl rfl (m_si (i := (((4 : Int32) * i1) + i2)) (v := i4) R F (n := 24) (by decide) hi13 rfl (fun hp R F => ?_))
            obtain ⟨σ14, es⟩ : ∃ z, z = mPut σ12 102 (((4 : Int32) * i1) + i2) i4 := ⟨_, rfl⟩
            rw [← es] at R
            replace H := H σ14 es
            exact mm_R.rt (pc' := 69) (L' := [some ((.ref 86)), some (.int i1), some (.int i2), some (.int i3), some (.int i4)]) (st1 := [.int (1 : Int32)]) 1 rfl rfl rfl rfl rfl rfl ⟨_, R, F, H⟩
          · replace H := H.2 (Decidable.of_not_not (of_decide_eq_false c))
            exact mm_R.rt (pc' := 44) (L' := [some ((.ref 86)), some (.int i1), some (.int i2), some (.int i3), some (.int i4)]) (st1 := [.int (0 : Int32)]) 1 rfl rfl rfl rfl rfl rfl ⟨_, R, F, H⟩
-- StepRunnerModel.preset, from 0
set_option maxRecDepth 10000 in
theorem u133_0 {X : List Int32} {d : Nat} {i1 : Int32} {i2 : Int32} {σ : mS} {Q : Option Value → mS → Prop} (H : mM X d 126 0 (mm_L0 126 [(.ref 86)]) [] σ (mi_K (fun x2 σ1 => ((x2 = (0 : Int32) → mM X (d + 1) 133 29 [some ((.ref 86)), some (.int i1), some (.int i2), none, none] [.int (0 : Int32)] σ1 Q) ∧ (¬ x2 = (0 : Int32) → mM X d 131 0 (mm_L0 131 [(.ref 86), .int i1]) [] σ1 (mi_K (fun x4 σ3 => ((x4 = (0 : Int32) → mM X (d + 1) 133 29 [some ((.ref 86)), some (.int i1), some (.int i2), none, none] [.int (0 : Int32)] σ3 Q) ∧ (¬ x4 = (0 : Int32) → mM X d 127 0 (mm_L0 127 [.int i2, .int (0 : Int32), .int (3 : Int32)]) [] σ3 (mi_K (fun x6 σ5 => ((x6 = (0 : Int32) → mM X (d + 1) 133 29 [some ((.ref 86)), some (.int i1), some (.int i2), none, none] [.int (0 : Int32)] σ5 Q) ∧ (¬ x6 = (0 : Int32) → mM X (d + 1) 133 29 [some ((.ref 86)), some (.int i1), some (.int i2), none, none] [.int (1 : Int32)] σ5 Q))))))))))))) : mM X (d + 1) 133 0 (mm_L0 133 [(.ref 86), .int i1, .int i2]) [] σ Q := by
  intro hp R
  have F : mF hp hp := mF.rf
  show mm_R X (d + 1) 133 0 [some ((.ref 86)), some (.int i1), some (.int i2), none, none] [] hp (mQ hp Q)
  refine mm_R.cV (pc' := 1) (L' := [some ((.ref 86)), some (.int i1), some (.int i2), none, none]) (st1 := [(.ref 86)]) (as := []) (rest := []) 1 rfl rfl (mw_sp rfl rfl (Nat.le_of_ble_eq_true rfl) (mw_ac rfl mw_an) mw_an) rfl rfl (m_rc R rfl) ((H _ R).mono (fun o hp1 H => ?_))
  obtain ⟨σ1, R, F1, x2, rfl, H⟩ := H
  replace F := F.tr F1
  refine mm_R.br (L' := [some ((.ref 86)), some (.int i1), some (.int i2), none, none]) (st' := []) (t := 28) (u := 7) (b := mm_cc .eq x2 (0 : Int32)) 1 rfl (fun c => ?_) (fun c => ?_)
  · replace H := H.1 (of_decide_eq_true c)
    exact mm_R.pn (pc' := 29) (L' := [some ((.ref 86)), some (.int i1), some (.int i2), none, none]) (st' := [.int (0 : Int32)]) 1 rfl (H.use R F)
  · replace H := H.2 (of_decide_eq_false c)
    refine mm_R.cV (pc' := 9) (L' := [some ((.ref 86)), some (.int i1), some (.int i2), none, none]) (st1 := [.int i1, (.ref 86)]) (as := [.int i1]) (rest := []) 2 rfl rfl (mw_sp rfl rfl (Nat.le_of_ble_eq_true rfl) (mw_ac rfl (mw_ac rfl mw_an)) mw_an) rfl rfl (m_rc R rfl) ((H _ R).mono (fun o hp1 H => ?_))
    obtain ⟨σ3, R, F1, x4, rfl, H⟩ := H
    replace F := F.tr F1
    refine mm_R.br (L' := [some ((.ref 86)), some (.int i1), some (.int i2), none, none]) (st' := []) (t := 28) (u := 15) (b := mm_cc .eq x4 (0 : Int32)) 1 rfl (fun c => ?_) (fun c => ?_)
    · replace H := H.1 (of_decide_eq_true c)
      exact mm_R.pn (pc' := 29) (L' := [some ((.ref 86)), some (.int i1), some (.int i2), none, none]) (st' := [.int (0 : Int32)]) 1 rfl (H.use R F)
    · replace H := H.2 (of_decide_eq_false c)
      refine mm_R.cS (pc' := 18) (L' := [some ((.ref 86)), some (.int i1), some (.int i2), none, none]) (st1 := [.int (3 : Int32), .int (0 : Int32), .int i2]) (as := [.int i2, .int (0 : Int32), .int (3 : Int32)]) (rest := []) 3 rfl rfl (mw_sp rfl rfl (Nat.le_of_ble_eq_true rfl) (mw_ac rfl (mw_ac rfl (mw_ac rfl mw_an))) mw_an) rfl rfl ((H _ R).mono (fun o hp1 H => ?_))
      obtain ⟨σ5, R, F1, x6, rfl, H⟩ := H
      replace F := F.tr F1
      refine mm_R.br (L' := [some ((.ref 86)), some (.int i1), some (.int i2), none, none]) (st' := []) (t := 28) (u := 24) (b := mm_cc .eq x6 (0 : Int32)) 1 rfl (fun c => ?_) (fun c => ?_)
      · replace H := H.1 (of_decide_eq_true c)
        exact mm_R.pn (pc' := 29) (L' := [some ((.ref 86)), some (.int i1), some (.int i2), none, none]) (st' := [.int (0 : Int32)]) 1 rfl (H.use R F)
      · replace H := H.2 (of_decide_eq_false c)
        exact mm_R.pn (pc' := 29) (L' := [some ((.ref 86)), some (.int i1), some (.int i2), none, none]) (st' := [.int (1 : Int32)]) 2 rfl (H.use R F)
-- StepRunnerModel.preset, from 29
set_option maxRecDepth 10000 in
theorem u133_29 {X : List Int32} {d : Nat} {i1 : Int32} {i2 : Int32} {o3 : Option Value} {o4 : Option Value} {s0 : Int32} {σ : mS} {Q : Option Value → mS → Prop} (H : ((s0 = (0 : Int32) → mM X (d + 1) 133 47 [some ((.ref 86)), some (.int i1), some (.int i2), some (.int s0), o4] [.int (0 : Int32), .int s0, (.ref 86)] σ Q) ∧ (¬ s0 = (0 : Int32) → mM X (d + 1) 133 47 [some ((.ref 86)), some (.int i1), some (.int i2), some (.int s0), o4] [.int (((3 : Int32) + ((4 : Int32) * i1)) + i2), .int s0, (.ref 86)] σ Q))) : mM X (d + 1) 133 29 [some ((.ref 86)), some (.int i1), some (.int i2), o3, o4] [.int s0] σ Q := by
  intro hp R
  have F : mF hp hp := mF.rf
  refine mm_R.br (L' := [some ((.ref 86)), some (.int i1), some (.int i2), some (.int s0), o4]) (st' := [.int s0, (.ref 86)]) (t := 46) (u := 36) (b := mm_cc .eq s0 (0 : Int32)) 5 rfl (fun c => ?_) (fun c => ?_)
  · replace H := H.1 (of_decide_eq_true c)
    exact mm_R.pn (pc' := 47) (L' := [some ((.ref 86)), some (.int i1), some (.int i2), some (.int s0), o4]) (st' := [.int (0 : Int32), .int s0, (.ref 86)]) 1 rfl (H.use R F)
  · replace H := H.2 (of_decide_eq_false c)
    exact mm_R.pn (pc' := 47) (L' := [some ((.ref 86)), some (.int i1), some (.int i2), some (.int s0), o4]) (st' := [.int (((3 : Int32) + ((4 : Int32) * i1)) + i2), .int s0, (.ref 86)]) 8 rfl (H.use R F)
-- StepRunnerModel.preset, from 47
set_option maxRecDepth 10000 in
theorem u133_47 {X : List Int32} {d : Nat} {i1 : Int32} {i2 : Int32} {i3 : Int32} {o4 : Option Value} {s0 : Int32} {s1 : Int32} {σ : mS} {Q : Option Value → mS → Prop} (H : mM X d 134 0 (mm_L0 134 [(.ref 86), .int s1, .int s0]) [] σ (mi_K (fun x2 σ1 => ((x2 = (0 : Int32) → (x2 = 0 ∨ x2 = 1) ∧ Q (some (.int x2)) σ1) ∧ (¬ x2 = (0 : Int32) → (0 ≤ (((4 : Int32) * i1) + i2) ∧ Int32.toNatClampNeg (((4 : Int32) * i1) + i2) < 24) ∧ ((1 : Int32) = 0 ∨ (1 : Int32) = 1) ∧ ∀ σ4, σ4 = mPut σ1 103 (((4 : Int32) * i1) + i2) (1 : Int32) → (x2 = 0 ∨ x2 = 1) ∧ Q (some (.int x2)) σ4))))) : mM X (d + 1) 133 47 [some ((.ref 86)), some (.int i1), some (.int i2), some (.int i3), o4] [.int s0, .int s1, (.ref 86)] σ Q := by
  intro hp R
  have F : mF hp hp := mF.rf
  refine mm_R.cV (pc' := 47) (L' := [some ((.ref 86)), some (.int i1), some (.int i2), some (.int i3), o4]) (st1 := [.int s0, .int s1, (.ref 86)]) (as := [.int s1, .int s0]) (rest := []) 0 rfl rfl (mw_sp rfl rfl (Nat.le_of_ble_eq_true rfl) (mw_ac rfl (mw_ac rfl (mw_ac rfl mw_an))) mw_an) rfl rfl (m_rc R rfl) ((H _ R).mono (fun o hp1 H => ?_))
  obtain ⟨σ1, R, F1, x2, rfl, H⟩ := H
  replace F := F.tr F1
  refine mm_R.br (L' := [some ((.ref 86)), some (.int i1), some (.int i2), some (.int i3), some (.int x2)]) (st' := []) (t := 68) (u := 57) (b := mm_cc .eq x2 (0 : Int32)) 3 rfl (fun c => ?_) (fun c => ?_)
  · replace H := H.1 (of_decide_eq_true c)
    exact mm_R.rt (pc' := 70) (L' := [some ((.ref 86)), some (.int i1), some (.int i2), some (.int i3), some (.int x2)]) (st1 := [.int x2]) 1 rfl rfl rfl rfl rfl (mw_rvi (ty := .boolean) (m_fz H.1)) ⟨_, R, F, H.2⟩
  · replace H := H.2 (of_decide_eq_false c)
    refine mm_R.wgv (pc' := 58) (L' := [some ((.ref 86)), some (.int i1), some (.int i2), some (.int i3), some (.int x2)]) (r := []) 1 rfl rfl (m_gv R rfl ?_)
    obtain ⟨hi3, H⟩ := H
    obtain ⟨hf5, H⟩ := H
    refine mm_R.wsi (pc' := 67) (L' := [some ((.ref 86)), some (.int i1), some (.int i2), some (.int i3), some (.int x2)]) (r := []) (t := 1002) (ty := .boolean) 6 rfl rfl rfl rfl (m_si (i := (((4 : Int32) * i1) + i2)) (v := (1 : Int32)) R F (n := 24) (by decide) hi3 (m_fz hf5) (fun hp R F => ?_))
    obtain ⟨σ4, es⟩ : ∃ z, z = mPut σ1 103 (((4 : Int32) * i1) + i2) (1 : Int32) := ⟨_, rfl⟩
    rw [← es] at R
    replace H := H σ4 es
    exact mm_R.rt (pc' := 70) (L' := [some ((.ref 86)), some (.int i1), some (.int i2), some (.int i3), some (.int x2)]) (st1 := [.int x2]) 1 rfl rfl rfl rfl rfl (mw_rvi (ty := .boolean) (m_fz H.1)) ⟨_, R, F, H.2⟩
