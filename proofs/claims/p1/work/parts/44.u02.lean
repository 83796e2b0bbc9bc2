-- StepRunnerModel.endOf, from 0
set_option maxRecDepth 10000 in
theorem u143_0 {X : List Int32} {d : Nat} {i1 : Int32} {σ : mS} {Q : Option Value → mS → Prop} (H : mM X d 123 0 (mm_L0 123 [.int i1]) [] σ (mi_K (fun x2 σ1 => (0 ≤ i1 ∧ Int32.toNatClampNeg i1 < 142) ∧ Q (some (.int (x2 + (mGet σ1 90 i1)))) σ1))) : mM X (d + 1) 143 0 (mm_L0 143 [(.ref 86), .int i1]) [] σ Q := by
  intro hp R
  have F : mF hp hp := mF.rf
  show mm_R X (d + 1) 143 0 [some ((.ref 86)), some (.int i1)] [] hp (mQ hp Q)
  refine mm_R.cS (pc' := 1) (L' := [some ((.ref 86)), some (.int i1)]) (st1 := [.int i1]) (as := [.int i1]) (rest := []) 1 rfl rfl (mw_sp rfl rfl (Nat.le_of_ble_eq_true rfl) (mw_ac rfl mw_an) mw_an) rfl rfl ((H _ R).mono (fun o hp1 H => ?_))
  obtain ⟨σ1, R, F1, x2, rfl, H⟩ := H
  replace F := F.tr F1
  refine mm_R.wgv (pc' := 5) (L' := [some ((.ref 86)), some (.int i1)]) (r := [.int x2]) 1 rfl rfl (m_gv R rfl ?_)
  obtain ⟨hi3, H⟩ := H
  refine mm_R.wai (pc' := 9) (L' := [some ((.ref 86)), some (.int i1)]) (r := [.int x2]) (t := 1000) 1 rfl rfl rfl rfl (m_ai (i := i1) R (n := 142) (by decide) hi3 ?_)
  exact mm_R.rt (pc' := 11) (L' := [some ((.ref 86)), some (.int i1)]) (st1 := [.int (x2 + (mGet σ1 90 i1))]) 1 rfl rfl rfl rfl rfl rfl ⟨_, R, F, H⟩
-- StepRunnerModel.kind, from 0
set_option maxRecDepth 10000 in
theorem u144_0 {X : List Int32} {d : Nat} {i1 : Int32} {σ : mS} {Q : Option Value → mS → Prop} (H : (0 ≤ i1 ∧ Int32.toNatClampNeg i1 < 9856) ∧ Q (some (.int (Int64.toInt32 ((mGeL σ 89 i1) &&& (3 : Int64))))) σ) : mM X (d + 1) 144 0 (mm_L0 144 [(.ref 86), .int i1]) [] σ Q := by
  intro hp R
  have F : mF hp hp := mF.rf
  show mm_R X (d + 1) 144 0 [some ((.ref 86)), some (.int i1)] [] hp (mQ hp Q)
  refine mm_R.wgv (pc' := 1) (L' := [some ((.ref 86)), some (.int i1)]) (r := []) 1 rfl rfl (m_gv R rfl ?_)
  obtain ⟨hi1, H⟩ := H
  refine mm_R.wal (pc' := 5) (L' := [some ((.ref 86)), some (.int i1)]) (r := []) (t := 1004) 1 rfl rfl rfl rfl (m_al (i := i1) R (n := 9856) (by decide) hi1 ?_)
  exact mm_R.rt (pc' := 11) (L' := [some ((.ref 86)), some (.int i1)]) (st1 := [.int (Int64.toInt32 ((mGeL σ 89 i1) &&& (3 : Int64)))]) 3 rfl rfl rfl rfl rfl rfl ⟨_, R, F, H⟩
-- StepRunnerModel.level, from 0
set_option maxRecDepth 10000 in
theorem u145_0 {X : List Int32} {d : Nat} {i1 : Int32} {σ : mS} {Q : Option Value → mS → Prop} (H : (0 ≤ i1 ∧ Int32.toNatClampNeg i1 < 9856) ∧ Q (some (.int (Int64.toInt32 (((mGeL σ 89 i1) >>> (Int32.toInt64 (2 : Int32) &&& 63)) &&& (63 : Int64))))) σ) : mM X (d + 1) 145 0 (mm_L0 145 [(.ref 86), .int i1]) [] σ Q := by
  intro hp R
  have F : mF hp hp := mF.rf
  show mm_R X (d + 1) 145 0 [some ((.ref 86)), some (.int i1)] [] hp (mQ hp Q)
  refine mm_R.wgv (pc' := 1) (L' := [some ((.ref 86)), some (.int i1)]) (r := []) 1 rfl rfl (m_gv R rfl ?_)
  obtain ⟨hi1, H⟩ := H
  refine mm_R.wal (pc' := 5) (L' := [some ((.ref 86)), some (.int i1)]) (r := []) (t := 1004) 1 rfl rfl rfl rfl (m_al (i := i1) R (n := 9856) (by decide) hi1 ?_)
  exact mm_R.rt (pc' := 13) (L' := [some ((.ref 86)), some (.int i1)]) (st1 := [.int (Int64.toInt32 (((mGeL σ 89 i1) >>> (Int32.toInt64 (2 : Int32) &&& 63)) &&& (63 : Int64)))]) 5 rfl rfl rfl rfl rfl rfl ⟨_, R, F, H⟩
-- StepRunnerModel.elements, from 0
set_option maxRecDepth 10000 in
theorem u146_0 {X : List Int32} {d : Nat} {i1 : Int32} {i2 : Int32} {σ : mS} {Q : Option Value → mS → Prop} (H : mM X d 147 0 (mm_L0 147 [(.ref 86), .int i1, .int i2]) [] σ (mi_K (fun x2 σ1 => mM X (d + 1) 146 15 [some ((.ref 86)), some (.int i1), some (.int i2), some (.int (0 : Int32)), some (.int x2), some (.int (i1 + (1 : Int32)))] [] σ1 Q))) : mM X (d + 1) 146 0 (mm_L0 146 [(.ref 86), .int i1, .int i2]) [] σ Q := by
  intro hp R
  have F : mF hp hp := mF.rf
  show mm_R X (d + 1) 146 0 [some ((.ref 86)), some (.int i1), some (.int i2), none, none, none] [] hp (mQ hp Q)
  refine mm_R.cV (pc' := 5) (L' := [some ((.ref 86)), some (.int i1), some (.int i2), some (.int (0 : Int32)), none, none]) (st1 := [.int i2, .int i1, (.ref 86)]) (as := [.int i1, .int i2]) (rest := []) 5 rfl rfl (mw_sp rfl rfl (Nat.le_of_ble_eq_true rfl) (mw_ac rfl (mw_ac rfl (mw_ac rfl mw_an))) mw_an) rfl rfl (m_rc R rfl) ((H _ R).mono (fun o hp1 H => ?_))
  obtain ⟨σ1, R, F1, x2, rfl, H⟩ := H
  replace F := F.tr F1
  exact mm_R.pn (pc' := 15) (L' := [some ((.ref 86)), some (.int i1), some (.int i2), some (.int (0 : Int32)), some (.int x2), some (.int (i1 + (1 : Int32)))]) (st' := []) 5 rfl (H.use R F)
-- StepRunnerModel.elements, from 15
set_option maxRecDepth 10000 in
theorem u146_15 {X : List Int32} {d : Nat} {i1 : Int32} {i2 : Int32} {i3 : Int32} {i4 : Int32} {i5 : Int32} {σ : mS} {Q : Option Value → mS → Prop} (H : ((i4 ≤ i5 → Q (some (.int i3)) σ) ∧ (¬ i4 ≤ i5 → mM X d 147 0 (mm_L0 147 [(.ref 86), .int i5, .int i2]) [] σ (mi_K (fun x2 σ1 => mM X (d + 1) 146 15 [some ((.ref 86)), some (.int i1), some (.int i2), some (.int (i3 + (1 : Int32))), some (.int i4), some (.int x2)] [] σ1 Q))))) : mM X (d + 1) 146 15 [some ((.ref 86)), some (.int i1), some (.int i2), some (.int i3), some (.int i4), some (.int i5)] [] σ Q := by
  intro hp R
  have F : mF hp hp := mF.rf
  refine mm_R.br (L' := [some ((.ref 86)), some (.int i1), some (.int i2), some (.int i3), some (.int i4), some (.int i5)]) (st' := []) (t := 37) (u := 22) (b := mm_cc .ge i5 i4) 3 rfl (fun c => ?_) (fun c => ?_)
  · replace H := H.1 (of_decide_eq_true c)
    exact mm_R.rt (pc' := 38) (L' := [some ((.ref 86)), some (.int i1), some (.int i2), some (.int i3), some (.int i4), some (.int i5)]) (st1 := [.int i3]) 1 rfl rfl rfl rfl rfl rfl ⟨_, R, F, H⟩
  · replace H := H.2 (of_decide_eq_false c)
    refine mm_R.cV (pc' := 29) (L' := [some ((.ref 86)), some (.int i1), some (.int i2), some (.int (i3 + (1 : Int32))), some (.int i4), some (.int i5)]) (st1 := [.int i2, .int i5, (.ref 86)]) (as := [.int i5, .int i2]) (rest := []) 4 rfl rfl (mw_sp rfl rfl (Nat.le_of_ble_eq_true rfl) (mw_ac rfl (mw_ac rfl (mw_ac rfl mw_an))) mw_an) rfl rfl (m_rc R rfl) ((H _ R).mono (fun o hp1 H => ?_))
    obtain ⟨σ1, R, F1, x2, rfl, H⟩ := H
    replace F := F.tr F1
    exact mm_R.pn (pc' := 15) (L' := [some ((.ref 86)), some (.int i1), some (.int i2), some (.int (i3 + (1 : Int32))), some (.int i4), some (.int x2)]) (st' := []) 2 rfl (H.use R F)
-- StepRunnerModel.behind, from 0
set_option maxRecDepth 10000 in
theorem u147_0 {X : List Int32} {d : Nat} {i1 : Int32} {i2 : Int32} {σ : mS} {Q : Option Value → mS → Prop} (H : mM X (d + 1) 147 4 [some ((.ref 86)), some (.int i1), some (.int i2), some (.int (i1 + (1 : Int32)))] [] σ Q) : mM X (d + 1) 147 0 (mm_L0 147 [(.ref 86), .int i1, .int i2]) [] σ Q := by
  intro hp R
  have F : mF hp hp := mF.rf
  show mm_R X (d + 1) 147 0 [some ((.ref 86)), some (.int i1), some (.int i2), none] [] hp (mQ hp Q)
  exact mm_R.pn (pc' := 4) (L' := [some ((.ref 86)), some (.int i1), some (.int i2), some (.int (i1 + (1 : Int32)))]) (st' := []) 4 rfl (H.use R F)
-- StepRunnerModel.behind, from 4
set_option maxRecDepth 10000 in
theorem u147_4 {X : List Int32} {d : Nat} {i1 : Int32} {i2 : Int32} {i3 : Int32} {σ : mS} {Q : Option Value → mS → Prop} (H : ((i2 ≤ i3 → Q (some (.int i3)) σ) ∧ (¬ i2 ≤ i3 → mM X d 145 0 (mm_L0 145 [(.ref 86), .int i3]) [] σ (mi_K (fun x2 σ1 => mM X d 145 0 (mm_L0 145 [(.ref 86), .int i1]) [] σ1 (mi_K (fun x4 σ3 => ((x2 ≤ x4 → Q (some (.int i3)) σ3) ∧ (¬ x2 ≤ x4 → mM X (d + 1) 147 4 [some ((.ref 86)), some (.int i1), some (.int i2), some (.int (i3 + (1 : Int32)))] [] σ3 Q))))))))) : mM X (d + 1) 147 4 [some ((.ref 86)), some (.int i1), some (.int i2), some (.int i3)] [] σ Q := by
  intro hp R
  have F : mF hp hp := mF.rf
  refine mm_R.br (L' := [some ((.ref 86)), some (.int i1), some (.int i2), some (.int i3)]) (st' := []) (t := 28) (u := 9) (b := mm_cc .ge i3 i2) 3 rfl (fun c => ?_) (fun c => ?_)
  · replace H := H.1 (of_decide_eq_true c)
    exact mm_R.rt (pc' := 29) (L' := [some ((.ref 86)), some (.int i1), some (.int i2), some (.int i3)]) (st1 := [.int i3]) 1 rfl rfl rfl rfl rfl rfl ⟨_, R, F, H⟩
  · replace H := H.2 (of_decide_eq_false c)
    refine mm_R.cV (pc' := 11) (L' := [some ((.ref 86)), some (.int i1), some (.int i2), some (.int i3)]) (st1 := [.int i3, (.ref 86)]) (as := [.int i3]) (rest := []) 2 rfl rfl (mw_sp rfl rfl (Nat.le_of_ble_eq_true rfl) (mw_ac rfl (mw_ac rfl mw_an)) mw_an) rfl rfl (m_rc R rfl) ((H _ R).mono (fun o hp1 H => ?_))
    obtain ⟨σ1, R, F1, x2, rfl, H⟩ := H
    replace F := F.tr F1
    refine mm_R.cV (pc' := 16) (L' := [some ((.ref 86)), some (.int i1), some (.int i2), some (.int i3)]) (st1 := [.int i1, (.ref 86), .int x2]) (as := [.int i1]) (rest := [.int x2]) 2 rfl rfl (mw_sp rfl rfl (Nat.le_of_ble_eq_true rfl) (mw_ac rfl (mw_ac rfl mw_an)) (mw_ac rfl mw_an)) rfl rfl (m_rc R rfl) ((H _ R).mono (fun o hp1 H => ?_))
    obtain ⟨σ3, R, F1, x4, rfl, H⟩ := H
    replace F := F.tr F1
    refine mm_R.br (L' := [some ((.ref 86)), some (.int i1), some (.int i2), some (.int i3)]) (st' := []) (t := 28) (u := 22) (b := mm_cc .le x2 x4) 1 rfl (fun c => ?_) (fun c => ?_)
    · replace H := H.1 (of_decide_eq_true c)
      exact mm_R.rt (pc' := 29) (L' := [some ((.ref 86)), some (.int i1), some (.int i2), some (.int i3)]) (st1 := [.int i3]) 1 rfl rfl rfl rfl rfl rfl ⟨_, R, F, H⟩
    · replace H := H.2 (of_decide_eq_false c)
      exact mm_R.pn (pc' := 4) (L' := [some ((.ref 86)), some (.int i1), some (.int i2), some (.int (i3 + (1 : Int32)))]) (st' := []) 2 rfl (H.use R F)
-- StepRunnerModel.keep, from 0
set_option maxRecDepth 10000 in
theorem u148_0 {X : List Int32} {d : Nat} {i1 : Int32} {σ : mS} {Q : Option Value → mS → Prop} (H : mM X d 149 0 (mm_L0 149 [(.ref 86), .int (141 : Int32), .int i1]) [] σ (m0_K (fun σ1 => mM X d 123 0 (mm_L0 123 [.int i1]) [] σ1 (mi_K (fun x3 σ2 => mM X (d + 1) 148 13 [some ((.ref 86)), some (.int i1), some (.int x3), none] [] σ2 Q))))) : mM X (d + 1) 148 0 (mm_L0 148 [(.ref 86), .int i1]) [] σ Q := by
  intro hp R
  have F : mF hp hp := mF.rf
  show mm_R X (d + 1) 148 0 [some ((.ref 86)), some (.int i1), none, none] [] hp (mQ hp Q)
  refine mm_R.cV (pc' := 5) (L' := [some ((.ref 86)), some (.int i1), none, none]) (st1 := [.int i1, .int (141 : Int32), (.ref 86)]) (as := [.int (141 : Int32), .int i1]) (rest := []) 3 rfl rfl (mw_sp rfl rfl (Nat.le_of_ble_eq_true rfl) (mw_ac rfl (mw_ac rfl (mw_ac rfl mw_an))) mw_an) rfl rfl (m_rc R rfl) ((H _ R).mono (fun o hp1 H => ?_))
  obtain ⟨σ1, R, F1, rfl, H⟩ := H
  replace F := F.tr F1
  refine mm_R.cS (pc' := 9) (L' := [some ((.ref 86)), some (.int i1), none, none]) (st1 := [.int i1]) (as := [.int i1]) (rest := []) 1 rfl rfl (mw_sp rfl rfl (Nat.le_of_ble_eq_true rfl) (mw_ac rfl mw_an) mw_an) rfl rfl ((H _ R).mono (fun o hp1 H => ?_))
  obtain ⟨σ2, R, F1, x3, rfl, H⟩ := H
  replace F := F.tr F1
  exact mm_R.pn (pc' := 13) (L' := [some ((.ref 86)), some (.int i1), some (.int x3), none]) (st' := []) 1 rfl (H.use R F)
-- StepRunnerModel.keep, from 13
set_option maxRecDepth 10000 in
theorem u148_13 {X : List Int32} {d : Nat} {i1 : Int32} {i2 : Int32} {o3 : Option Value} {σ : mS} {Q : Option Value → mS → Prop} (H : mM X d 143 0 (mm_L0 143 [(.ref 86), .int i1]) [] σ (mi_K (fun x2 σ1 => ((x2 ≤ i2 → Q none σ1) ∧ (¬ x2 ≤ i2 → mM X d 144 0 (mm_L0 144 [(.ref 86), .int i2]) [] σ1 (mi_K (fun x4 σ3 => ((¬ x4 = (2 : Int32) → mM X (d + 1) 148 13 [some ((.ref 86)), some (.int i1), some (.int (i2 + (1 : Int32))), o3] [] σ3 Q) ∧ (x4 = (2 : Int32) → mM X (d + 1) 148 33 [some ((.ref 86)), some (.int i1), some (.int i2), some (.int (0 : Int32))] [] σ3 Q))))))))) : mM X (d + 1) 148 13 [some ((.ref 86)), some (.int i1), some (.int i2), o3] [] σ Q := by
  intro hp R
  have F : mF hp hp := mF.rf
  refine mm_R.cV (pc' := 16) (L' := [some ((.ref 86)), some (.int i1), some (.int i2), o3]) (st1 := [.int i1, (.ref 86), .int i2]) (as := [.int i1]) (rest := [.int i2]) 3 rfl rfl (mw_sp rfl rfl (Nat.le_of_ble_eq_true rfl) (mw_ac rfl (mw_ac rfl mw_an)) (mw_ac rfl mw_an)) rfl rfl (m_rc R rfl) ((H _ R).mono (fun o hp1 H => ?_))
  obtain ⟨σ1, R, F1, x2, rfl, H⟩ := H
  replace F := F.tr F1
  refine mm_R.br (L' := [some ((.ref 86)), some (.int i1), some (.int i2), o3]) (st' := []) (t := 103) (u := 22) (b := mm_cc .ge i2 x2) 1 rfl (fun c => ?_) (fun c => ?_)
  · replace H := H.1 (of_decide_eq_true c)
    exact mm_R.rt (pc' := 103) (L' := [some ((.ref 86)), some (.int i1), some (.int i2), o3]) (st1 := []) 0 rfl rfl rfl rfl rfl rfl ⟨_, R, F, H⟩
  · replace H := H.2 (of_decide_eq_false c)
    refine mm_R.cV (pc' := 24) (L' := [some ((.ref 86)), some (.int i1), some (.int i2), o3]) (st1 := [.int i2, (.ref 86)]) (as := [.int i2]) (rest := []) 2 rfl rfl (mw_sp rfl rfl (Nat.le_of_ble_eq_true rfl) (mw_ac rfl (mw_ac rfl mw_an)) mw_an) rfl rfl (m_rc R rfl) ((H _ R).mono (fun o hp1 H => ?_))
    obtain ⟨σ3, R, F1, x4, rfl, H⟩ := H
    replace F := F.tr F1
    refine mm_R.br (L' := [some ((.ref 86)), some (.int i1), some (.int i2), o3]) (st' := []) (t := 97) (u := 31) (b := mm_cc .ne x4 (2 : Int32)) 2 rfl (fun c => ?_) (fun c => ?_)
    · replace H := H.1 (of_decide_eq_true c)
      exact mm_R.pn (pc' := 13) (L' := [some ((.ref 86)), some (.int i1), some (.int (i2 + (1 : Int32))), o3]) (st' := []) 2 rfl (H.use R F)
    · replace H := H.2 (Decidable.of_not_not (of_decide_eq_false c))
      exact mm_R.pn (pc' := 33) (L' := [some ((.ref 86)), some (.int i1), some (.int i2), some (.int (0 : Int32))]) (st' := []) 2 rfl (H.use R F)
-- StepRunnerModel.keep, from 33
set_option maxRecDepth 10000 in
theorem u148_33 {X : List Int32} {d : Nat} {i1 : Int32} {i2 : Int32} {i3 : Int32} {σ : mS} {Q : Option Value → mS → Prop} (H : mM X d 153 0 (mm_L0 153 [(.ref 86), .int i2]) [] σ (mi_K (fun x2 σ1 => ((x2 ≤ i3 → mM X d 153 0 (mm_L0 153 [(.ref 86), .int i2]) [] σ1 (mi_K (fun x4 σ3 => mM X d 140 0 (mm_L0 140 [(.ref 86), .int i2, .int (σ1.1 1), .int x4]) [] σ3 (m0_K (fun σ5 => mM X d 153 0 (mm_L0 153 [(.ref 86), .int i2]) [] σ5 (mi_K (fun x7 σ6 => ∀ σ8, σ8 = mSet σ6 1 ((σ5.1 1) + x7) → mM X (d + 1) 148 13 [some ((.ref 86)), some (.int i1), some (.int (i2 + (1 : Int32))), some (.int i3)] [] σ8 Q))))))) ∧ (¬ x2 ≤ i3 → mM X d 152 0 (mm_L0 152 [(.ref 86), .int i2]) [] σ1 (mi_K (fun x10 σ9 => mM X d 154 0 (mm_L0 154 [(.ref 86), .int (x10 + i3)]) [] σ9 (mi_K (fun x12 σ11 => mM X d 138 0 (mm_L0 138 [(.ref 86), .int ((σ1.1 1) + i3), .int x12]) [] σ11 (m0_K (fun σ13 => mM X (d + 1) 148 33 [some ((.ref 86)), some (.int i1), some (.int i2), some (.int (i3 + (1 : Int32)))] [] σ13 Q))))))))))) : mM X (d + 1) 148 33 [some ((.ref 86)), some (.int i1), some (.int i2), some (.int i3)] [] σ Q := by
  intro hp R
  have F : mF hp hp := mF.rf
  refine mm_R.cV (pc' := 36) (L' := [some ((.ref 86)), some (.int i1), some (.int i2), some (.int i3)]) (st1 := [.int i2, (.ref 86), .int i3]) (as := [.int i2]) (rest := [.int i3]) 3 rfl rfl (mw_sp rfl rfl (Nat.le_of_ble_eq_true rfl) (mw_ac rfl (mw_ac rfl mw_an)) (mw_ac rfl mw_an)) rfl rfl (m_rc R rfl) ((H _ R).mono (fun o hp1 H => ?_))
  obtain ⟨σ1, R, F1, x2, rfl, H⟩ := H
  replace F := F.tr F1
  refine mm_R.br (L' := [some ((.ref 86)), some (.int i1), some (.int i2), some (.int i3)]) (st' := []) (t := 69) (u := 42) (b := mm_cc .ge i3 x2) 1 rfl (fun c => ?_) (fun c => ?_)
  · replace H := H.1 (of_decide_eq_true c)
    refine mm_R.wgi (pc' := 72) (L' := [some ((.ref 86)), some (.int i1), some (.int i2), some (.int i3)]) (r := [.int i2, (.ref 86)]) 3 rfl rfl (m_gi R rfl ?_)
    refine mm_R.cV (pc' := 77) (L' := [some ((.ref 86)), some (.int i1), some (.int i2), some (.int i3)]) (st1 := [.int i2, (.ref 86), .int (σ1.1 1), .int i2, (.ref 86)]) (as := [.int i2]) (rest := [.int (σ1.1 1), .int i2, (.ref 86)]) 2 rfl rfl (mw_sp rfl rfl (Nat.le_of_ble_eq_true rfl) (mw_ac rfl (mw_ac rfl mw_an)) (mw_ac rfl (mw_ac rfl (mw_ac rfl mw_an)))) rfl rfl (m_rc R rfl) ((H _ R).mono (fun o hp1 H => ?_))
    obtain ⟨σ3, R, F1, x4, rfl, H⟩ := H
    replace F := F.tr F1
    refine mm_R.cV (pc' := 80) (L' := [some ((.ref 86)), some (.int i1), some (.int i2), some (.int i3)]) (st1 := [.int x4, .int (σ1.1 1), .int i2, (.ref 86)]) (as := [.int i2, .int (σ1.1 1), .int x4]) (rest := []) 0 rfl rfl (mw_sp rfl rfl (Nat.le_of_ble_eq_true rfl) (mw_ac rfl (mw_ac rfl (mw_ac rfl (mw_ac rfl mw_an)))) mw_an) rfl rfl (m_rc R rfl) ((H _ R).mono (fun o hp1 H => ?_))
    obtain ⟨σ5, R, F1, rfl, H⟩ := H
    replace F := F.tr F1
    refine mm_R.wgi (pc' := 85) (L' := [some ((.ref 86)), some (.int i1), some (.int i2), some (.int i3)]) (r := [(.ref 86)]) 2 rfl rfl (m_gi R rfl ?_)
    refine mm_R.cV (pc' := 90) (L' := [some ((.ref 86)), some (.int i1), some (.int i2), some (.int i3)]) (st1 := [.int i2, (.ref 86), .int (σ5.1 1), (.ref 86)]) (as := [.int i2]) (rest := [.int (σ5.1 1), (.ref 86)]) 2 rfl rfl (mw_sp rfl rfl (Nat.le_of_ble_eq_true rfl) (mw_ac rfl (mw_ac rfl mw_an)) (mw_ac rfl (mw_ac rfl mw_an))) rfl rfl (m_rc R rfl) ((H _ R).mono (fun o hp1 H => ?_))
    obtain ⟨σ6, R, F1, x7, rfl, H⟩ := H
    replace F := F.tr F1
    refine mm_R.wpt (pc' := 94) (L' := [some ((.ref 86)), some (.int i1), some (.int i2), some (.int i3)]) (r := []) 1 rfl rfl (m_pt (v := ((σ5.1 1) + x7)) R F rfl rfl rfl (fun hp R F => ?_))
    obtain ⟨σ8, es⟩ : ∃ z, z = mSet σ6 1 ((σ5.1 1) + x7) := ⟨_, rfl⟩
    rw [← es] at R
    replace H := H σ8 es
    exact mm_R.pn (pc' := 13) (L' := [some ((.ref 86)), some (.int i1), some (.int (i2 + (1 : Int32))), some (.int i3)]) (st' := []) 2 rfl (H.use R F)
  · replace H := H.2 (of_decide_eq_false c)
    refine mm_R.wgi (pc' := 44) (L' := [some ((.ref 86)), some (.int i1), some (.int i2), some (.int i3)]) (r := [(.ref 86)]) 2 rfl rfl (m_gi R rfl ?_)
    refine mm_R.cV (pc' := 52) (L' := [some ((.ref 86)), some (.int i1), some (.int i2), some (.int i3)]) (st1 := [.int i2, (.ref 86), (.ref 86), .int ((σ1.1 1) + i3), (.ref 86)]) (as := [.int i2]) (rest := [(.ref 86), .int ((σ1.1 1) + i3), (.ref 86)]) 5 rfl rfl (mw_sp rfl rfl (Nat.le_of_ble_eq_true rfl) (mw_ac rfl (mw_ac rfl mw_an)) (mw_ac rfl (mw_ac rfl (mw_ac rfl mw_an)))) rfl rfl (m_rc R rfl) ((H _ R).mono (fun o hp1 H => ?_))
    obtain ⟨σ9, R, F1, x10, rfl, H⟩ := H
    replace F := F.tr F1
    refine mm_R.cV (pc' := 57) (L' := [some ((.ref 86)), some (.int i1), some (.int i2), some (.int i3)]) (st1 := [.int (x10 + i3), (.ref 86), .int ((σ1.1 1) + i3), (.ref 86)]) (as := [.int (x10 + i3)]) (rest := [.int ((σ1.1 1) + i3), (.ref 86)]) 2 rfl rfl (mw_sp rfl rfl (Nat.le_of_ble_eq_true rfl) (mw_ac rfl (mw_ac rfl mw_an)) (mw_ac rfl (mw_ac rfl mw_an))) rfl rfl (m_rc R rfl) ((H _ R).mono (fun o hp1 H => ?_))
    obtain ⟨σ11, R, F1, x12, rfl, H⟩ := H
    replace F := F.tr F1
    refine mm_R.cV (pc' := 60) (L' := [some ((.ref 86)), some (.int i1), some (.int i2), some (.int i3)]) (st1 := [.int x12, .int ((σ1.1 1) + i3), (.ref 86)]) (as := [.int ((σ1.1 1) + i3), .int x12]) (rest := []) 0 rfl rfl (mw_sp rfl rfl (Nat.le_of_ble_eq_true rfl) (mw_ac rfl (mw_ac rfl (mw_ac rfl mw_an))) mw_an) rfl rfl (m_rc R rfl) ((H _ R).mono (fun o hp1 H => ?_))
    obtain ⟨σ13, R, F1, rfl, H⟩ := H
    replace F := F.tr F1
    exact mm_R.pn (pc' := 33) (L' := [some ((.ref 86)), some (.int i1), some (.int i2), some (.int (i3 + (1 : Int32)))]) (st' := []) 2 rfl (H.use R F)
-- StepRunnerModel.copySlot, from 0
set_option maxRecDepth 10000 in
theorem u149_0 {X : List Int32} {d : Nat} {i1 : Int32} {i2 : Int32} {σ : mS} {Q : Option Value → mS → Prop} (H : mM X d 121 0 (mm_L0 121 [(.ref 86), .int i2]) [] σ (m0_K (fun σ1 => mM X d 123 0 (mm_L0 123 [.int i1]) [] σ1 (mi_K (fun x3 σ2 => mM X d 143 0 (mm_L0 143 [(.ref 86), .int i1]) [] σ2 (mi_K (fun x5 σ4 => mM X d 150 0 (mm_L0 150 [(.ref 86), .int x3, .int x5, .int i2, .int (0 : Int32)]) [] σ4 (m0_K (fun σ6 => Q none σ6))))))))) : mM X (d + 1) 149 0 (mm_L0 149 [(.ref 86), .int i1, .int i2]) [] σ Q := by
  intro hp R
  have F : mF hp hp := mF.rf
  show mm_R X (d + 1) 149 0 [some ((.ref 86)), some (.int i1), some (.int i2)] [] hp (mQ hp Q)
  refine mm_R.cV (pc' := 2) (L' := [some ((.ref 86)), some (.int i1), some (.int i2)]) (st1 := [.int i2, (.ref 86)]) (as := [.int i2]) (rest := []) 2 rfl rfl (mw_sp rfl rfl (Nat.le_of_ble_eq_true rfl) (mw_ac rfl (mw_ac rfl mw_an)) mw_an) rfl rfl (m_rc R rfl) ((H _ R).mono (fun o hp1 H => ?_))
  obtain ⟨σ1, R, F1, rfl, H⟩ := H
  replace F := F.tr F1
  refine mm_R.cS (pc' := 7) (L' := [some ((.ref 86)), some (.int i1), some (.int i2)]) (st1 := [.int i1, (.ref 86)]) (as := [.int i1]) (rest := [(.ref 86)]) 2 rfl rfl (mw_sp rfl rfl (Nat.le_of_ble_eq_true rfl) (mw_ac rfl mw_an) (mw_ac rfl mw_an)) rfl rfl ((H _ R).mono (fun o hp1 H => ?_))
  obtain ⟨σ2, R, F1, x3, rfl, H⟩ := H
  replace F := F.tr F1
  refine mm_R.cV (pc' := 12) (L' := [some ((.ref 86)), some (.int i1), some (.int i2)]) (st1 := [.int i1, (.ref 86), .int x3, (.ref 86)]) (as := [.int i1]) (rest := [.int x3, (.ref 86)]) 2 rfl rfl (mw_sp rfl rfl (Nat.le_of_ble_eq_true rfl) (mw_ac rfl (mw_ac rfl mw_an)) (mw_ac rfl (mw_ac rfl mw_an))) rfl rfl (m_rc R rfl) ((H _ R).mono (fun o hp1 H => ?_))
  obtain ⟨σ4, R, F1, x5, rfl, H⟩ := H
  replace F := F.tr F1
  refine mm_R.cV (pc' := 17) (L' := [some ((.ref 86)), some (.int i1), some (.int i2)]) (st1 := [.int (0 : Int32), .int i2, .int x5, .int x3, (.ref 86)]) (as := [.int x3, .int x5, .int i2, .int (0 : Int32)]) (rest := []) 2 rfl rfl (mw_sp rfl rfl (Nat.le_of_ble_eq_true rfl) (mw_ac rfl (mw_ac rfl (mw_ac rfl (mw_ac rfl (mw_ac rfl mw_an))))) mw_an) rfl rfl (m_rc R rfl) ((H _ R).mono (fun o hp1 H => ?_))
  obtain ⟨σ6, R, F1, rfl, H⟩ := H
  replace F := F.tr F1
  exact mm_R.rt (pc' := 20) (L' := [some ((.ref 86)), some (.int i1), some (.int i2)]) (st1 := []) 0 rfl rfl rfl rfl rfl rfl ⟨_, R, F, H⟩
-- StepRunnerModel.copy, from 0
set_option maxRecDepth 10000 in
theorem u150_0 {X : List Int32} {d : Nat} {i1 : Int32} {i2 : Int32} {i3 : Int32} {i4 : Int32} {σ : mS} {Q : Option Value → mS → Prop} (H : mM X d 147 0 (mm_L0 147 [(.ref 86), .int i1, .int i2]) [] σ (mi_K (fun x2 σ1 => mM X (d + 1) 150 11 [some ((.ref 86)), some (.int i1), some (.int i2), some (.int i3), some (.int i4), some (.int x2), some (.int i1)] [] σ1 Q))) : mM X (d + 1) 150 0 (mm_L0 150 [(.ref 86), .int i1, .int i2, .int i3, .int i4]) [] σ Q := by
  intro hp R
  have F : mF hp hp := mF.rf
  show mm_R X (d + 1) 150 0 [some ((.ref 86)), some (.int i1), some (.int i2), some (.int i3), some (.int i4), none, none] [] hp (mQ hp Q)
  refine mm_R.cV (pc' := 3) (L' := [some ((.ref 86)), some (.int i1), some (.int i2), some (.int i3), some (.int i4), none, none]) (st1 := [.int i2, .int i1, (.ref 86)]) (as := [.int i1, .int i2]) (rest := []) 3 rfl rfl (mw_sp rfl rfl (Nat.le_of_ble_eq_true rfl) (mw_ac rfl (mw_ac rfl (mw_ac rfl mw_an))) mw_an) rfl rfl (m_rc R rfl) ((H _ R).mono (fun o hp1 H => ?_))
  obtain ⟨σ1, R, F1, x2, rfl, H⟩ := H
  replace F := F.tr F1
  exact mm_R.pn (pc' := 11) (L' := [some ((.ref 86)), some (.int i1), some (.int i2), some (.int i3), some (.int i4), some (.int x2), some (.int i1)]) (st' := []) 3 rfl (H.use R F)
-- StepRunnerModel.copy, from 11
set_option maxRecDepth 10000 in
theorem u150_11 {X : List Int32} {d : Nat} {i1 : Int32} {i2 : Int32} {i3 : Int32} {i4 : Int32} {i5 : Int32} {i6 : Int32} {σ : mS} {Q : Option Value → mS → Prop} (H : ((i5 ≤ i6 → Q none σ) ∧ (¬ i5 ≤ i6 → mM X d 144 0 (mm_L0 144 [(.ref 86), .int i6]) [] σ (mi_K (fun x2 σ1 => mM X d 145 0 (mm_L0 145 [(.ref 86), .int i6]) [] σ1 (mi_K (fun x4 σ3 => mM X d 145 0 (mm_L0 145 [(.ref 86), .int i1]) [] σ3 (mi_K (fun x6 σ5 => mM X d 151 0 (mm_L0 151 [(.ref 86), .int i6]) [] σ5 (mi_K (fun x8 σ7 => mM X d 122 0 (mm_L0 122 [(.ref 86), .int i3, .int x2, .int ((i4 + x4) - x6), .int x8]) [] σ7 (m0_K (fun σ9 => mM X d 143 0 (mm_L0 143 [(.ref 86), .int i3]) [] σ9 (mi_K (fun x11 σ10 => mM X d 152 0 (mm_L0 152 [(.ref 86), .int i6]) [] σ10 (mi_K (fun x13 σ12 => mM X d 153 0 (mm_L0 153 [(.ref 86), .int i6]) [] σ12 (mi_K (fun x15 σ14 => mM X d 140 0 (mm_L0 140 [(.ref 86), .int (x11 - (1 : Int32)), .int x13, .int x15]) [] σ14 (m0_K (fun σ16 => mM X (d + 1) 150 11 [some ((.ref 86)), some (.int i1), some (.int i2), some (.int i3), some (.int i4), some (.int i5), some (.int (i6 + (1 : Int32)))] [] σ16 Q))))))))))))))))))))) : mM X (d + 1) 150 11 [some ((.ref 86)), some (.int i1), some (.int i2), some (.int i3), some (.int i4), some (.int i5), some (.int i6)] [] σ Q := by
  intro hp R
  have F : mF hp hp := mF.rf
  refine mm_R.br (L' := [some ((.ref 86)), some (.int i1), some (.int i2), some (.int i3), some (.int i4), some (.int i5), some (.int i6)]) (st' := []) (t := 79) (u := 18) (b := mm_cc .ge i6 i5) 3 rfl (fun c => ?_) (fun c => ?_)
  · replace H := H.1 (of_decide_eq_true c)
    exact mm_R.rt (pc' := 79) (L' := [some ((.ref 86)), some (.int i1), some (.int i2), some (.int i3), some (.int i4), some (.int i5), some (.int i6)]) (st1 := []) 0 rfl rfl rfl rfl rfl rfl ⟨_, R, F, H⟩
  · replace H := H.2 (of_decide_eq_false c)
    refine mm_R.cV (pc' := 23) (L' := [some ((.ref 86)), some (.int i1), some (.int i2), some (.int i3), some (.int i4), some (.int i5), some (.int i6)]) (st1 := [.int i6, (.ref 86), .int i3, (.ref 86)]) (as := [.int i6]) (rest := [.int i3, (.ref 86)]) 4 rfl rfl (mw_sp rfl rfl (Nat.le_of_ble_eq_true rfl) (mw_ac rfl (mw_ac rfl mw_an)) (mw_ac rfl (mw_ac rfl mw_an))) rfl rfl (m_rc R rfl) ((H _ R).mono (fun o hp1 H => ?_))
    obtain ⟨σ1, R, F1, x2, rfl, H⟩ := H
    replace F := F.tr F1
    refine mm_R.cV (pc' := 31) (L' := [some ((.ref 86)), some (.int i1), some (.int i2), some (.int i3), some (.int i4), some (.int i5), some (.int i6)]) (st1 := [.int i6, (.ref 86), .int i4, .int x2, .int i3, (.ref 86)]) (as := [.int i6]) (rest := [.int i4, .int x2, .int i3, (.ref 86)]) 3 rfl rfl (mw_sp rfl rfl (Nat.le_of_ble_eq_true rfl) (mw_ac rfl (mw_ac rfl mw_an)) (mw_ac rfl (mw_ac rfl (mw_ac rfl (mw_ac rfl mw_an))))) rfl rfl (m_rc R rfl) ((H _ R).mono (fun o hp1 H => ?_))
    obtain ⟨σ3, R, F1, x4, rfl, H⟩ := H
    replace F := F.tr F1
    refine mm_R.cV (pc' := 37) (L' := [some ((.ref 86)), some (.int i1), some (.int i2), some (.int i3), some (.int i4), some (.int i5), some (.int i6)]) (st1 := [.int i1, (.ref 86), .int (i4 + x4), .int x2, .int i3, (.ref 86)]) (as := [.int i1]) (rest := [.int (i4 + x4), .int x2, .int i3, (.ref 86)]) 3 rfl rfl (mw_sp rfl rfl (Nat.le_of_ble_eq_true rfl) (mw_ac rfl (mw_ac rfl mw_an)) (mw_ac rfl (mw_ac rfl (mw_ac rfl (mw_ac rfl mw_an))))) rfl rfl (m_rc R rfl) ((H _ R).mono (fun o hp1 H => ?_))
    obtain ⟨σ5, R, F1, x6, rfl, H⟩ := H
    replace F := F.tr F1
    refine mm_R.cV (pc' := 44) (L' := [some ((.ref 86)), some (.int i1), some (.int i2), some (.int i3), some (.int i4), some (.int i5), some (.int i6)]) (st1 := [.int i6, (.ref 86), .int ((i4 + x4) - x6), .int x2, .int i3, (.ref 86)]) (as := [.int i6]) (rest := [.int ((i4 + x4) - x6), .int x2, .int i3, (.ref 86)]) 3 rfl rfl (mw_sp rfl rfl (Nat.le_of_ble_eq_true rfl) (mw_ac rfl (mw_ac rfl mw_an)) (mw_ac rfl (mw_ac rfl (mw_ac rfl (mw_ac rfl mw_an))))) rfl rfl (m_rc R rfl) ((H _ R).mono (fun o hp1 H => ?_))
    obtain ⟨σ7, R, F1, x8, rfl, H⟩ := H
    replace F := F.tr F1
    refine mm_R.cV (pc' := 47) (L' := [some ((.ref 86)), some (.int i1), some (.int i2), some (.int i3), some (.int i4), some (.int i5), some (.int i6)]) (st1 := [.int x8, .int ((i4 + x4) - x6), .int x2, .int i3, (.ref 86)]) (as := [.int i3, .int x2, .int ((i4 + x4) - x6), .int x8]) (rest := []) 0 rfl rfl (mw_sp rfl rfl (Nat.le_of_ble_eq_true rfl) (mw_ac rfl (mw_ac rfl (mw_ac rfl (mw_ac rfl (mw_ac rfl mw_an))))) mw_an) rfl rfl (m_rc R rfl) ((H _ R).mono (fun o hp1 H => ?_))
    obtain ⟨σ9, R, F1, rfl, H⟩ := H
    replace F := F.tr F1
    refine mm_R.cV (pc' := 53) (L' := [some ((.ref 86)), some (.int i1), some (.int i2), some (.int i3), some (.int i4), some (.int i5), some (.int i6)]) (st1 := [.int i3, (.ref 86), (.ref 86)]) (as := [.int i3]) (rest := [(.ref 86)]) 3 rfl rfl (mw_sp rfl rfl (Nat.le_of_ble_eq_true rfl) (mw_ac rfl (mw_ac rfl mw_an)) (mw_ac rfl mw_an)) rfl rfl (m_rc R rfl) ((H _ R).mono (fun o hp1 H => ?_))
    obtain ⟨σ10, R, F1, x11, rfl, H⟩ := H
    replace F := F.tr F1
    refine mm_R.cV (pc' := 61) (L' := [some ((.ref 86)), some (.int i1), some (.int i2), some (.int i3), some (.int i4), some (.int i5), some (.int i6)]) (st1 := [.int i6, (.ref 86), .int (x11 - (1 : Int32)), (.ref 86)]) (as := [.int i6]) (rest := [.int (x11 - (1 : Int32)), (.ref 86)]) 4 rfl rfl (mw_sp rfl rfl (Nat.le_of_ble_eq_true rfl) (mw_ac rfl (mw_ac rfl mw_an)) (mw_ac rfl (mw_ac rfl mw_an))) rfl rfl (m_rc R rfl) ((H _ R).mono (fun o hp1 H => ?_))
    obtain ⟨σ12, R, F1, x13, rfl, H⟩ := H
    replace F := F.tr F1
    refine mm_R.cV (pc' := 67) (L' := [some ((.ref 86)), some (.int i1), some (.int i2), some (.int i3), some (.int i4), some (.int i5), some (.int i6)]) (st1 := [.int i6, (.ref 86), .int x13, .int (x11 - (1 : Int32)), (.ref 86)]) (as := [.int i6]) (rest := [.int x13, .int (x11 - (1 : Int32)), (.ref 86)]) 2 rfl rfl (mw_sp rfl rfl (Nat.le_of_ble_eq_true rfl) (mw_ac rfl (mw_ac rfl mw_an)) (mw_ac rfl (mw_ac rfl (mw_ac rfl mw_an)))) rfl rfl (m_rc R rfl) ((H _ R).mono (fun o hp1 H => ?_))
    obtain ⟨σ14, R, F1, x15, rfl, H⟩ := H
    replace F := F.tr F1
    refine mm_R.cV (pc' := 70) (L' := [some ((.ref 86)), some (.int i1), some (.int i2), some (.int i3), some (.int i4), some (.int i5), some (.int i6)]) (st1 := [.int x15, .int x13, .int (x11 - (1 : Int32)), (.ref 86)]) (as := [.int (x11 - (1 : Int32)), .int x13, .int x15]) (rest := []) 0 rfl rfl (mw_sp rfl rfl (Nat.le_of_ble_eq_true rfl) (mw_ac rfl (mw_ac rfl (mw_ac rfl (mw_ac rfl mw_an)))) mw_an) rfl rfl (m_rc R rfl) ((H _ R).mono (fun o hp1 H => ?_))
    obtain ⟨σ16, R, F1, rfl, H⟩ := H
    replace F := F.tr F1
    exact mm_R.pn (pc' := 11) (L' := [some ((.ref 86)), some (.int i1), some (.int i2), some (.int i3), some (.int i4), some (.int i5), some (.int (i6 + (1 : Int32)))]) (st' := []) 2 rfl (H.use R F)
-- StepRunnerModel.num, from 0
set_option maxRecDepth 10000 in
theorem u151_0 {X : List Int32} {d : Nat} {i1 : Int32} {σ : mS} {Q : Option Value → mS → Prop} (H : (0 ≤ i1 ∧ Int32.toNatClampNeg i1 < 9856) ∧ Q (some (.int (Int64.toInt32 ((mGeL σ 89 i1) >>> (Int32.toInt64 (32 : Int32) &&& 63))))) σ) : mM X (d + 1) 151 0 (mm_L0 151 [(.ref 86), .int i1]) [] σ Q := by
  intro hp R
  have F : mF hp hp := mF.rf
  show mm_R X (d + 1) 151 0 [some ((.ref 86)), some (.int i1)] [] hp (mQ hp Q)
  refine mm_R.wgv (pc' := 1) (L' := [some ((.ref 86)), some (.int i1)]) (r := []) 1 rfl rfl (m_gv R rfl ?_)
  obtain ⟨hi1, H⟩ := H
  refine mm_R.wal (pc' := 5) (L' := [some ((.ref 86)), some (.int i1)]) (r := []) (t := 1004) 1 rfl rfl rfl rfl (m_al (i := i1) R (n := 9856) (by decide) hi1 ?_)
  exact mm_R.rt (pc' := 10) (L' := [some ((.ref 86)), some (.int i1)]) (st1 := [.int (Int64.toInt32 ((mGeL σ 89 i1) >>> (Int32.toInt64 (32 : Int32) &&& 63)))]) 3 rfl rfl rfl rfl rfl rfl ⟨_, R, F, H⟩
-- StepRunnerModel.at, from 0
set_option maxRecDepth 10000 in
theorem u152_0 {X : List Int32} {d : Nat} {i1 : Int32} {σ : mS} {Q : Option Value → mS → Prop} (H : (0 ≤ i1 ∧ Int32.toNatClampNeg i1 < 9856) ∧ Q (some (.int (Int64.toInt32 (((mGeL σ 89 i1) >>> (Int32.toInt64 (14 : Int32) &&& 63)) &&& (32767 : Int64))))) σ) : mM X (d + 1) 152 0 (mm_L0 152 [(.ref 86), .int i1]) [] σ Q := by
  intro hp R
  have F : mF hp hp := mF.rf
  show mm_R X (d + 1) 152 0 [some ((.ref 86)), some (.int i1)] [] hp (mQ hp Q)
  refine mm_R.wgv (pc' := 1) (L' := [some ((.ref 86)), some (.int i1)]) (r := []) 1 rfl rfl (m_gv R rfl ?_)
  obtain ⟨hi1, H⟩ := H
  refine mm_R.wal (pc' := 5) (L' := [some ((.ref 86)), some (.int i1)]) (r := []) (t := 1004) 1 rfl rfl rfl rfl (m_al (i := i1) R (n := 9856) (by decide) hi1 ?_)
  exact mm_R.rt (pc' := 14) (L' := [some ((.ref 86)), some (.int i1)]) (st1 := [.int (Int64.toInt32 (((mGeL σ 89 i1) >>> (Int32.toInt64 (14 : Int32) &&& 63)) &&& (32767 : Int64)))]) 5 rfl rfl rfl rfl rfl rfl ⟨_, R, F, H⟩
-- StepRunnerModel.len, from 0
set_option maxRecDepth 10000 in
theorem u153_0 {X : List Int32} {d : Nat} {i1 : Int32} {σ : mS} {Q : Option Value → mS → Prop} (H : (0 ≤ i1 ∧ Int32.toNatClampNeg i1 < 9856) ∧ Q (some (.int (Int64.toInt32 (((mGeL σ 89 i1) >>> (Int32.toInt64 (8 : Int32) &&& 63)) &&& (63 : Int64))))) σ) : mM X (d + 1) 153 0 (mm_L0 153 [(.ref 86), .int i1]) [] σ Q := by
  intro hp R
  have F : mF hp hp := mF.rf
  show mm_R X (d + 1) 153 0 [some ((.ref 86)), some (.int i1)] [] hp (mQ hp Q)
  refine mm_R.wgv (pc' := 1) (L' := [some ((.ref 86)), some (.int i1)]) (r := []) 1 rfl rfl (m_gv R rfl ?_)
  obtain ⟨hi1, H⟩ := H
  refine mm_R.wal (pc' := 5) (L' := [some ((.ref 86)), some (.int i1)]) (r := []) (t := 1004) 1 rfl rfl rfl rfl (m_al (i := i1) R (n := 9856) (by decide) hi1 ?_)
  exact mm_R.rt (pc' := 14) (L' := [some ((.ref 86)), some (.int i1)]) (st1 := [.int (Int64.toInt32 (((mGeL σ 89 i1) >>> (Int32.toInt64 (8 : Int32) &&& 63)) &&& (63 : Int64)))]) 5 rfl rfl rfl rfl rfl rfl ⟨_, R, F, H⟩
-- StepRunnerModel.sign, from 0
set_option maxRecDepth 10000 in
theorem u154_0 {X : List Int32} {d : Nat} {i1 : Int32} {σ : mS} {Q : Option Value → mS → Prop} (H : (0 ≤ (i1 / (8 : Int32)) ∧ Int32.toNatClampNeg (i1 / (8 : Int32)) < 2400) ∧ (0 ≤ ((Int32.toUInt32 (Int64.toInt32 (((mGeL σ 87 (i1 / (8 : Int32))) >>> (Int32.toInt64 ((8 : Int32) * (i1 - i1 / (8 : Int32) * (8 : Int32))) &&& 63)) &&& (127 : Int64))) % 65536).toInt32) ∧ ((Int32.toUInt32 (Int64.toInt32 (((mGeL σ 87 (i1 / (8 : Int32))) >>> (Int32.toInt64 ((8 : Int32) * (i1 - i1 / (8 : Int32) * (8 : Int32))) &&& 63)) &&& (127 : Int64))) % 65536).toInt32) ≤ 65535) ∧ Q (some (.int ((Int32.toUInt32 (Int64.toInt32 (((mGeL σ 87 (i1 / (8 : Int32))) >>> (Int32.toInt64 ((8 : Int32) * (i1 - i1 / (8 : Int32) * (8 : Int32))) &&& 63)) &&& (127 : Int64))) % 65536).toInt32))) σ) : mM X (d + 1) 154 0 (mm_L0 154 [(.ref 86), .int i1]) [] σ Q := by
  intro hp R
  have F : mF hp hp := mF.rf
  show mm_R X (d + 1) 154 0 [some ((.ref 86)), some (.int i1)] [] hp (mQ hp Q)
  refine mm_R.wgv (pc' := 1) (L' := [some ((.ref 86)), some (.int i1)]) (r := []) 1 rfl rfl (m_gv R rfl ?_)
  obtain ⟨hi1, H⟩ := H
  refine mm_R.wal (pc' := 8) (L' := [some ((.ref 86)), some (.int i1)]) (r := []) (t := 1004) 3 rfl rfl rfl rfl (m_al (i := (i1 / (8 : Int32))) R (n := 2400) (by decide) hi1 ?_)
  exact mm_R.rt (pc' := 23) (L' := [some ((.ref 86)), some (.int i1)]) (st1 := [.int ((Int32.toUInt32 (Int64.toInt32 (((mGeL σ 87 (i1 / (8 : Int32))) >>> (Int32.toInt64 ((8 : Int32) * (i1 - i1 / (8 : Int32) * (8 : Int32))) &&& 63)) &&& (127 : Int64))) % 65536).toInt32)]) 10 rfl rfl rfl rfl rfl (mw_rvi (ty := .char) (m_fc H.1)) ⟨_, R, F, H.2⟩
-- StepRunnerModel.from, from 0
set_option maxRecDepth 10000 in
theorem u155_0 {X : List Int32} {d : Nat} {i1 : Int32} {i2 : Int32} {σ : mS} {Q : Option Value → mS → Prop} (H : mM X d 126 0 (mm_L0 126 [(.ref 86)]) [] σ (mi_K (fun x2 σ1 => ((x2 = (0 : Int32) → mM X (d + 1) 155 29 [some ((.ref 86)), some (.int i1), some (.int i2), none] [.int (0 : Int32)] σ1 Q) ∧ (¬ x2 = (0 : Int32) → mM X d 131 0 (mm_L0 131 [(.ref 86), .int i1]) [] σ1 (mi_K (fun x4 σ3 => ((x4 = (0 : Int32) → mM X (d + 1) 155 29 [some ((.ref 86)), some (.int i1), some (.int i2), none] [.int (0 : Int32)] σ3 Q) ∧ (¬ x4 = (0 : Int32) → mM X d 127 0 (mm_L0 127 [.int i2, .int (0 : Int32), .int (3 : Int32)]) [] σ3 (mi_K (fun x6 σ5 => ((x6 = (0 : Int32) → mM X (d + 1) 155 29 [some ((.ref 86)), some (.int i1), some (.int i2), none] [.int (0 : Int32)] σ5 Q) ∧ (¬ x6 = (0 : Int32) → mM X (d + 1) 155 29 [some ((.ref 86)), some (.int i1), some (.int i2), none] [.int (1 : Int32)] σ5 Q))))))))))))) : mM X (d + 1) 155 0 (mm_L0 155 [(.ref 86), .int i1, .int i2]) [] σ Q := by
  intro hp R
  have F : mF hp hp := mF.rf
  show mm_R X (d + 1) 155 0 [some ((.ref 86)), some (.int i1), some (.int i2), none] [] hp (mQ hp Q)
  refine mm_R.cV (pc' := 1) (L' := [some ((.ref 86)), some (.int i1), some (.int i2), none]) (st1 := [(.ref 86)]) (as := []) (rest := []) 1 rfl rfl (mw_sp rfl rfl (Nat.le_of_ble_eq_true rfl) (mw_ac rfl mw_an) mw_an) rfl rfl (m_rc R rfl) ((H _ R).mono (fun o hp1 H => ?_))
  obtain ⟨σ1, R, F1, x2, rfl, H⟩ := H
  replace F := F.tr F1
  refine mm_R.br (L' := [some ((.ref 86)), some (.int i1), some (.int i2), none]) (st' := []) (t := 28) (u := 7) (b := mm_cc .eq x2 (0 : Int32)) 1 rfl (fun c => ?_) (fun c => ?_)
  · replace H := H.1 (of_decide_eq_true c)
    exact mm_R.pn (pc' := 29) (L' := [some ((.ref 86)), some (.int i1), some (.int i2), none]) (st' := [.int (0 : Int32)]) 1 rfl (H.use R F)
  · replace H := H.2 (of_decide_eq_false c)
    refine mm_R.cV (pc' := 9) (L' := [some ((.ref 86)), some (.int i1), some (.int i2), none]) (st1 := [.int i1, (.ref 86)]) (as := [.int i1]) (rest := []) 2 rfl rfl (mw_sp rfl rfl (Nat.le_of_ble_eq_true rfl) (mw_ac rfl (mw_ac rfl mw_an)) mw_an) rfl rfl (m_rc R rfl) ((H _ R).mono (fun o hp1 H => ?_))
    obtain ⟨σ3, R, F1, x4, rfl, H⟩ := H
    replace F := F.tr F1
    refine mm_R.br (L' := [some ((.ref 86)), some (.int i1), some (.int i2), none]) (st' := []) (t := 28) (u := 15) (b := mm_cc .eq x4 (0 : Int32)) 1 rfl (fun c => ?_) (fun c => ?_)
    · replace H := H.1 (of_decide_eq_true c)
      exact mm_R.pn (pc' := 29) (L' := [some ((.ref 86)), some (.int i1), some (.int i2), none]) (st' := [.int (0 : Int32)]) 1 rfl (H.use R F)
    · replace H := H.2 (of_decide_eq_false c)
      refine mm_R.cS (pc' := 18) (L' := [some ((.ref 86)), some (.int i1), some (.int i2), none]) (st1 := [.int (3 : Int32), .int (0 : Int32), .int i2]) (as := [.int i2, .int (0 : Int32), .int (3 : Int32)]) (rest := []) 3 rfl rfl (mw_sp rfl rfl (Nat.le_of_ble_eq_true rfl) (mw_ac rfl (mw_ac rfl (mw_ac rfl mw_an))) mw_an) rfl rfl ((H _ R).mono (fun o hp1 H => ?_))
      obtain ⟨σ5, R, F1, x6, rfl, H⟩ := H
      replace F := F.tr F1
      refine mm_R.br (L' := [some ((.ref 86)), some (.int i1), some (.int i2), none]) (st' := []) (t := 28) (u := 24) (b := mm_cc .eq x6 (0 : Int32)) 1 rfl (fun c => ?_) (fun c => ?_)
      · replace H := H.1 (of_decide_eq_true c)
        exact mm_R.pn (pc' := 29) (L' := [some ((.ref 86)), some (.int i1), some (.int i2), none]) (st' := [.int (0 : Int32)]) 1 rfl (H.use R F)
      · replace H := H.2 (of_decide_eq_false c)
        exact mm_R.pn (pc' := 29) (L' := [some ((.ref 86)), some (.int i1), some (.int i2), none]) (st' := [.int (1 : Int32)]) 2 rfl (H.use R F)
-- StepRunnerModel.from, from 29
set_option maxRecDepth 10000 in
theorem u155_29 {X : List Int32} {d : Nat} {i1 : Int32} {i2 : Int32} {o3 : Option Value} {s0 : Int32} {σ : mS} {Q : Option Value → mS → Prop} (H : ((s0 = (0 : Int32) → mM X d 156 0 (mm_L0 156 [(.ref 86), .int s0, .int (0 : Int32)]) [] σ (mi_K (fun x2 σ1 => (x2 = 0 ∨ x2 = 1) ∧ Q (some (.int x2)) σ1))) ∧ (¬ s0 = (0 : Int32) → mM X d 156 0 (mm_L0 156 [(.ref 86), .int s0, .int (((4 : Int32) * i1) + i2)]) [] σ (mi_K (fun x4 σ3 => (x4 = 0 ∨ x4 = 1) ∧ Q (some (.int x4)) σ3))))) : mM X (d + 1) 155 29 [some ((.ref 86)), some (.int i1), some (.int i2), o3] [.int s0] σ Q := by
  intro hp R
  have F : mF hp hp := mF.rf
  refine mm_R.br (L' := [some ((.ref 86)), some (.int i1), some (.int i2), some (.int s0)]) (st' := [.int s0, (.ref 86)]) (t := 44) (u := 36) (b := mm_cc .eq s0 (0 : Int32)) 5 rfl (fun c => ?_) (fun c => ?_)
  · replace H := H.1 (of_decide_eq_true c)
    refine mm_R.cV (pc' := 45) (L' := [some ((.ref 86)), some (.int i1), some (.int i2), some (.int s0)]) (st1 := [.int (0 : Int32), .int s0, (.ref 86)]) (as := [.int s0, .int (0 : Int32)]) (rest := []) 1 rfl rfl (mw_sp rfl rfl (Nat.le_of_ble_eq_true rfl) (mw_ac rfl (mw_ac rfl (mw_ac rfl mw_an))) mw_an) rfl rfl (m_rc R rfl) ((H _ R).mono (fun o hp1 H => ?_))
    obtain ⟨σ1, R, F1, x2, rfl, H⟩ := H
    replace F := F.tr F1
    exact mm_R.rt (pc' := 48) (L' := [some ((.ref 86)), some (.int i1), some (.int i2), some (.int s0)]) (st1 := [.int x2]) 0 rfl rfl rfl rfl rfl (mw_rvi (ty := .boolean) (m_fz H.1)) ⟨_, R, F, H.2⟩
  · replace H := H.2 (of_decide_eq_false c)
    refine mm_R.cV (pc' := 45) (L' := [some ((.ref 86)), some (.int i1), some (.int i2), some (.int s0)]) (st1 := [.int (((4 : Int32) * i1) + i2), .int s0, (.ref 86)]) (as := [.int s0, .int (((4 : Int32) * i1) + i2)]) (rest := []) 6 rfl rfl (mw_sp rfl rfl (Nat.le_of_ble_eq_true rfl) (mw_ac rfl (mw_ac rfl (mw_ac rfl mw_an))) mw_an) rfl rfl (m_rc R rfl) ((H _ R).mono (fun o hp1 H => ?_))
    obtain ⟨σ3, R, F1, x4, rfl, H⟩ := H
    replace F := F.tr F1
    exact mm_R.rt (pc' := 48) (L' := [some ((.ref 86)), some (.int i1), some (.int i2), some (.int s0)]) (st1 := [.int x4]) 0 rfl rfl rfl rfl rfl (mw_rvi (ty := .boolean) (m_fz H.1)) ⟨_, R, F, H.2⟩
-- StepRunnerModel.keepRule, from 0
set_option maxRecDepth 10000 in
theorem u156_0 {X : List Int32} {d : Nat} {i1 : Int32} {i2 : Int32} {σ : mS} {Q : Option Value → mS → Prop} (H : ((i1 = (0 : Int32) → mM X (d + 1) 156 20 [some ((.ref 86)), some (.int i1), some (.int i2), some (.int (0 : Int32)), some (.int (0 : Int32))] [] σ Q) ∧ (¬ i1 = (0 : Int32) → mM X d 157 0 (mm_L0 157 [(.ref 86)]) [] σ (mi_K (fun x2 σ1 => ((x2 = (0 : Int32) → mM X (d + 1) 156 20 [some ((.ref 86)), some (.int i1), some (.int i2), some (.int (0 : Int32)), some (.int (0 : Int32))] [] σ1 Q) ∧ (¬ x2 = (0 : Int32) → mM X (d + 1) 156 20 [some ((.ref 86)), some (.int i1), some (.int i2), some (.int (1 : Int32)), some (.int (0 : Int32))] [] σ1 Q))))))) : mM X (d + 1) 156 0 (mm_L0 156 [(.ref 86), .int i1, .int i2]) [] σ Q := by
  intro hp R
  have F : mF hp hp := mF.rf
  show mm_R X (d + 1) 156 0 [some ((.ref 86)), some (.int i1), some (.int i2), none, none] [] hp (mQ hp Q)
  refine mm_R.br (L' := [some ((.ref 86)), some (.int i1), some (.int i2), none, none]) (st' := []) (t := 15) (u := 4) (b := mm_cc .eq i1 (0 : Int32)) 2 rfl (fun c => ?_) (fun c => ?_)
  · replace H := H.1 (of_decide_eq_true c)
    exact mm_R.pn (pc' := 20) (L' := [some ((.ref 86)), some (.int i1), some (.int i2), some (.int (0 : Int32)), some (.int (0 : Int32))]) (st' := []) 4 rfl (H.use R F)
  · replace H := H.2 (of_decide_eq_false c)
    refine mm_R.cV (pc' := 5) (L' := [some ((.ref 86)), some (.int i1), some (.int i2), none, none]) (st1 := [(.ref 86)]) (as := []) (rest := []) 1 rfl rfl (mw_sp rfl rfl (Nat.le_of_ble_eq_true rfl) (mw_ac rfl mw_an) mw_an) rfl rfl (m_rc R rfl) ((H _ R).mono (fun o hp1 H => ?_))
    obtain ⟨σ1, R, F1, x2, rfl, H⟩ := H
    replace F := F.tr F1
    refine mm_R.br (L' := [some ((.ref 86)), some (.int i1), some (.int i2), none, none]) (st' := []) (t := 15) (u := 11) (b := mm_cc .eq x2 (0 : Int32)) 1 rfl (fun c => ?_) (fun c => ?_)
    · replace H := H.1 (of_decide_eq_true c)
      exact mm_R.pn (pc' := 20) (L' := [some ((.ref 86)), some (.int i1), some (.int i2), some (.int (0 : Int32)), some (.int (0 : Int32))]) (st' := []) 4 rfl (H.use R F)
    · replace H := H.2 (of_decide_eq_false c)
      exact mm_R.pn (pc' := 20) (L' := [some ((.ref 86)), some (.int i1), some (.int i2), some (.int (1 : Int32)), some (.int (0 : Int32))]) (st' := []) 5 rfl (H.use R F)
-- StepRunnerModel.keepRule, from 20
set_option maxRecDepth 10000 in
theorem u156_20 {X : List Int32} {d : Nat} {i1 : Int32} {i2 : Int32} {i3 : Int32} {i4 : Int32} {σ : mS} {Q : Option Value → mS → Prop} (H : (((σ.1 3) ≤ i4 → mM X (d + 1) 156 58 [some ((.ref 86)), some (.int i1), some (.int i2), some (.int i3), some (.int i4)] [] σ Q) ∧ (¬ (σ.1 3) ≤ i4 → ((i3 = (0 : Int32) → mM X (d + 1) 156 58 [some ((.ref 86)), some (.int i1), some (.int i2), some (.int i3), some (.int i4)] [] σ Q) ∧ (¬ i3 = (0 : Int32) → (0 ≤ i4 ∧ Int32.toNatClampNeg i4 < 60) ∧ (0 ≤ (((60 : Int32) * i2) + i4) ∧ Int32.toNatClampNeg (((60 : Int32) * i2) + i4) < 1800) ∧ (0 ≤ (mGet σ 88 i4) ∧ (mGet σ 88 i4) ≤ 65535) ∧ ∀ σ3, σ3 = mPut σ 104 (((60 : Int32) * i2) + i4) (mGet σ 88 i4) → mM X (d + 1) 156 20 [some ((.ref 86)), some (.int i1), some (.int i2), some (.int i3), some (.int (i4 + (1 : Int32)))] [] σ3 Q))))) : mM X (d + 1) 156 20 [some ((.ref 86)), some (.int i1), some (.int i2), some (.int i3), some (.int i4)] [] σ Q := by
  intro hp R
  have F : mF hp hp := mF.rf
  refine mm_R.wgi (pc' := 23) (L' := [some ((.ref 86)), some (.int i1), some (.int i2), some (.int i3), some (.int i4)]) (r := [.int i4]) 2 rfl rfl (m_gi R rfl ?_)
  refine mm_R.br (L' := [some ((.ref 86)), some (.int i1), some (.int i2), some (.int i3), some (.int i4)]) (st' := []) (t := 58) (u := 29) (b := mm_cc .ge i4 (σ.1 3)) 1 rfl (fun c => ?_) (fun c => ?_)
  · replace H := H.1 (of_decide_eq_true c)
    exact H.use R F
  · replace H := H.2 (of_decide_eq_false c)
    refine mm_R.br (L' := [some ((.ref 86)), some (.int i1), some (.int i2), some (.int i3), some (.int i4)]) (st' := []) (t := 58) (u := 33) (b := mm_cc .eq i3 (0 : Int32)) 2 rfl (fun c => ?_) (fun c => ?_)
    · replace H := H.1 (of_decide_eq_true c)
      exact H.use R F
    · replace H := H.2 (of_decide_eq_false c)
      refine mm_R.wgv (pc' := 34) (L' := [some ((.ref 86)), some (.int i1), some (.int i2), some (.int i3), some (.int i4)]) (r := []) 1 rfl rfl (m_gv R rfl ?_)
      refine mm_R.wgv (pc' := 45) (L' := [some ((.ref 86)), some (.int i1), some (.int i2), some (.int i3), some (.int i4)]) (r := [.int (((60 : Int32) * i2) + i4), (.ref 104)]) 6 rfl rfl (m_gv R rfl ?_)
      obtain ⟨hi1, H⟩ := H
      refine mm_R.wai (pc' := 50) (L' := [some ((.ref 86)), some (.int i1), some (.int i2), some (.int i3), some (.int i4)]) (r := [.int (((60 : Int32) * i2) + i4), (.ref 104)]) (t := 1001) 1 rfl rfl rfl rfl (m_ai (i := i4) R (n := 60) (by decide) hi1 ?_)
      obtain ⟨hi2, H⟩ := H
      obtain ⟨hf4, H⟩ := H
      refine mm_R.wsi (pc' := 51) (L' := [some ((.ref 86)), some (.int i1), some (.int i2), some (.int i3), some (.int i4)]) (r := []) (t := 1001) (ty := .char) 0 rfl rfl rfl rfl (m_si (i := (((60 : Int32) * i2) + i4)) (v := (mGet σ 88 i4)) R F (n := 1800) (by decide) hi2 (m_fc hf4) (fun hp R F => ?_))
      obtain ⟨σ3, es⟩ : ∃ z, z = mPut σ 104 (((60 : Int32) * i2) + i4) (mGet σ 88 i4) := ⟨_, rfl⟩
      rw [← es] at R
      replace H := H σ3 es
      exact mm_R.pn (pc' := 20) (L' := [some ((.ref 86)), some (.int i1), some (.int i2), some (.int i3), some (.int (i4 + (1 : Int32)))]) (st' := []) 2 rfl (H.use R F)
-- StepRunnerModel.keepRule, from 58
set_option maxRecDepth 10000 in
theorem u156_58 {X : List Int32} {d : Nat} {i1 : Int32} {i2 : Int32} {i3 : Int32} {i4 : Int32} {σ : mS} {Q : Option Value → mS → Prop} (H : ((i3 = (0 : Int32) → ∀ σ1, σ1 = mSet σ 3 (0 : Int32) → (i3 = 0 ∨ i3 = 1) ∧ Q (some (.int i3)) σ1) ∧ (¬ i3 = (0 : Int32) → (0 ≤ i2 ∧ Int32.toNatClampNeg i2 < 30) ∧ ∀ σ3, σ3 = mPut σ 105 i2 (σ.1 3) → ∀ σ4, σ4 = mSet σ3 3 (0 : Int32) → (i3 = 0 ∨ i3 = 1) ∧ Q (some (.int i3)) σ4))) : mM X (d + 1) 156 58 [some ((.ref 86)), some (.int i1), some (.int i2), some (.int i3), some (.int i4)] [] σ Q := by
  intro hp R
  have F : mF hp hp := mF.rf
  refine mm_R.br (L' := [some ((.ref 86)), some (.int i1), some (.int i2), some (.int i3), some (.int i4)]) (st' := []) (t := 72) (u := 62) (b := mm_cc .eq i3 (0 : Int32)) 2 rfl (fun c => ?_) (fun c => ?_)
  · replace H := H.1 (of_decide_eq_true c)
    refine mm_R.wpt (pc' := 74) (L' := [some ((.ref 86)), some (.int i1), some (.int i2), some (.int i3), some (.int i4)]) (r := []) 2 rfl rfl (m_pt (v := (0 : Int32)) R F rfl rfl rfl (fun hp R F => ?_))
    obtain ⟨σ1, es⟩ : ∃ z, z = mSet σ 3 (0 : Int32) := ⟨_, rfl⟩
    rw [← es] at R
    replace H := H σ1 es
    exact mm_R.rt (pc' := 78) (L' := [some ((.ref 86)), some (.int i1), some (.int i2), some (.int i3), some (.int i4)]) (st1 := [.int i3]) 1 rfl rfl rfl rfl rfl (mw_rvi (ty := .boolean) (m_fz H.1)) ⟨_, R, F, H.2⟩
  · replace H := H.2 (of_decide_eq_false c)
    refine mm_R.wgv (pc' := 63) (L' := [some ((.ref 86)), some (.int i1), some (.int i2), some (.int i3), some (.int i4)]) (r := []) 1 rfl rfl (m_gv R rfl ?_)
    refine mm_R.wgi (pc' := 68) (L' := [some ((.ref 86)), some (.int i1), some (.int i2), some (.int i3), some (.int i4)]) (r := [.int i2, (.ref 105)]) 2 rfl rfl (m_gi R rfl ?_)
    obtain ⟨hi2, H⟩ := H
    refine mm_R.wsi (pc' := 71) (L' := [some ((.ref 86)), some (.int i1), some (.int i2), some (.int i3), some (.int i4)]) (r := []) (t := 1000) (ty := .int) 0 rfl rfl rfl rfl (m_si (i := i2) (v := (σ.1 3)) R F (n := 30) (by decide) hi2 rfl (fun hp R F => ?_))
    obtain ⟨σ3, es⟩ : ∃ z, z = mPut σ 105 i2 (σ.1 3) := ⟨_, rfl⟩
    rw [← es] at R
    replace H := H σ3 es
    refine mm_R.wpt (pc' := 74) (L' := [some ((.ref 86)), some (.int i1), some (.int i2), some (.int i3), some (.int i4)]) (r := []) 2 rfl rfl (m_pt (v := (0 : Int32)) R F rfl rfl rfl (fun hp R F => ?_))
    obtain ⟨σ4, es⟩ : ∃ z, z = mSet σ3 3 (0 : Int32) := ⟨_, rfl⟩
    rw [← es] at R
    replace H := H σ4 es
    exact mm_R.rt (pc' := 78) (L' := [some ((.ref 86)), some (.int i1), some (.int i2), some (.int i3), some (.int i4)]) (st1 := [.int i3]) 1 rfl rfl rfl rfl rfl (mw_rvi (ty := .boolean) (m_fz H.1)) ⟨_, R, F, H.2⟩
-- StepRunnerModel.isDraftRule, from 0
set_option maxRecDepth 10000 in
theorem u157_0 {X : List Int32} {d : Nat}  {σ : mS} {Q : Option Value → mS → Prop} (H : mM X (d + 1) 157 2 [some ((.ref 86)), some (.int (0 : Int32)), none, none] [] σ Q) : mM X (d + 1) 157 0 (mm_L0 157 [(.ref 86)]) [] σ Q := by
  intro hp R
  have F : mF hp hp := mF.rf
  show mm_R X (d + 1) 157 0 [some ((.ref 86)), none, none, none] [] hp (mQ hp Q)
  exact mm_R.pn (pc' := 2) (L' := [some ((.ref 86)), some (.int (0 : Int32)), none, none]) (st' := []) 2 rfl (H.use R F)
-- StepRunnerModel.isDraftRule, from 2
set_option maxRecDepth 10000 in
theorem u157_2 {X : List Int32} {d : Nat} {i1 : Int32} {o2 : Option Value} {o3 : Option Value} {σ : mS} {Q : Option Value → mS → Prop} (H : (((σ.1 3) ≤ i1 → Q (some (.int (1 : Int32))) σ) ∧ (¬ (σ.1 3) ≤ i1 → mM X d 136 0 (mm_L0 136 [(.ref 86), .int i1]) [] σ (mi_K (fun x2 σ1 => ((¬ x2 = (36 : Int32) → mM X (d + 1) 157 37 [some ((.ref 86)), some (.int i1), o2, o3] [.int (0 : Int32)] σ1 Q) ∧ (x2 = (36 : Int32) → mM X d 136 0 (mm_L0 136 [(.ref 86), .int (i1 + (1 : Int32))]) [] σ1 (mi_K (fun x4 σ3 => ((¬ x4 = (40 : Int32) → mM X (d + 1) 157 37 [some ((.ref 86)), some (.int i1), o2, o3] [.int (0 : Int32)] σ3 Q) ∧ (x4 = (40 : Int32) → mM X (d + 1) 157 37 [some ((.ref 86)), some (.int i1), o2, o3] [.int (1 : Int32)] σ3 Q))))))))))) : mM X (d + 1) 157 2 [some ((.ref 86)), some (.int i1), o2, o3] [] σ Q := by
  intro hp R
  have F : mF hp hp := mF.rf
  refine mm_R.wgi (pc' := 4) (L' := [some ((.ref 86)), some (.int i1), o2, o3]) (r := [.int i1]) 2 rfl rfl (m_gi R rfl ?_)
  refine mm_R.br (L' := [some ((.ref 86)), some (.int i1), o2, o3]) (st' := []) (t := 65) (u := 10) (b := mm_cc .ge i1 (σ.1 3)) 1 rfl (fun c => ?_) (fun c => ?_)
  · replace H := H.1 (of_decide_eq_true c)
    exact mm_R.rt (pc' := 66) (L' := [some ((.ref 86)), some (.int i1), o2, o3]) (st1 := [.int (1 : Int32)]) 1 rfl rfl rfl rfl rfl rfl ⟨_, R, F, H⟩
  · replace H := H.2 (of_decide_eq_false c)
    refine mm_R.cV (pc' := 12) (L' := [some ((.ref 86)), some (.int i1), o2, o3]) (st1 := [.int i1, (.ref 86)]) (as := [.int i1]) (rest := []) 2 rfl rfl (mw_sp rfl rfl (Nat.le_of_ble_eq_true rfl) (mw_ac rfl (mw_ac rfl mw_an)) mw_an) rfl rfl (m_rc R rfl) ((H _ R).mono (fun o hp1 H => ?_))
    obtain ⟨σ1, R, F1, x2, rfl, H⟩ := H
    replace F := F.tr F1
    refine mm_R.br (L' := [some ((.ref 86)), some (.int i1), o2, o3]) (st' := []) (t := 36) (u := 20) (b := mm_cc .ne x2 (36 : Int32)) 2 rfl (fun c => ?_) (fun c => ?_)
    · replace H := H.1 (of_decide_eq_true c)
      exact mm_R.pn (pc' := 37) (L' := [some ((.ref 86)), some (.int i1), o2, o3]) (st' := [.int (0 : Int32)]) 1 rfl (H.use R F)
    · replace H := H.2 (Decidable.of_not_not (of_decide_eq_false c))
      refine mm_R.cV (pc' := 24) (L' := [some ((.ref 86)), some (.int i1), o2, o3]) (st1 := [.int (i1 + (1 : Int32)), (.ref 86)]) (as := [.int (i1 + (1 : Int32))]) (rest := []) 4 rfl rfl (mw_sp rfl rfl (Nat.le_of_ble_eq_true rfl) (mw_ac rfl (mw_ac rfl mw_an)) mw_an) rfl rfl (m_rc R rfl) ((H _ R).mono (fun o hp1 H => ?_))
      obtain ⟨σ3, R, F1, x4, rfl, H⟩ := H
      replace F := F.tr F1
      refine mm_R.br (L' := [some ((.ref 86)), some (.int i1), o2, o3]) (st' := []) (t := 36) (u := 32) (b := mm_cc .ne x4 (40 : Int32)) 2 rfl (fun c => ?_) (fun c => ?_)
      · replace H := H.1 (of_decide_eq_true c)
        exact mm_R.pn (pc' := 37) (L' := [some ((.ref 86)), some (.int i1), o2, o3]) (st' := [.int (0 : Int32)]) 1 rfl (H.use R F)
      · replace H := H.2 (Decidable.of_not_not (of_decide_eq_false c))
        exact mm_R.pn (pc' := 37) (L' := [some ((.ref 86)), some (.int i1), o2, o3]) (st' := [.int (1 : Int32)]) 2 rfl (H.use R F)
-- StepRunnerModel.isDraftRule, from 37
set_option maxRecDepth 10000 in
theorem u157_37 {X : List Int32} {d : Nat} {i1 : Int32} {o2 : Option Value} {o3 : Option Value} {s0 : Int32} {σ : mS} {Q : Option Value → mS → Prop} (H : ((s0 = (0 : Int32) → (((0 : Int32) ≤ (i1 + (1 : Int32)) → mM X (d + 1) 157 2 [some ((.ref 86)), some (.int (i1 + (1 : Int32))), some (.int s0), some (.int (i1 + (1 : Int32)))] [] σ Q) ∧ (¬ (0 : Int32) ≤ (i1 + (1 : Int32)) → Q (some (.int (0 : Int32))) σ))) ∧ (¬ s0 = (0 : Int32) → mM X d 158 0 (mm_L0 158 [(.ref 86), .int i1]) [] σ (mi_K (fun x2 σ1 => (((0 : Int32) ≤ x2 → mM X (d + 1) 157 2 [some ((.ref 86)), some (.int x2), some (.int s0), some (.int x2)] [] σ1 Q) ∧ (¬ (0 : Int32) ≤ x2 → Q (some (.int (0 : Int32))) σ1))))))) : mM X (d + 1) 157 37 [some ((.ref 86)), some (.int i1), o2, o3] [.int s0] σ Q := by
  intro hp R
  have F : mF hp hp := mF.rf
  refine mm_R.br (L' := [some ((.ref 86)), some (.int i1), some (.int s0), o3]) (st' := []) (t := 50) (u := 42) (b := mm_cc .eq s0 (0 : Int32)) 3 rfl (fun c => ?_) (fun c => ?_)
  · replace H := H.1 (of_decide_eq_true c)
    refine mm_R.br (L' := [some ((.ref 86)), some (.int i1), some (.int s0), some (.int (i1 + (1 : Int32)))]) (st' := []) (t := 60) (u := 58) (b := mm_cc .ge (i1 + (1 : Int32)) (0 : Int32)) 6 rfl (fun c => ?_) (fun c => ?_)
    · replace H := H.1 (of_decide_eq_true c)
      exact mm_R.pn (pc' := 2) (L' := [some ((.ref 86)), some (.int (i1 + (1 : Int32))), some (.int s0), some (.int (i1 + (1 : Int32)))]) (st' := []) 3 rfl (H.use R F)
    · replace H := H.2 (of_decide_eq_false c)
      exact mm_R.rt (pc' := 59) (L' := [some ((.ref 86)), some (.int i1), some (.int s0), some (.int (i1 + (1 : Int32)))]) (st1 := [.int (0 : Int32)]) 1 rfl rfl rfl rfl rfl rfl ⟨_, R, F, H⟩
  · replace H := H.2 (of_decide_eq_false c)
    refine mm_R.cV (pc' := 44) (L' := [some ((.ref 86)), some (.int i1), some (.int s0), o3]) (st1 := [.int i1, (.ref 86)]) (as := [.int i1]) (rest := []) 2 rfl rfl (mw_sp rfl rfl (Nat.le_of_ble_eq_true rfl) (mw_ac rfl (mw_ac rfl mw_an)) mw_an) rfl rfl (m_rc R rfl) ((H _ R).mono (fun o hp1 H => ?_))
    obtain ⟨σ1, R, F1, x2, rfl, H⟩ := H
    replace F := F.tr F1
    refine mm_R.br (L' := [some ((.ref 86)), some (.int i1), some (.int s0), some (.int x2)]) (st' := []) (t := 60) (u := 58) (b := mm_cc .ge x2 (0 : Int32)) 4 rfl (fun c => ?_) (fun c => ?_)
    · replace H := H.1 (of_decide_eq_true c)
      exact mm_R.pn (pc' := 2) (L' := [some ((.ref 86)), some (.int x2), some (.int s0), some (.int x2)]) (st' := []) 3 rfl (H.use R F)
    · replace H := H.2 (of_decide_eq_false c)
      exact mm_R.rt (pc' := 59) (L' := [some ((.ref 86)), some (.int i1), some (.int s0), some (.int x2)]) (st1 := [.int (0 : Int32)]) 1 rfl rfl rfl rfl rfl rfl ⟨_, R, F, H⟩
-- StepRunnerModel.reference, from 0
set_option maxRecDepth 10000 in
theorem u158_0 {X : List Int32} {d : Nat} {i1 : Int32} {σ : mS} {Q : Option Value → mS → Prop} (H : mM X d 136 0 (mm_L0 136 [(.ref 86), .int (i1 + (2 : Int32))]) [] σ (mi_K (fun x2 σ1 => ((¬ x2 = (105 : Int32) → mM X (d + 1) 158 92 [some ((.ref 86)), some (.int i1), some (.int (i1 + (2 : Int32))), none, none] [.int (0 : Int32)] σ1 Q) ∧ (x2 = (105 : Int32) → mM X d 136 0 (mm_L0 136 [(.ref 86), .int ((i1 + (2 : Int32)) + (1 : Int32))]) [] σ1 (mi_K (fun x4 σ3 => ((¬ x4 = (110 : Int32) → mM X (d + 1) 158 92 [some ((.ref 86)), some (.int i1), some (.int (i1 + (2 : Int32))), none, none] [.int (0 : Int32)] σ3 Q) ∧ (x4 = (110 : Int32) → mM X d 136 0 (mm_L0 136 [(.ref 86), .int ((i1 + (2 : Int32)) + (2 : Int32))]) [] σ3 (mi_K (fun x6 σ5 => ((¬ x6 = (112 : Int32) → mM X (d + 1) 158 92 [some ((.ref 86)), some (.int i1), some (.int (i1 + (2 : Int32))), none, none] [.int (0 : Int32)] σ5 Q) ∧ (x6 = (112 : Int32) → mM X d 136 0 (mm_L0 136 [(.ref 86), .int ((i1 + (2 : Int32)) + (3 : Int32))]) [] σ5 (mi_K (fun x8 σ7 => ((¬ x8 = (117 : Int32) → mM X (d + 1) 158 92 [some ((.ref 86)), some (.int i1), some (.int (i1 + (2 : Int32))), none, none] [.int (0 : Int32)] σ7 Q) ∧ (x8 = (117 : Int32) → mM X d 136 0 (mm_L0 136 [(.ref 86), .int ((i1 + (2 : Int32)) + (4 : Int32))]) [] σ7 (mi_K (fun x10 σ9 => ((¬ x10 = (116 : Int32) → mM X (d + 1) 158 92 [some ((.ref 86)), some (.int i1), some (.int (i1 + (2 : Int32))), none, none] [.int (0 : Int32)] σ9 Q) ∧ (x10 = (116 : Int32) → mM X d 136 0 (mm_L0 136 [(.ref 86), .int ((i1 + (2 : Int32)) + (5 : Int32))]) [] σ9 (mi_K (fun x12 σ11 => ((¬ x12 = (115 : Int32) → mM X (d + 1) 158 92 [some ((.ref 86)), some (.int i1), some (.int (i1 + (2 : Int32))), none, none] [.int (0 : Int32)] σ11 Q) ∧ (x12 = (115 : Int32) → mM X d 136 0 (mm_L0 136 [(.ref 86), .int ((i1 + (2 : Int32)) + (6 : Int32))]) [] σ11 (mi_K (fun x14 σ13 => ((¬ x14 = (46 : Int32) → mM X (d + 1) 158 92 [some ((.ref 86)), some (.int i1), some (.int (i1 + (2 : Int32))), none, none] [.int (0 : Int32)] σ13 Q) ∧ (x14 = (46 : Int32) → mM X (d + 1) 158 92 [some ((.ref 86)), some (.int i1), some (.int (i1 + (2 : Int32))), none, none] [.int (1 : Int32)] σ13 Q))))))))))))))))))))))))))))) : mM X (d + 1) 158 0 (mm_L0 158 [(.ref 86), .int i1]) [] σ Q := by
  intro hp R
  have F : mF hp hp := mF.rf
  show mm_R X (d + 1) 158 0 [some ((.ref 86)), some (.int i1), none, none, none] [] hp (mQ hp Q)
  refine mm_R.cV (pc' := 6) (L' := [some ((.ref 86)), some (.int i1), some (.int (i1 + (2 : Int32))), none, none]) (st1 := [.int (i1 + (2 : Int32)), (.ref 86)]) (as := [.int (i1 + (2 : Int32))]) (rest := []) 6 rfl rfl (mw_sp rfl rfl (Nat.le_of_ble_eq_true rfl) (mw_ac rfl (mw_ac rfl mw_an)) mw_an) rfl rfl (m_rc R rfl) ((H _ R).mono (fun o hp1 H => ?_))
  obtain ⟨σ1, R, F1, x2, rfl, H⟩ := H
  replace F := F.tr F1
  refine mm_R.br (L' := [some ((.ref 86)), some (.int i1), some (.int (i1 + (2 : Int32))), none, none]) (st' := []) (t := 91) (u := 14) (b := mm_cc .ne x2 (105 : Int32)) 2 rfl (fun c => ?_) (fun c => ?_)
  · replace H := H.1 (of_decide_eq_true c)
    exact mm_R.pn (pc' := 92) (L' := [some ((.ref 86)), some (.int i1), some (.int (i1 + (2 : Int32))), none, none]) (st' := [.int (0 : Int32)]) 1 rfl (H.use R F)
  · replace H := H.2 (Decidable.of_not_not (of_decide_eq_false c))
    refine mm_R.cV (pc' := 18) (L' := [some ((.ref 86)), some (.int i1), some (.int (i1 + (2 : Int32))), none, none]) (st1 := [.int ((i1 + (2 : Int32)) + (1 : Int32)), (.ref 86)]) (as := [.int ((i1 + (2 : Int32)) + (1 : Int32))]) (rest := []) 4 rfl rfl (mw_sp rfl rfl (Nat.le_of_ble_eq_true rfl) (mw_ac rfl (mw_ac rfl mw_an)) mw_an) rfl rfl (m_rc R rfl) ((H _ R).mono (fun o hp1 H => ?_))
    obtain ⟨σ3, R, F1, x4, rfl, H⟩ := H
    replace F := F.tr F1
    refine mm_R.br (L' := [some ((.ref 86)), some (.int i1), some (.int (i1 + (2 : Int32))), none, none]) (st' := []) (t := 91) (u := 26) (b := mm_cc .ne x4 (110 : Int32)) 2 rfl (fun c => ?_) (fun c => ?_)
    · replace H := H.1 (of_decide_eq_true c)
      exact mm_R.pn (pc' := 92) (L' := [some ((.ref 86)), some (.int i1), some (.int (i1 + (2 : Int32))), none, none]) (st' := [.int (0 : Int32)]) 1 rfl (H.use R F)
    · replace H := H.2 (Decidable.of_not_not (of_decide_eq_false c))
      refine mm_R.cV (pc' := 30) (L' := [some ((.ref 86)), some (.int i1), some (.int (i1 + (2 : Int32))), none, none]) (st1 := [.int ((i1 + (2 : Int32)) + (2 : Int32)), (.ref 86)]) (as := [.int ((i1 + (2 : Int32)) + (2 : Int32))]) (rest := []) 4 rfl rfl (mw_sp rfl rfl (Nat.le_of_ble_eq_true rfl) (mw_ac rfl (mw_ac rfl mw_an)) mw_an) rfl rfl (m_rc R rfl) ((H _ R).mono (fun o hp1 H => ?_))
      obtain ⟨σ5, R, F1, x6, rfl, H⟩ := H
      replace F := F.tr F1
      refine mm_R.br (L' := [some ((.ref 86)), some (.int i1), some (.int (i1 + (2 : Int32))), none, none]) (st' := []) (t := 91) (u := 38) (b := mm_cc .ne x6 (112 : Int32)) 2 rfl (fun c => ?_) (fun c => ?_)
      · replace H := H.1 (of_decide_eq_true c)
        exact mm_R.pn (pc' := 92) (L' := [some ((.ref 86)), some (.int i1), some (.int (i1 + (2 : Int32))), none, none]) (st' := [.int (0 : Int32)]) 1 rfl (H.use R F)
      · replace H := H.2 (Decidable.of_not_not (of_decide_eq_false c))
        refine mm_R.cV (pc' := 42) (L' := [some ((.ref 86)), some (.int i1), some (.int (i1 + (2 : Int32))), none, none]) (st1 := [.int ((i1 + (2 : Int32)) + (3 : Int32)), (.ref 86)]) (as := [.int ((i1 + (2 : Int32)) + (3 : Int32))]) (rest := []) 4 rfl rfl (mw_sp rfl rfl (Nat.le_of_ble_eq_true rfl) (mw_ac rfl (mw_ac rfl mw_an)) mw_an) rfl rfl (m_rc R rfl) ((H _ R).mono (fun o hp1 H => ?_))
        obtain ⟨σ7, R, F1, x8, rfl, H⟩ := H
        replace F := F.tr F1
        refine mm_R.br (L' := [some ((.ref 86)), some (.int i1), some (.int (i1 + (2 : Int32))), none, none]) (st' := []) (t := 91) (u := 50) (b := mm_cc .ne x8 (117 : Int32)) 2 rfl (fun c => ?_) (fun c => ?_)
        · replace H := H.1 (of_decide_eq_true c)
          exact mm_R.pn (pc' := 92) (L' := [some ((.ref 86)), some (.int i1), some (.int (i1 + (2 : Int32))), none, none]) (st' := [.int (0 : Int32)]) 1 rfl (H.use R F)
        · replace H := H.2 (Decidable.of_not_not (of_decide_eq_false c))
          refine mm_R.cV (pc' := 54) (L' := [some ((.ref 86)), some (.int i1), some (.int (i1 + (2 : Int32))), none, none]) (st1 := [.int ((i1 + (2 : Int32)) + (4 : Int32)), (.ref 86)]) (as := [.int ((i1 + (2 : Int32)) + (4 : Int32))]) (rest := []) 4 rfl rfl (mw_sp rfl rfl (Nat.le_of_ble_eq_true rfl) (mw_ac rfl (mw_ac rfl mw_an)) mw_an) rfl rfl (m_rc R rfl) ((H _ R).mono (fun o hp1 H => ?_))
          obtain ⟨σ9, R, F1, x10, rfl, H⟩ := H
          replace F := F.tr F1
          refine mm_R.br (L' := [some ((.ref 86)), some (.int i1), some (.int (i1 + (2 : Int32))), none, none]) (st' := []) (t := 91) (u := 62) (b := mm_cc .ne x10 (116 : Int32)) 2 rfl (fun c => ?_) (fun c => ?_)
          · replace H := H.1 (of_decide_eq_true c)
            exact mm_R.pn (pc' := 92) (L' := [some ((.ref 86)), some (.int i1), some (.int (i1 + (2 : Int32))), none, none]) (st' := [.int (0 : Int32)]) 1 rfl (H.use R F)
          · replace H := H.2 (Decidable.of_not_not (of_decide_eq_false c))
            refine mm_R.cV (pc' := 66) (L' := [some ((.ref 86)), some (.int i1), some (.int (i1 + (2 : Int32))), none, none]) (st1 := [.int ((i1 + (2 : Int32)) + (5 : Int32)), (.ref 86)]) (as := [.int ((i1 + (2 : Int32)) + (5 : Int32))]) (rest := []) 4 rfl rfl (mw_sp rfl rfl (Nat.le_of_ble_eq_true rfl) (mw_ac rfl (mw_ac rfl mw_an)) mw_an) rfl rfl (m_rc R rfl) ((H _ R).mono (fun o hp1 H => ?_))
            obtain ⟨σ11, R, F1, x12, rfl, H⟩ := H
            replace F := F.tr F1
            refine mm_R.br (L' := [some ((.ref 86)), some (.int i1), some (.int (i1 + (2 : Int32))), none, none]) (st' := []) (t := 91) (u := 74) (b := mm_cc .ne x12 (115 : Int32)) 2 rfl (fun c => ?_) (fun c => ?_)
            · replace H := H.1 (of_decide_eq_true c)
              exact mm_R.pn (pc' := 92) (L' := [some ((.ref 86)), some (.int i1), some (.int (i1 + (2 : Int32))), none, none]) (st' := [.int (0 : Int32)]) 1 rfl (H.use R F)
            · replace H := H.2 (Decidable.of_not_not (of_decide_eq_false c))
              refine mm_R.cV (pc' := 79) (L' := [some ((.ref 86)), some (.int i1), some (.int (i1 + (2 : Int32))), none, none]) (st1 := [.int ((i1 + (2 : Int32)) + (6 : Int32)), (.ref 86)]) (as := [.int ((i1 + (2 : Int32)) + (6 : Int32))]) (rest := []) 4 rfl rfl (mw_sp rfl rfl (Nat.le_of_ble_eq_true rfl) (mw_ac rfl (mw_ac rfl mw_an)) mw_an) rfl rfl (m_rc R rfl) ((H _ R).mono (fun o hp1 H => ?_))
              obtain ⟨σ13, R, F1, x14, rfl, H⟩ := H
              replace F := F.tr F1
              refine mm_R.br (L' := [some ((.ref 86)), some (.int i1), some (.int (i1 + (2 : Int32))), none, none]) (st' := []) (t := 91) (u := 87) (b := mm_cc .ne x14 (46 : Int32)) 2 rfl (fun c => ?_) (fun c => ?_)
              · replace H := H.1 (of_decide_eq_true c)
                exact mm_R.pn (pc' := 92) (L' := [some ((.ref 86)), some (.int i1), some (.int (i1 + (2 : Int32))), none, none]) (st' := [.int (0 : Int32)]) 1 rfl (H.use R F)
              · replace H := H.2 (Decidable.of_not_not (of_decide_eq_false c))
                exact mm_R.pn (pc' := 92) (L' := [some ((.ref 86)), some (.int i1), some (.int (i1 + (2 : Int32))), none, none]) (st' := [.int (1 : Int32)]) 2 rfl (H.use R F)
-- StepRunnerModel.reference, from 92
set_option maxRecDepth 10000 in
theorem u158_92 {X : List Int32} {d : Nat} {i1 : Int32} {i2 : Int32} {o3 : Option Value} {o4 : Option Value} {s0 : Int32} {σ : mS} {Q : Option Value → mS → Prop} (H : mM X d 136 0 (mm_L0 136 [(.ref 86), .int i2]) [] σ (mi_K (fun x2 σ1 => ((¬ x2 = (115 : Int32) → mM X (d + 1) 158 144 [some ((.ref 86)), some (.int i1), some (.int i2), some (.int s0), o4] [.int (0 : Int32)] σ1 Q) ∧ (x2 = (115 : Int32) → mM X d 136 0 (mm_L0 136 [(.ref 86), .int (i2 + (1 : Int32))]) [] σ1 (mi_K (fun x4 σ3 => ((¬ x4 = (101 : Int32) → mM X (d + 1) 158 144 [some ((.ref 86)), some (.int i1), some (.int i2), some (.int s0), o4] [.int (0 : Int32)] σ3 Q) ∧ (x4 = (101 : Int32) → mM X d 136 0 (mm_L0 136 [(.ref 86), .int (i2 + (2 : Int32))]) [] σ3 (mi_K (fun x6 σ5 => ((¬ x6 = (108 : Int32) → mM X (d + 1) 158 144 [some ((.ref 86)), some (.int i1), some (.int i2), some (.int s0), o4] [.int (0 : Int32)] σ5 Q) ∧ (x6 = (108 : Int32) → mM X d 136 0 (mm_L0 136 [(.ref 86), .int (i2 + (3 : Int32))]) [] σ5 (mi_K (fun x8 σ7 => ((¬ x8 = (102 : Int32) → mM X (d + 1) 158 144 [some ((.ref 86)), some (.int i1), some (.int i2), some (.int s0), o4] [.int (0 : Int32)] σ7 Q) ∧ (x8 = (102 : Int32) → mM X (d + 1) 158 144 [some ((.ref 86)), some (.int i1), some (.int i2), some (.int s0), o4] [.int (1 : Int32)] σ7 Q))))))))))))))))) : mM X (d + 1) 158 92 [some ((.ref 86)), some (.int i1), some (.int i2), o3, o4] [.int s0] σ Q := by
  intro hp R
  have F : mF hp hp := mF.rf
  refine mm_R.cV (pc' := 95) (L' := [some ((.ref 86)), some (.int i1), some (.int i2), some (.int s0), o4]) (st1 := [.int i2, (.ref 86)]) (as := [.int i2]) (rest := []) 3 rfl rfl (mw_sp rfl rfl (Nat.le_of_ble_eq_true rfl) (mw_ac rfl (mw_ac rfl mw_an)) mw_an) rfl rfl (m_rc R rfl) ((H _ R).mono (fun o hp1 H => ?_))
  obtain ⟨σ1, R, F1, x2, rfl, H⟩ := H
  replace F := F.tr F1
  refine mm_R.br (L' := [some ((.ref 86)), some (.int i1), some (.int i2), some (.int s0), o4]) (st' := []) (t := 143) (u := 103) (b := mm_cc .ne x2 (115 : Int32)) 2 rfl (fun c => ?_) (fun c => ?_)
  · replace H := H.1 (of_decide_eq_true c)
    exact mm_R.pn (pc' := 144) (L' := [some ((.ref 86)), some (.int i1), some (.int i2), some (.int s0), o4]) (st' := [.int (0 : Int32)]) 1 rfl (H.use R F)
  · replace H := H.2 (Decidable.of_not_not (of_decide_eq_false c))
    refine mm_R.cV (pc' := 107) (L' := [some ((.ref 86)), some (.int i1), some (.int i2), some (.int s0), o4]) (st1 := [.int (i2 + (1 : Int32)), (.ref 86)]) (as := [.int (i2 + (1 : Int32))]) (rest := []) 4 rfl rfl (mw_sp rfl rfl (Nat.le_of_ble_eq_true rfl) (mw_ac rfl (mw_ac rfl mw_an)) mw_an) rfl rfl (m_rc R rfl) ((H _ R).mono (fun o hp1 H => ?_))
    obtain ⟨σ3, R, F1, x4, rfl, H⟩ := H
    replace F := F.tr F1
    refine mm_R.br (L' := [some ((.ref 86)), some (.int i1), some (.int i2), some (.int s0), o4]) (st' := []) (t := 143) (u := 115) (b := mm_cc .ne x4 (101 : Int32)) 2 rfl (fun c => ?_) (fun c => ?_)
    · replace H := H.1 (of_decide_eq_true c)
      exact mm_R.pn (pc' := 144) (L' := [some ((.ref 86)), some (.int i1), some (.int i2), some (.int s0), o4]) (st' := [.int (0 : Int32)]) 1 rfl (H.use R F)
    · replace H := H.2 (Decidable.of_not_not (of_decide_eq_false c))
      refine mm_R.cV (pc' := 119) (L' := [some ((.ref 86)), some (.int i1), some (.int i2), some (.int s0), o4]) (st1 := [.int (i2 + (2 : Int32)), (.ref 86)]) (as := [.int (i2 + (2 : Int32))]) (rest := []) 4 rfl rfl (mw_sp rfl rfl (Nat.le_of_ble_eq_true rfl) (mw_ac rfl (mw_ac rfl mw_an)) mw_an) rfl rfl (m_rc R rfl) ((H _ R).mono (fun o hp1 H => ?_))
      obtain ⟨σ5, R, F1, x6, rfl, H⟩ := H
      replace F := F.tr F1
      refine mm_R.br (L' := [some ((.ref 86)), some (.int i1), some (.int i2), some (.int s0), o4]) (st' := []) (t := 143) (u := 127) (b := mm_cc .ne x6 (108 : Int32)) 2 rfl (fun c => ?_) (fun c => ?_)
      · replace H := H.1 (of_decide_eq_true c)
        exact mm_R.pn (pc' := 144) (L' := [some ((.ref 86)), some (.int i1), some (.int i2), some (.int s0), o4]) (st' := [.int (0 : Int32)]) 1 rfl (H.use R F)
      · replace H := H.2 (Decidable.of_not_not (of_decide_eq_false c))
        refine mm_R.cV (pc' := 131) (L' := [some ((.ref 86)), some (.int i1), some (.int i2), some (.int s0), o4]) (st1 := [.int (i2 + (3 : Int32)), (.ref 86)]) (as := [.int (i2 + (3 : Int32))]) (rest := []) 4 rfl rfl (mw_sp rfl rfl (Nat.le_of_ble_eq_true rfl) (mw_ac rfl (mw_ac rfl mw_an)) mw_an) rfl rfl (m_rc R rfl) ((H _ R).mono (fun o hp1 H => ?_))
        obtain ⟨σ7, R, F1, x8, rfl, H⟩ := H
        replace F := F.tr F1
        refine mm_R.br (L' := [some ((.ref 86)), some (.int i1), some (.int i2), some (.int s0), o4]) (st' := []) (t := 143) (u := 139) (b := mm_cc .ne x8 (102 : Int32)) 2 rfl (fun c => ?_) (fun c => ?_)
        · replace H := H.1 (of_decide_eq_true c)
          exact mm_R.pn (pc' := 144) (L' := [some ((.ref 86)), some (.int i1), some (.int i2), some (.int s0), o4]) (st' := [.int (0 : Int32)]) 1 rfl (H.use R F)
        · replace H := H.2 (Decidable.of_not_not (of_decide_eq_false c))
          exact mm_R.pn (pc' := 144) (L' := [some ((.ref 86)), some (.int i1), some (.int i2), some (.int s0), o4]) (st' := [.int (1 : Int32)]) 2 rfl (H.use R F)
-- StepRunnerModel.reference, from 144
set_option maxRecDepth 10000 in
theorem u158_144 {X : List Int32} {d : Nat} {i1 : Int32} {i2 : Int32} {i3 : Int32} {o4 : Option Value} {s0 : Int32} {σ : mS} {Q : Option Value → mS → Prop} (H : ((i3 = (0 : Int32) → ((¬ i3 = (0 : Int32) → mM X (d + 1) 158 187 [some ((.ref 86)), some (.int i1), some (.int i2), some (.int i3), some (.int s0)] [] σ Q) ∧ (i3 = (0 : Int32) → ((¬ s0 = (0 : Int32) → mM X (d + 1) 158 187 [some ((.ref 86)), some (.int i1), some (.int i2), some (.int i3), some (.int s0)] [] σ Q) ∧ (s0 = (0 : Int32) → Q (some (.int (-1 : Int32))) σ))))) ∧ (¬ i3 = (0 : Int32) → mM X d 136 0 (mm_L0 136 [(.ref 86), .int (i2 + (7 : Int32))]) [] σ (mi_K (fun x2 σ1 => ((x2 < (97 : Int32) → Q (some (.int (-1 : Int32))) σ1) ∧ (¬ x2 < (97 : Int32) → mM X d 136 0 (mm_L0 136 [(.ref 86), .int (i2 + (7 : Int32))]) [] σ1 (mi_K (fun x4 σ3 => (((100 : Int32) < x4 → Q (some (.int (-1 : Int32))) σ3) ∧ (¬ (100 : Int32) < x4 → ((¬ i3 = (0 : Int32) → mM X (d + 1) 158 187 [some ((.ref 86)), some (.int i1), some (.int i2), some (.int i3), some (.int s0)] [] σ3 Q) ∧ (i3 = (0 : Int32) → ((¬ s0 = (0 : Int32) → mM X (d + 1) 158 187 [some ((.ref 86)), some (.int i1), some (.int i2), some (.int i3), some (.int s0)] [] σ3 Q) ∧ (s0 = (0 : Int32) → Q (some (.int (-1 : Int32))) σ3))))))))))))))) : mM X (d + 1) 158 144 [some ((.ref 86)), some (.int i1), some (.int i2), some (.int i3), o4] [.int s0] σ Q := by
  intro hp R
  have F : mF hp hp := mF.rf
  refine mm_R.br (L' := [some ((.ref 86)), some (.int i1), some (.int i2), some (.int i3), some (.int s0)]) (st' := []) (t := 176) (u := 150) (b := mm_cc .eq i3 (0 : Int32)) 3 rfl (fun c => ?_) (fun c => ?_)
  · replace H := H.1 (of_decide_eq_true c)
    refine mm_R.br (L' := [some ((.ref 86)), some (.int i1), some (.int i2), some (.int i3), some (.int s0)]) (st' := []) (t := 187) (u := 180) (b := mm_cc .ne i3 (0 : Int32)) 2 rfl (fun c => ?_) (fun c => ?_)
    · replace H := H.1 (of_decide_eq_true c)
      exact H.use R F
    · replace H := H.2 (Decidable.of_not_not (of_decide_eq_false c))
      refine mm_R.br (L' := [some ((.ref 86)), some (.int i1), some (.int i2), some (.int i3), some (.int s0)]) (st' := []) (t := 187) (u := 185) (b := mm_cc .ne s0 (0 : Int32)) 2 rfl (fun c => ?_) (fun c => ?_)
      · replace H := H.1 (of_decide_eq_true c)
        exact H.use R F
      · replace H := H.2 (Decidable.of_not_not (of_decide_eq_false c))
        exact mm_R.rt (pc' := 186) (L' := [some ((.ref 86)), some (.int i1), some (.int i2), some (.int i3), some (.int s0)]) (st1 := [.int (-1 : Int32)]) 1 rfl rfl rfl rfl rfl rfl ⟨_, R, F, H⟩
  · replace H := H.2 (of_decide_eq_false c)
    refine mm_R.cV (pc' := 155) (L' := [some ((.ref 86)), some (.int i1), some (.int i2), some (.int i3), some (.int s0)]) (st1 := [.int (i2 + (7 : Int32)), (.ref 86)]) (as := [.int (i2 + (7 : Int32))]) (rest := []) 4 rfl rfl (mw_sp rfl rfl (Nat.le_of_ble_eq_true rfl) (mw_ac rfl (mw_ac rfl mw_an)) mw_an) rfl rfl (m_rc R rfl) ((H _ R).mono (fun o hp1 H => ?_))
    obtain ⟨σ1, R, F1, x2, rfl, H⟩ := H
    replace F := F.tr F1
    refine mm_R.br (L' := [some ((.ref 86)), some (.int i1), some (.int i2), some (.int i3), some (.int s0)]) (st' := []) (t := 185) (u := 163) (b := mm_cc .lt x2 (97 : Int32)) 2 rfl (fun c => ?_) (fun c => ?_)
    · replace H := H.1 (of_decide_eq_true c)
      exact mm_R.rt (pc' := 186) (L' := [some ((.ref 86)), some (.int i1), some (.int i2), some (.int i3), some (.int s0)]) (st1 := [.int (-1 : Int32)]) 1 rfl rfl rfl rfl rfl rfl ⟨_, R, F, H⟩
    · replace H := H.2 (of_decide_eq_false c)
      refine mm_R.cV (pc' := 168) (L' := [some ((.ref 86)), some (.int i1), some (.int i2), some (.int i3), some (.int s0)]) (st1 := [.int (i2 + (7 : Int32)), (.ref 86)]) (as := [.int (i2 + (7 : Int32))]) (rest := []) 4 rfl rfl (mw_sp rfl rfl (Nat.le_of_ble_eq_true rfl) (mw_ac rfl (mw_ac rfl mw_an)) mw_an) rfl rfl (m_rc R rfl) ((H _ R).mono (fun o hp1 H => ?_))
      obtain ⟨σ3, R, F1, x4, rfl, H⟩ := H
      replace F := F.tr F1
      refine mm_R.br (L' := [some ((.ref 86)), some (.int i1), some (.int i2), some (.int i3), some (.int s0)]) (st' := []) (t := 185) (u := 176) (b := mm_cc .gt x4 (100 : Int32)) 2 rfl (fun c => ?_) (fun c => ?_)
      · replace H := H.1 (of_decide_eq_true c)
        exact mm_R.rt (pc' := 186) (L' := [some ((.ref 86)), some (.int i1), some (.int i2), some (.int i3), some (.int s0)]) (st1 := [.int (-1 : Int32)]) 1 rfl rfl rfl rfl rfl rfl ⟨_, R, F, H⟩
      · replace H := H.2 (of_decide_eq_false c)
        refine mm_R.br (L' := [some ((.ref 86)), some (.int i1), some (.int i2), some (.int i3), some (.int s0)]) (st' := []) (t := 187) (u := 180) (b := mm_cc .ne i3 (0 : Int32)) 2 rfl (fun c => ?_) (fun c => ?_)
        · replace H := H.1 (of_decide_eq_true c)
          exact H.use R F
        · replace H := H.2 (Decidable.of_not_not (of_decide_eq_false c))
          refine mm_R.br (L' := [some ((.ref 86)), some (.int i1), some (.int i2), some (.int i3), some (.int s0)]) (st' := []) (t := 187) (u := 185) (b := mm_cc .ne s0 (0 : Int32)) 2 rfl (fun c => ?_) (fun c => ?_)
          · replace H := H.1 (of_decide_eq_true c)
            exact H.use R F
          · replace H := H.2 (Decidable.of_not_not (of_decide_eq_false c))
            exact mm_R.rt (pc' := 186) (L' := [some ((.ref 86)), some (.int i1), some (.int i2), some (.int i3), some (.int s0)]) (st1 := [.int (-1 : Int32)]) 1 rfl rfl rfl rfl rfl rfl ⟨_, R, F, H⟩
-- StepRunnerModel.reference, from 187
set_option maxRecDepth 10000 in
theorem u158_187 {X : List Int32} {d : Nat} {i1 : Int32} {i2 : Int32} {i3 : Int32} {i4 : Int32} {σ : mS} {Q : Option Value → mS → Prop} (H : ((i3 = (0 : Int32) → mM X (d + 1) 158 202 [some ((.ref 86)), some (.int i1), some (.int (i2 + (4 : Int32))), some (.int i3), some (.int i4)] [] σ Q) ∧ (¬ i3 = (0 : Int32) → mM X (d + 1) 158 202 [some ((.ref 86)), some (.int i1), some (.int (i2 + (8 : Int32))), some (.int i3), some (.int i4)] [] σ Q))) : mM X (d + 1) 158 187 [some ((.ref 86)), some (.int i1), some (.int i2), some (.int i3), some (.int i4)] [] σ Q := by
  intro hp R
  have F : mF hp hp := mF.rf
  refine mm_R.br (L' := [some ((.ref 86)), some (.int i1), some (.int i2), some (.int i3), some (.int i4)]) (st' := []) (t := 198) (u := 191) (b := mm_cc .eq i3 (0 : Int32)) 2 rfl (fun c => ?_) (fun c => ?_)
  · replace H := H.1 (of_decide_eq_true c)
    exact mm_R.pn (pc' := 202) (L' := [some ((.ref 86)), some (.int i1), some (.int (i2 + (4 : Int32))), some (.int i3), some (.int i4)]) (st' := []) 4 rfl (H.use R F)
  · replace H := H.2 (of_decide_eq_false c)
    exact mm_R.pn (pc' := 202) (L' := [some ((.ref 86)), some (.int i1), some (.int (i2 + (8 : Int32))), some (.int i3), some (.int i4)]) (st' := []) 5 rfl (H.use R F)
-- StepRunnerModel.reference, from 202
set_option maxRecDepth 10000 in
theorem u158_202 {X : List Int32} {d : Nat} {i1 : Int32} {i2 : Int32} {i3 : Int32} {i4 : Int32} {σ : mS} {Q : Option Value → mS → Prop} (H : mM X d 136 0 (mm_L0 136 [(.ref 86), .int i2]) [] σ (mi_K (fun x2 σ1 => ((x2 = (41 : Int32) → Q (some (.int (i2 + (1 : Int32)))) σ1) ∧ (¬ x2 = (41 : Int32) → mM X d 136 0 (mm_L0 136 [(.ref 86), .int i2]) [] σ1 (mi_K (fun x4 σ3 => ((¬ x4 = (91 : Int32) → mM X d 159 0 (mm_L0 159 [(.ref 86), .int i2]) [] σ3 (mi_K (fun x6 σ5 => ((x6 = (0 : Int32) → Q (some (.int (-1 : Int32))) σ5) ∧ (¬ x6 = (0 : Int32) → mM X (d + 1) 158 202 [some ((.ref 86)), some (.int i1), some (.int (i2 + (7 : Int32))), some (.int i3), some (.int i4)] [] σ5 Q))))) ∧ (x4 = (91 : Int32) → mM X d 136 0 (mm_L0 136 [(.ref 86), .int (i2 + (1 : Int32))]) [] σ3 (mi_K (fun x8 σ7 => ((x8 < (48 : Int32) → mM X d 159 0 (mm_L0 159 [(.ref 86), .int i2]) [] σ7 (mi_K (fun x10 σ9 => ((x10 = (0 : Int32) → Q (some (.int (-1 : Int32))) σ9) ∧ (¬ x10 = (0 : Int32) → mM X (d + 1) 158 202 [some ((.ref 86)), some (.int i1), some (.int (i2 + (7 : Int32))), some (.int i3), some (.int i4)] [] σ9 Q))))) ∧ (¬ x8 < (48 : Int32) → mM X d 136 0 (mm_L0 136 [(.ref 86), .int (i2 + (1 : Int32))]) [] σ7 (mi_K (fun x12 σ11 => (((55 : Int32) < x12 → mM X d 159 0 (mm_L0 159 [(.ref 86), .int i2]) [] σ11 (mi_K (fun x14 σ13 => ((x14 = (0 : Int32) → Q (some (.int (-1 : Int32))) σ13) ∧ (¬ x14 = (0 : Int32) → mM X (d + 1) 158 202 [some ((.ref 86)), some (.int i1), some (.int (i2 + (7 : Int32))), some (.int i3), some (.int i4)] [] σ13 Q))))) ∧ (¬ (55 : Int32) < x12 → mM X d 136 0 (mm_L0 136 [(.ref 86), .int (i2 + (2 : Int32))]) [] σ11 (mi_K (fun x16 σ15 => ((¬ x16 = (93 : Int32) → mM X d 159 0 (mm_L0 159 [(.ref 86), .int i2]) [] σ15 (mi_K (fun x18 σ17 => ((x18 = (0 : Int32) → Q (some (.int (-1 : Int32))) σ17) ∧ (¬ x18 = (0 : Int32) → mM X (d + 1) 158 202 [some ((.ref 86)), some (.int i1), some (.int (i2 + (7 : Int32))), some (.int i3), some (.int i4)] [] σ17 Q))))) ∧ (x16 = (93 : Int32) → mM X (d + 1) 158 202 [some ((.ref 86)), some (.int i1), some (.int (i2 + (3 : Int32))), some (.int i3), some (.int i4)] [] σ15 Q))))))))))))))))))))) : mM X (d + 1) 158 202 [some ((.ref 86)), some (.int i1), some (.int i2), some (.int i3), some (.int i4)] [] σ Q := by
  intro hp R
  have F : mF hp hp := mF.rf
  refine mm_R.cV (pc' := 204) (L' := [some ((.ref 86)), some (.int i1), some (.int i2), some (.int i3), some (.int i4)]) (st1 := [.int i2, (.ref 86)]) (as := [.int i2]) (rest := []) 2 rfl rfl (mw_sp rfl rfl (Nat.le_of_ble_eq_true rfl) (mw_ac rfl (mw_ac rfl mw_an)) mw_an) rfl rfl (m_rc R rfl) ((H _ R).mono (fun o hp1 H => ?_))
  obtain ⟨σ1, R, F1, x2, rfl, H⟩ := H
  replace F := F.tr F1
  refine mm_R.br (L' := [some ((.ref 86)), some (.int i1), some (.int i2), some (.int i3), some (.int i4)]) (st' := []) (t := 283) (u := 212) (b := mm_cc .eq x2 (41 : Int32)) 2 rfl (fun c => ?_) (fun c => ?_)
  · replace H := H.1 (of_decide_eq_true c)
    exact mm_R.rt (pc' := 286) (L' := [some ((.ref 86)), some (.int i1), some (.int i2), some (.int i3), some (.int i4)]) (st1 := [.int (i2 + (1 : Int32))]) 3 rfl rfl rfl rfl rfl rfl ⟨_, R, F, H⟩
  · replace H := H.2 (of_decide_eq_false c)
    refine mm_R.cV (pc' := 214) (L' := [some ((.ref 86)), some (.int i1), some (.int i2), some (.int i3), some (.int i4)]) (st1 := [.int i2, (.ref 86)]) (as := [.int i2]) (rest := []) 2 rfl rfl (mw_sp rfl rfl (Nat.le_of_ble_eq_true rfl) (mw_ac rfl (mw_ac rfl mw_an)) mw_an) rfl rfl (m_rc R rfl) ((H _ R).mono (fun o hp1 H => ?_))
    obtain ⟨σ3, R, F1, x4, rfl, H⟩ := H
    replace F := F.tr F1
    refine mm_R.br (L' := [some ((.ref 86)), some (.int i1), some (.int i2), some (.int i3), some (.int i4)]) (st' := []) (t := 265) (u := 222) (b := mm_cc .ne x4 (91 : Int32)) 2 rfl (fun c => ?_) (fun c => ?_)
    · replace H := H.1 (of_decide_eq_true c)
      refine mm_R.cV (pc' := 267) (L' := [some ((.ref 86)), some (.int i1), some (.int i2), some (.int i3), some (.int i4)]) (st1 := [.int i2, (.ref 86)]) (as := [.int i2]) (rest := []) 2 rfl rfl (mw_sp rfl rfl (Nat.le_of_ble_eq_true rfl) (mw_ac rfl (mw_ac rfl mw_an)) mw_an) rfl rfl (m_rc R rfl) ((H _ R).mono (fun o hp1 H => ?_))
      obtain ⟨σ5, R, F1, x6, rfl, H⟩ := H
      replace F := F.tr F1
      refine mm_R.br (L' := [some ((.ref 86)), some (.int i1), some (.int i2), some (.int i3), some (.int i4)]) (st' := []) (t := 281) (u := 273) (b := mm_cc .eq x6 (0 : Int32)) 1 rfl (fun c => ?_) (fun c => ?_)
      · replace H := H.1 (of_decide_eq_true c)
        exact mm_R.rt (pc' := 282) (L' := [some ((.ref 86)), some (.int i1), some (.int i2), some (.int i3), some (.int i4)]) (st1 := [.int (-1 : Int32)]) 1 rfl rfl rfl rfl rfl rfl ⟨_, R, F, H⟩
      · replace H := H.2 (of_decide_eq_false c)
        exact mm_R.pn (pc' := 202) (L' := [some ((.ref 86)), some (.int i1), some (.int (i2 + (7 : Int32))), some (.int i3), some (.int i4)]) (st' := []) 5 rfl (H.use R F)
    · replace H := H.2 (Decidable.of_not_not (of_decide_eq_false c))
      refine mm_R.cV (pc' := 226) (L' := [some ((.ref 86)), some (.int i1), some (.int i2), some (.int i3), some (.int i4)]) (st1 := [.int (i2 + (1 : Int32)), (.ref 86)]) (as := [.int (i2 + (1 : Int32))]) (rest := []) 4 rfl rfl (mw_sp rfl rfl (Nat.le_of_ble_eq_true rfl) (mw_ac rfl (mw_ac rfl mw_an)) mw_an) rfl rfl (m_rc R rfl) ((H _ R).mono (fun o hp1 H => ?_))
      obtain ⟨σ7, R, F1, x8, rfl, H⟩ := H
      replace F := F.tr F1
      refine mm_R.br (L' := [some ((.ref 86)), some (.int i1), some (.int i2), some (.int i3), some (.int i4)]) (st' := []) (t := 265) (u := 234) (b := mm_cc .lt x8 (48 : Int32)) 2 rfl (fun c => ?_) (fun c => ?_)
      · replace H := H.1 (of_decide_eq_true c)
        refine mm_R.cV (pc' := 267) (L' := [some ((.ref 86)), some (.int i1), some (.int i2), some (.int i3), some (.int i4)]) (st1 := [.int i2, (.ref 86)]) (as := [.int i2]) (rest := []) 2 rfl rfl (mw_sp rfl rfl (Nat.le_of_ble_eq_true rfl) (mw_ac rfl (mw_ac rfl mw_an)) mw_an) rfl rfl (m_rc R rfl) ((H _ R).mono (fun o hp1 H => ?_))
        obtain ⟨σ9, R, F1, x10, rfl, H⟩ := H
        replace F := F.tr F1
        refine mm_R.br (L' := [some ((.ref 86)), some (.int i1), some (.int i2), some (.int i3), some (.int i4)]) (st' := []) (t := 281) (u := 273) (b := mm_cc .eq x10 (0 : Int32)) 1 rfl (fun c => ?_) (fun c => ?_)
        · replace H := H.1 (of_decide_eq_true c)
          exact mm_R.rt (pc' := 282) (L' := [some ((.ref 86)), some (.int i1), some (.int i2), some (.int i3), some (.int i4)]) (st1 := [.int (-1 : Int32)]) 1 rfl rfl rfl rfl rfl rfl ⟨_, R, F, H⟩
        · replace H := H.2 (of_decide_eq_false c)
          exact mm_R.pn (pc' := 202) (L' := [some ((.ref 86)), some (.int i1), some (.int (i2 + (7 : Int32))), some (.int i3), some (.int i4)]) (st' := []) 5 rfl (H.use R F)
      · replace H := H.2 (of_decide_eq_false c)
        refine mm_R.cV (pc' := 238) (L' := [some ((.ref 86)), some (.int i1), some (.int i2), some (.int i3), some (.int i4)]) (st1 := [.int (i2 + (1 : Int32)), (.ref 86)]) (as := [.int (i2 + (1 : Int32))]) (rest := []) 4 rfl rfl (mw_sp rfl rfl (Nat.le_of_ble_eq_true rfl) (mw_ac rfl (mw_ac rfl mw_an)) mw_an) rfl rfl (m_rc R rfl) ((H _ R).mono (fun o hp1 H => ?_))
        obtain ⟨σ11, R, F1, x12, rfl, H⟩ := H
        replace F := F.tr F1
        refine mm_R.br (L' := [some ((.ref 86)), some (.int i1), some (.int i2), some (.int i3), some (.int i4)]) (st' := []) (t := 265) (u := 246) (b := mm_cc .gt x12 (55 : Int32)) 2 rfl (fun c => ?_) (fun c => ?_)
        · replace H := H.1 (of_decide_eq_true c)
          refine mm_R.cV (pc' := 267) (L' := [some ((.ref 86)), some (.int i1), some (.int i2), some (.int i3), some (.int i4)]) (st1 := [.int i2, (.ref 86)]) (as := [.int i2]) (rest := []) 2 rfl rfl (mw_sp rfl rfl (Nat.le_of_ble_eq_true rfl) (mw_ac rfl (mw_ac rfl mw_an)) mw_an) rfl rfl (m_rc R rfl) ((H _ R).mono (fun o hp1 H => ?_))
          obtain ⟨σ13, R, F1, x14, rfl, H⟩ := H
          replace F := F.tr F1
          refine mm_R.br (L' := [some ((.ref 86)), some (.int i1), some (.int i2), some (.int i3), some (.int i4)]) (st' := []) (t := 281) (u := 273) (b := mm_cc .eq x14 (0 : Int32)) 1 rfl (fun c => ?_) (fun c => ?_)
          · replace H := H.1 (of_decide_eq_true c)
            exact mm_R.rt (pc' := 282) (L' := [some ((.ref 86)), some (.int i1), some (.int i2), some (.int i3), some (.int i4)]) (st1 := [.int (-1 : Int32)]) 1 rfl rfl rfl rfl rfl rfl ⟨_, R, F, H⟩
          · replace H := H.2 (of_decide_eq_false c)
            exact mm_R.pn (pc' := 202) (L' := [some ((.ref 86)), some (.int i1), some (.int (i2 + (7 : Int32))), some (.int i3), some (.int i4)]) (st' := []) 5 rfl (H.use R F)
        · replace H := H.2 (of_decide_eq_false c)
          refine mm_R.cV (pc' := 250) (L' := [some ((.ref 86)), some (.int i1), some (.int i2), some (.int i3), some (.int i4)]) (st1 := [.int (i2 + (2 : Int32)), (.ref 86)]) (as := [.int (i2 + (2 : Int32))]) (rest := []) 4 rfl rfl (mw_sp rfl rfl (Nat.le_of_ble_eq_true rfl) (mw_ac rfl (mw_ac rfl mw_an)) mw_an) rfl rfl (m_rc R rfl) ((H _ R).mono (fun o hp1 H => ?_))
          obtain ⟨σ15, R, F1, x16, rfl, H⟩ := H
          replace F := F.tr F1
          refine mm_R.br (L' := [some ((.ref 86)), some (.int i1), some (.int i2), some (.int i3), some (.int i4)]) (st' := []) (t := 265) (u := 258) (b := mm_cc .ne x16 (93 : Int32)) 2 rfl (fun c => ?_) (fun c => ?_)
          · replace H := H.1 (of_decide_eq_true c)
            refine mm_R.cV (pc' := 267) (L' := [some ((.ref 86)), some (.int i1), some (.int i2), some (.int i3), some (.int i4)]) (st1 := [.int i2, (.ref 86)]) (as := [.int i2]) (rest := []) 2 rfl rfl (mw_sp rfl rfl (Nat.le_of_ble_eq_true rfl) (mw_ac rfl (mw_ac rfl mw_an)) mw_an) rfl rfl (m_rc R rfl) ((H _ R).mono (fun o hp1 H => ?_))
            obtain ⟨σ17, R, F1, x18, rfl, H⟩ := H
            replace F := F.tr F1
            refine mm_R.br (L' := [some ((.ref 86)), some (.int i1), some (.int i2), some (.int i3), some (.int i4)]) (st' := []) (t := 281) (u := 273) (b := mm_cc .eq x18 (0 : Int32)) 1 rfl (fun c => ?_) (fun c => ?_)
            · replace H := H.1 (of_decide_eq_true c)
              exact mm_R.rt (pc' := 282) (L' := [some ((.ref 86)), some (.int i1), some (.int i2), some (.int i3), some (.int i4)]) (st1 := [.int (-1 : Int32)]) 1 rfl rfl rfl rfl rfl rfl ⟨_, R, F, H⟩
            · replace H := H.2 (of_decide_eq_false c)
              exact mm_R.pn (pc' := 202) (L' := [some ((.ref 86)), some (.int i1), some (.int (i2 + (7 : Int32))), some (.int i3), some (.int i4)]) (st' := []) 5 rfl (H.use R F)
          · replace H := H.2 (Decidable.of_not_not (of_decide_eq_false c))
            exact mm_R.pn (pc' := 202) (L' := [some ((.ref 86)), some (.int i1), some (.int (i2 + (3 : Int32))), some (.int i3), some (.int i4)]) (st' := []) 5 rfl (H.use R F)
