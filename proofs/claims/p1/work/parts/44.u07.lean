-- StepRunnerModel.putPlain, from 0
set_option maxRecDepth 10000 in
theorem u182_0 {X : List Int32} {d : Nat} {i1 : Int32} {i2 : Int32} {σ : mS} {Q : Option Value → mS → Prop} (H : mM X d 144 0 (mm_L0 144 [(.ref 86), .int i1]) [] σ (mi_K (fun x2 σ1 => ((¬ x2 = (2 : Int32) → mM X d 185 0 (mm_L0 185 [(.ref 86), .int i1, .int i2]) [] σ1 (m0_K (fun σ3 => Q none σ3))) ∧ (x2 = (2 : Int32) → mM X d 152 0 (mm_L0 152 [(.ref 86), .int i1]) [] σ1 (mi_K (fun x5 σ4 => mM X d 153 0 (mm_L0 153 [(.ref 86), .int i1]) [] σ4 (mi_K (fun x7 σ6 => mM X d 183 0 (mm_L0 183 [(.ref 86), .int x5, .int x7]) [] σ6 (m0_K (fun σ8 => Q none σ8))))))))))) : mM X (d + 1) 182 0 (mm_L0 182 [(.ref 86), .int i1, .int i2]) [] σ Q := by
  intro hp R
  have F : mF hp hp := mF.rf
  show mm_R X (d + 1) 182 0 [some ((.ref 86)), some (.int i1), some (.int i2)] [] hp (mQ hp Q)
  refine mm_R.cV (pc' := 2) (L' := [some ((.ref 86)), some (.int i1), some (.int i2)]) (st1 := [.int i1, (.ref 86)]) (as := [.int i1]) (rest := []) 2 rfl rfl (mw_sp rfl rfl (Nat.le_of_ble_eq_true rfl) (mw_ac rfl (mw_ac rfl mw_an)) mw_an) rfl rfl (m_rc R rfl) ((H _ R).mono (fun o hp1 H => ?_))
  obtain ⟨σ1, R, F1, x2, rfl, H⟩ := H
  replace F := F.tr F1
  refine mm_R.br (L' := [some ((.ref 86)), some (.int i1), some (.int i2)]) (st' := []) (t := 26) (u := 9) (b := mm_cc .ne x2 (2 : Int32)) 2 rfl (fun c => ?_) (fun c => ?_)
  · replace H := H.1 (of_decide_eq_true c)
    refine mm_R.cV (pc' := 29) (L' := [some ((.ref 86)), some (.int i1), some (.int i2)]) (st1 := [.int i2, .int i1, (.ref 86)]) (as := [.int i1, .int i2]) (rest := []) 3 rfl rfl (mw_sp rfl rfl (Nat.le_of_ble_eq_true rfl) (mw_ac rfl (mw_ac rfl (mw_ac rfl mw_an))) mw_an) rfl rfl (m_rc R rfl) ((H _ R).mono (fun o hp1 H => ?_))
    obtain ⟨σ3, R, F1, rfl, H⟩ := H
    replace F := F.tr F1
    exact mm_R.rt (pc' := 32) (L' := [some ((.ref 86)), some (.int i1), some (.int i2)]) (st1 := []) 0 rfl rfl rfl rfl rfl rfl ⟨_, R, F, H⟩
  · replace H := H.2 (Decidable.of_not_not (of_decide_eq_false c))
    refine mm_R.cV (pc' := 12) (L' := [some ((.ref 86)), some (.int i1), some (.int i2)]) (st1 := [.int i1, (.ref 86), (.ref 86)]) (as := [.int i1]) (rest := [(.ref 86)]) 3 rfl rfl (mw_sp rfl rfl (Nat.le_of_ble_eq_true rfl) (mw_ac rfl (mw_ac rfl mw_an)) (mw_ac rfl mw_an)) rfl rfl (m_rc R rfl) ((H _ R).mono (fun o hp1 H => ?_))
    obtain ⟨σ4, R, F1, x5, rfl, H⟩ := H
    replace F := F.tr F1
    refine mm_R.cV (pc' := 17) (L' := [some ((.ref 86)), some (.int i1), some (.int i2)]) (st1 := [.int i1, (.ref 86), .int x5, (.ref 86)]) (as := [.int i1]) (rest := [.int x5, (.ref 86)]) 2 rfl rfl (mw_sp rfl rfl (Nat.le_of_ble_eq_true rfl) (mw_ac rfl (mw_ac rfl mw_an)) (mw_ac rfl (mw_ac rfl mw_an))) rfl rfl (m_rc R rfl) ((H _ R).mono (fun o hp1 H => ?_))
    obtain ⟨σ6, R, F1, x7, rfl, H⟩ := H
    replace F := F.tr F1
    refine mm_R.cV (pc' := 20) (L' := [some ((.ref 86)), some (.int i1), some (.int i2)]) (st1 := [.int x7, .int x5, (.ref 86)]) (as := [.int x5, .int x7]) (rest := []) 0 rfl rfl (mw_sp rfl rfl (Nat.le_of_ble_eq_true rfl) (mw_ac rfl (mw_ac rfl (mw_ac rfl mw_an))) mw_an) rfl rfl (m_rc R rfl) ((H _ R).mono (fun o hp1 H => ?_))
    obtain ⟨σ8, R, F1, rfl, H⟩ := H
    replace F := F.tr F1
    exact mm_R.rt (pc' := 32) (L' := [some ((.ref 86)), some (.int i1), some (.int i2)]) (st1 := []) 1 rfl rfl rfl rfl rfl rfl ⟨_, R, F, H⟩
-- StepRunnerModel.putText, from 0
set_option maxRecDepth 10000 in
theorem u183_0 {X : List Int32} {d : Nat} {i1 : Int32} {i2 : Int32} {σ : mS} {Q : Option Value → mS → Prop} (H : mM X (d + 1) 183 2 [some ((.ref 86)), some (.int i1), some (.int i2), some (.int (0 : Int32))] [] σ Q) : mM X (d + 1) 183 0 (mm_L0 183 [(.ref 86), .int i1, .int i2]) [] σ Q := by
  intro hp R
  have F : mF hp hp := mF.rf
  show mm_R X (d + 1) 183 0 [some ((.ref 86)), some (.int i1), some (.int i2), none] [] hp (mQ hp Q)
  exact mm_R.pn (pc' := 2) (L' := [some ((.ref 86)), some (.int i1), some (.int i2), some (.int (0 : Int32))]) (st' := []) 2 rfl (H.use R F)
-- StepRunnerModel.putText, from 2
set_option maxRecDepth 10000 in
theorem u183_2 {X : List Int32} {d : Nat} {i1 : Int32} {i2 : Int32} {i3 : Int32} {σ : mS} {Q : Option Value → mS → Prop} (H : ((i2 ≤ i3 → Q none σ) ∧ (¬ i2 ≤ i3 → mM X d 154 0 (mm_L0 154 [(.ref 86), .int (i1 + i3)]) [] σ (mi_K (fun x2 σ1 => mM X d 184 0 (mm_L0 184 [(.ref 86), .int x2]) [] σ1 (m0_K (fun σ3 => mM X (d + 1) 183 2 [some ((.ref 86)), some (.int i1), some (.int i2), some (.int (i3 + (1 : Int32)))] [] σ3 Q))))))) : mM X (d + 1) 183 2 [some ((.ref 86)), some (.int i1), some (.int i2), some (.int i3)] [] σ Q := by
  intro hp R
  have F : mF hp hp := mF.rf
  refine mm_R.br (L' := [some ((.ref 86)), some (.int i1), some (.int i2), some (.int i3)]) (st' := []) (t := 24) (u := 7) (b := mm_cc .ge i3 i2) 3 rfl (fun c => ?_) (fun c => ?_)
  · replace H := H.1 (of_decide_eq_true c)
    exact mm_R.rt (pc' := 24) (L' := [some ((.ref 86)), some (.int i1), some (.int i2), some (.int i3)]) (st1 := []) 0 rfl rfl rfl rfl rfl rfl ⟨_, R, F, H⟩
  · replace H := H.2 (of_decide_eq_false c)
    refine mm_R.cV (pc' := 12) (L' := [some ((.ref 86)), some (.int i1), some (.int i2), some (.int i3)]) (st1 := [.int (i1 + i3), (.ref 86), (.ref 86)]) (as := [.int (i1 + i3)]) (rest := [(.ref 86)]) 5 rfl rfl (mw_sp rfl rfl (Nat.le_of_ble_eq_true rfl) (mw_ac rfl (mw_ac rfl mw_an)) (mw_ac rfl mw_an)) rfl rfl (m_rc R rfl) ((H _ R).mono (fun o hp1 H => ?_))
    obtain ⟨σ1, R, F1, x2, rfl, H⟩ := H
    replace F := F.tr F1
    refine mm_R.cV (pc' := 15) (L' := [some ((.ref 86)), some (.int i1), some (.int i2), some (.int i3)]) (st1 := [.int x2, (.ref 86)]) (as := [.int x2]) (rest := []) 0 rfl rfl (mw_sp rfl rfl (Nat.le_of_ble_eq_true rfl) (mw_ac rfl (mw_ac rfl mw_an)) mw_an) rfl rfl (m_rc R rfl) ((H _ R).mono (fun o hp1 H => ?_))
    obtain ⟨σ3, R, F1, rfl, H⟩ := H
    replace F := F.tr F1
    exact mm_R.pn (pc' := 2) (L' := [some ((.ref 86)), some (.int i1), some (.int i2), some (.int (i3 + (1 : Int32)))]) (st' := []) 2 rfl (H.use R F)
-- StepRunnerModel.put, from 0
set_option maxRecDepth 10000 in
theorem u184_0 {X : List Int32} {d : Nat} {i1 : Int32} {σ : mS} {Q : Option Value → mS → Prop} (H : (((σ.1 44) = (0 : Int32) → (((σ.1 40) < (24 : Int32) → mM X d 138 0 (mm_L0 138 [(.ref 86), .int ((σ.1 39) + (σ.1 40)), .int i1]) [] σ (m0_K (fun σ1 => ∀ σ2, σ2 = mSet σ1 40 ((σ1.1 40) + (1 : Int32)) → Q none σ2))) ∧ (¬ (σ.1 40) < (24 : Int32) → ∀ σ3, σ3 = mSet σ 43 (0 : Int32) → Q none σ3))) ∧ (¬ (σ.1 44) = (0 : Int32) → ((¬ (σ.1 40) = (σ.1 41) → ∀ σ4, σ4 = mSet σ 42 (σ.1 42) → ∀ σ5, σ5 = mSet σ4 40 ((σ4.1 40) + (1 : Int32)) → Q none σ5) ∧ ((σ.1 40) = (σ.1 41) → ∀ σ6, σ6 = mSet σ 42 i1 → ∀ σ7, σ7 = mSet σ6 40 ((σ6.1 40) + (1 : Int32)) → Q none σ7))))) : mM X (d + 1) 184 0 (mm_L0 184 [(.ref 86), .int i1]) [] σ Q := by
  intro hp R
  have F : mF hp hp := mF.rf
  show mm_R X (d + 1) 184 0 [some ((.ref 86)), some (.int i1)] [] hp (mQ hp Q)
  refine mm_R.wgi (pc' := 1) (L' := [some ((.ref 86)), some (.int i1)]) (r := []) 1 rfl rfl (m_gi R rfl ?_)
  refine mm_R.br (L' := [some ((.ref 86)), some (.int i1)]) (st' := []) (t := 41) (u := 7) (b := mm_cc .eq (σ.1 44) (0 : Int32)) 1 rfl (fun c => ?_) (fun c => ?_)
  · replace H := H.1 (of_decide_eq_true c)
    refine mm_R.wgi (pc' := 42) (L' := [some ((.ref 86)), some (.int i1)]) (r := []) 1 rfl rfl (m_gi R rfl ?_)
    refine mm_R.br (L' := [some ((.ref 86)), some (.int i1)]) (st' := []) (t := 56) (u := 50) (b := mm_cc .lt (σ.1 40) (24 : Int32)) 2 rfl (fun c => ?_) (fun c => ?_)
    · replace H := H.1 (of_decide_eq_true c)
      refine mm_R.wgi (pc' := 58) (L' := [some ((.ref 86)), some (.int i1)]) (r := [(.ref 86)]) 2 rfl rfl (m_gi R rfl ?_)
      refine mm_R.wgi (pc' := 62) (L' := [some ((.ref 86)), some (.int i1)]) (r := [.int (σ.1 39), (.ref 86)]) 1 rfl rfl (m_gi R rfl ?_)
      refine mm_R.cV (pc' := 67) (L' := [some ((.ref 86)), some (.int i1)]) (st1 := [.int i1, .int ((σ.1 39) + (σ.1 40)), (.ref 86)]) (as := [.int ((σ.1 39) + (σ.1 40)), .int i1]) (rest := []) 2 rfl rfl (mw_sp rfl rfl (Nat.le_of_ble_eq_true rfl) (mw_ac rfl (mw_ac rfl (mw_ac rfl mw_an))) mw_an) rfl rfl (m_rc R rfl) ((H _ R).mono (fun o hp1 H => ?_))
      obtain ⟨σ1, R, F1, rfl, H⟩ := H
      replace F := F.tr F1
      refine mm_R.wgi (pc' := 72) (L' := [some ((.ref 86)), some (.int i1)]) (r := [(.ref 86)]) 2 rfl rfl (m_gi R rfl ?_)
      refine mm_R.wpt (pc' := 77) (L' := [some ((.ref 86)), some (.int i1)]) (r := []) 2 rfl rfl (m_pt (v := ((σ1.1 40) + (1 : Int32))) R F rfl rfl rfl (fun hp R F => ?_))
      obtain ⟨σ2, es⟩ : ∃ z, z = mSet σ1 40 ((σ1.1 40) + (1 : Int32)) := ⟨_, rfl⟩
      rw [← es] at R
      replace H := H σ2 es
      exact mm_R.rt (pc' := 80) (L' := [some ((.ref 86)), some (.int i1)]) (st1 := []) 0 rfl rfl rfl rfl rfl rfl ⟨_, R, F, H⟩
    · replace H := H.2 (of_decide_eq_false c)
      refine mm_R.wpt (pc' := 52) (L' := [some ((.ref 86)), some (.int i1)]) (r := []) 2 rfl rfl (m_pt (v := (0 : Int32)) R F rfl rfl rfl (fun hp R F => ?_))
      obtain ⟨σ3, es⟩ : ∃ z, z = mSet σ 43 (0 : Int32) := ⟨_, rfl⟩
      rw [← es] at R
      replace H := H σ3 es
      exact mm_R.rt (pc' := 55) (L' := [some ((.ref 86)), some (.int i1)]) (st1 := []) 0 rfl rfl rfl rfl rfl rfl ⟨_, R, F, H⟩
  · replace H := H.2 (of_decide_eq_false c)
    refine mm_R.wgi (pc' := 9) (L' := [some ((.ref 86)), some (.int i1)]) (r := [(.ref 86)]) 2 rfl rfl (m_gi R rfl ?_)
    refine mm_R.wgi (pc' := 13) (L' := [some ((.ref 86)), some (.int i1)]) (r := [.int (σ.1 40), (.ref 86)]) 1 rfl rfl (m_gi R rfl ?_)
    refine mm_R.br (L' := [some ((.ref 86)), some (.int i1)]) (st' := [(.ref 86)]) (t := 23) (u := 19) (b := mm_cc .ne (σ.1 40) (σ.1 41)) 1 rfl (fun c => ?_) (fun c => ?_)
    · replace H := H.1 (of_decide_eq_true c)
      refine mm_R.wgi (pc' := 24) (L' := [some ((.ref 86)), some (.int i1)]) (r := [(.ref 86)]) 1 rfl rfl (m_gi R rfl ?_)
      refine mm_R.wpt (pc' := 27) (L' := [some ((.ref 86)), some (.int i1)]) (r := []) 0 rfl rfl (m_pt (v := (σ.1 42)) R F rfl rfl rfl (fun hp R F => ?_))
      obtain ⟨σ4, es⟩ : ∃ z, z = mSet σ 42 (σ.1 42) := ⟨_, rfl⟩
      rw [← es] at R
      replace H := H σ4 es
      refine mm_R.wgi (pc' := 32) (L' := [some ((.ref 86)), some (.int i1)]) (r := [(.ref 86)]) 2 rfl rfl (m_gi R rfl ?_)
      refine mm_R.wpt (pc' := 37) (L' := [some ((.ref 86)), some (.int i1)]) (r := []) 2 rfl rfl (m_pt (v := ((σ4.1 40) + (1 : Int32))) R F rfl rfl rfl (fun hp R F => ?_))
      obtain ⟨σ5, es⟩ : ∃ z, z = mSet σ4 40 ((σ4.1 40) + (1 : Int32)) := ⟨_, rfl⟩
      rw [← es] at R
      replace H := H σ5 es
      exact mm_R.rt (pc' := 40) (L' := [some ((.ref 86)), some (.int i1)]) (st1 := []) 0 rfl rfl rfl rfl rfl rfl ⟨_, R, F, H⟩
    · replace H := H.2 (Decidable.of_not_not (of_decide_eq_false c))
      refine mm_R.wpt (pc' := 27) (L' := [some ((.ref 86)), some (.int i1)]) (r := []) 2 rfl rfl (m_pt (v := i1) R F rfl rfl rfl (fun hp R F => ?_))
      obtain ⟨σ6, es⟩ : ∃ z, z = mSet σ 42 i1 := ⟨_, rfl⟩
      rw [← es] at R
      replace H := H σ6 es
      refine mm_R.wgi (pc' := 32) (L' := [some ((.ref 86)), some (.int i1)]) (r := [(.ref 86)]) 2 rfl rfl (m_gi R rfl ?_)
      refine mm_R.wpt (pc' := 37) (L' := [some ((.ref 86)), some (.int i1)]) (r := []) 2 rfl rfl (m_pt (v := ((σ6.1 40) + (1 : Int32))) R F rfl rfl rfl (fun hp R F => ?_))
      obtain ⟨σ7, es⟩ : ∃ z, z = mSet σ6 40 ((σ6.1 40) + (1 : Int32)) := ⟨_, rfl⟩
      rw [← es] at R
      replace H := H σ7 es
      exact mm_R.rt (pc' := 40) (L' := [some ((.ref 86)), some (.int i1)]) (st1 := []) 0 rfl rfl rfl rfl rfl rfl ⟨_, R, F, H⟩
-- StepRunnerModel.putForm, from 0
set_option maxRecDepth 10000 in
theorem u185_0 {X : List Int32} {d : Nat} {i1 : Int32} {i2 : Int32} {σ : mS} {Q : Option Value → mS → Prop} (H : mM X d 147 0 (mm_L0 147 [(.ref 86), .int i1, .int i2]) [] σ (mi_K (fun x2 σ1 => mM X d 145 0 (mm_L0 145 [(.ref 86), .int i1]) [] σ1 (mi_K (fun x4 σ3 => mM X (d + 1) 185 17 [some ((.ref 86)), some (.int i1), some (.int i2), some (.int x2), some (.int x4), some (.int i1)] [] σ3 Q))))) : mM X (d + 1) 185 0 (mm_L0 185 [(.ref 86), .int i1, .int i2]) [] σ Q := by
  intro hp R
  have F : mF hp hp := mF.rf
  show mm_R X (d + 1) 185 0 [some ((.ref 86)), some (.int i1), some (.int i2), none, none, none] [] hp (mQ hp Q)
  refine mm_R.cV (pc' := 3) (L' := [some ((.ref 86)), some (.int i1), some (.int i2), none, none, none]) (st1 := [.int i2, .int i1, (.ref 86)]) (as := [.int i1, .int i2]) (rest := []) 3 rfl rfl (mw_sp rfl rfl (Nat.le_of_ble_eq_true rfl) (mw_ac rfl (mw_ac rfl (mw_ac rfl mw_an))) mw_an) rfl rfl (m_rc R rfl) ((H _ R).mono (fun o hp1 H => ?_))
  obtain ⟨σ1, R, F1, x2, rfl, H⟩ := H
  replace F := F.tr F1
  refine mm_R.cV (pc' := 9) (L' := [some ((.ref 86)), some (.int i1), some (.int i2), some (.int x2), none, none]) (st1 := [.int i1, (.ref 86)]) (as := [.int i1]) (rest := []) 3 rfl rfl (mw_sp rfl rfl (Nat.le_of_ble_eq_true rfl) (mw_ac rfl (mw_ac rfl mw_an)) mw_an) rfl rfl (m_rc R rfl) ((H _ R).mono (fun o hp1 H => ?_))
  obtain ⟨σ3, R, F1, x4, rfl, H⟩ := H
  replace F := F.tr F1
  exact mm_R.pn (pc' := 17) (L' := [some ((.ref 86)), some (.int i1), some (.int i2), some (.int x2), some (.int x4), some (.int i1)]) (st' := []) 3 rfl (H.use R F)
-- StepRunnerModel.putForm, from 17
set_option maxRecDepth 10000 in
theorem u185_17 {X : List Int32} {d : Nat} {i1 : Int32} {i2 : Int32} {i3 : Int32} {i4 : Int32} {i5 : Int32} {σ : mS} {Q : Option Value → mS → Prop} (H : ((i3 ≤ i5 → mM X (d + 1) 185 217 [some ((.ref 86)), some (.int i1), some (.int i2), some (.int i3), some (.int i4), some (.int i5)] [] σ Q) ∧ (¬ i3 ≤ i5 → (((σ.1 43) = (0 : Int32) → mM X (d + 1) 185 217 [some ((.ref 86)), some (.int i1), some (.int i2), some (.int i3), some (.int i4), some (.int i5)] [] σ Q) ∧ (¬ (σ.1 43) = (0 : Int32) → mM X (d + 1) 185 30 [some ((.ref 86)), some (.int i1), some (.int i2), some (.int i3), some (.int i4), some (.int i5)] [] σ Q))))) : mM X (d + 1) 185 17 [some ((.ref 86)), some (.int i1), some (.int i2), some (.int i3), some (.int i4), some (.int i5)] [] σ Q := by
  intro hp R
  have F : mF hp hp := mF.rf
  refine mm_R.br (L' := [some ((.ref 86)), some (.int i1), some (.int i2), some (.int i3), some (.int i4), some (.int i5)]) (st' := []) (t := 217) (u := 23) (b := mm_cc .ge i5 i3) 3 rfl (fun c => ?_) (fun c => ?_)
  · replace H := H.1 (of_decide_eq_true c)
    exact H.use R F
  · replace H := H.2 (of_decide_eq_false c)
    refine mm_R.wgi (pc' := 24) (L' := [some ((.ref 86)), some (.int i1), some (.int i2), some (.int i3), some (.int i4), some (.int i5)]) (r := []) 1 rfl rfl (m_gi R rfl ?_)
    refine mm_R.br (L' := [some ((.ref 86)), some (.int i1), some (.int i2), some (.int i3), some (.int i4), some (.int i5)]) (st' := []) (t := 217) (u := 30) (b := mm_cc .eq (σ.1 43) (0 : Int32)) 1 rfl (fun c => ?_) (fun c => ?_)
    · replace H := H.1 (of_decide_eq_true c)
      exact H.use R F
    · replace H := H.2 (of_decide_eq_false c)
      exact H.use R F
-- StepRunnerModel.putForm, from 30
set_option maxRecDepth 10000 in
theorem u185_30 {X : List Int32} {d : Nat} {i1 : Int32} {i2 : Int32} {i3 : Int32} {i4 : Int32} {i5 : Int32} {σ : mS} {Q : Option Value → mS → Prop} (H : mM X d 145 0 (mm_L0 145 [(.ref 86), .int i5]) [] σ (mi_K (fun x2 σ1 => ((i4 ≤ x2 → ((i5 ≤ i1 → mM X (d + 1) 185 94 [some ((.ref 86)), some (.int i1), some (.int i2), some (.int i3), some (.int i4), some (.int i5)] [] σ1 Q) ∧ (¬ i5 ≤ i1 → mM X d 144 0 (mm_L0 144 [(.ref 86), .int (i5 - (1 : Int32))]) [] σ1 (mi_K (fun x4 σ3 => ((¬ x4 = (3 : Int32) → mM X d 184 0 (mm_L0 184 [(.ref 86), .int (44 : Int32)]) [] σ3 (m0_K (fun σ5 => mM X (d + 1) 185 94 [some ((.ref 86)), some (.int i1), some (.int i2), some (.int i3), some (.int i4), some (.int i5)] [] σ5 Q))) ∧ (x4 = (3 : Int32) → mM X d 145 0 (mm_L0 145 [(.ref 86), .int (i5 - (1 : Int32))]) [] σ3 (mi_K (fun x7 σ6 => mM X d 145 0 (mm_L0 145 [(.ref 86), .int i5]) [] σ6 (mi_K (fun x9 σ8 => ((x7 < x9 → mM X (d + 1) 185 94 [some ((.ref 86)), some (.int i1), some (.int i2), some (.int i3), some (.int i4), some (.int i5)] [] σ8 Q) ∧ (¬ x7 < x9 → mM X d 184 0 (mm_L0 184 [(.ref 86), .int (44 : Int32)]) [] σ8 (m0_K (fun σ10 => mM X (d + 1) 185 94 [some ((.ref 86)), some (.int i1), some (.int i2), some (.int i3), some (.int i4), some (.int i5)] [] σ10 Q))))))))))))))) ∧ (¬ i4 ≤ x2 → mM X d 184 0 (mm_L0 184 [(.ref 86), .int (93 : Int32)]) [] σ1 (m0_K (fun σ11 => mM X (d + 1) 185 30 [some ((.ref 86)), some (.int i1), some (.int i2), some (.int i3), some (.int (i4 + (-1 : Int32))), some (.int i5)] [] σ11 Q))))))) : mM X (d + 1) 185 30 [some ((.ref 86)), some (.int i1), some (.int i2), some (.int i3), some (.int i4), some (.int i5)] [] σ Q := by
  intro hp R
  have F : mF hp hp := mF.rf
  refine mm_R.cV (pc' := 35) (L' := [some ((.ref 86)), some (.int i1), some (.int i2), some (.int i3), some (.int i4), some (.int i5)]) (st1 := [.int i5, (.ref 86), .int i4]) (as := [.int i5]) (rest := [.int i4]) 3 rfl rfl (mw_sp rfl rfl (Nat.le_of_ble_eq_true rfl) (mw_ac rfl (mw_ac rfl mw_an)) (mw_ac rfl mw_an)) rfl rfl (m_rc R rfl) ((H _ R).mono (fun o hp1 H => ?_))
  obtain ⟨σ1, R, F1, x2, rfl, H⟩ := H
  replace F := F.tr F1
  refine mm_R.br (L' := [some ((.ref 86)), some (.int i1), some (.int i2), some (.int i3), some (.int i4), some (.int i5)]) (st' := []) (t := 53) (u := 41) (b := mm_cc .le i4 x2) 1 rfl (fun c => ?_) (fun c => ?_)
  · replace H := H.1 (of_decide_eq_true c)
    refine mm_R.br (L' := [some ((.ref 86)), some (.int i1), some (.int i2), some (.int i3), some (.int i4), some (.int i5)]) (st' := []) (t := 94) (u := 59) (b := mm_cc .le i5 i1) 3 rfl (fun c => ?_) (fun c => ?_)
    · replace H := H.1 (of_decide_eq_true c)
      exact H.use R F
    · replace H := H.2 (of_decide_eq_false c)
      refine mm_R.cV (pc' := 64) (L' := [some ((.ref 86)), some (.int i1), some (.int i2), some (.int i3), some (.int i4), some (.int i5)]) (st1 := [.int (i5 - (1 : Int32)), (.ref 86)]) (as := [.int (i5 - (1 : Int32))]) (rest := []) 4 rfl rfl (mw_sp rfl rfl (Nat.le_of_ble_eq_true rfl) (mw_ac rfl (mw_ac rfl mw_an)) mw_an) rfl rfl (m_rc R rfl) ((H _ R).mono (fun o hp1 H => ?_))
      obtain ⟨σ3, R, F1, x4, rfl, H⟩ := H
      replace F := F.tr F1
      refine mm_R.br (L' := [some ((.ref 86)), some (.int i1), some (.int i2), some (.int i3), some (.int i4), some (.int i5)]) (st' := []) (t := 88) (u := 71) (b := mm_cc .ne x4 (3 : Int32)) 2 rfl (fun c => ?_) (fun c => ?_)
      · replace H := H.1 (of_decide_eq_true c)
        refine mm_R.cV (pc' := 91) (L' := [some ((.ref 86)), some (.int i1), some (.int i2), some (.int i3), some (.int i4), some (.int i5)]) (st1 := [.int (44 : Int32), (.ref 86)]) (as := [.int (44 : Int32)]) (rest := []) 2 rfl rfl (mw_sp rfl rfl (Nat.le_of_ble_eq_true rfl) (mw_ac rfl (mw_ac rfl mw_an)) mw_an) rfl rfl (m_rc R rfl) ((H _ R).mono (fun o hp1 H => ?_))
        obtain ⟨σ5, R, F1, rfl, H⟩ := H
        replace F := F.tr F1
        exact H.use R F
      · replace H := H.2 (Decidable.of_not_not (of_decide_eq_false c))
        refine mm_R.cV (pc' := 76) (L' := [some ((.ref 86)), some (.int i1), some (.int i2), some (.int i3), some (.int i4), some (.int i5)]) (st1 := [.int (i5 - (1 : Int32)), (.ref 86)]) (as := [.int (i5 - (1 : Int32))]) (rest := []) 4 rfl rfl (mw_sp rfl rfl (Nat.le_of_ble_eq_true rfl) (mw_ac rfl (mw_ac rfl mw_an)) mw_an) rfl rfl (m_rc R rfl) ((H _ R).mono (fun o hp1 H => ?_))
        obtain ⟨σ6, R, F1, x7, rfl, H⟩ := H
        replace F := F.tr F1
        refine mm_R.cV (pc' := 82) (L' := [some ((.ref 86)), some (.int i1), some (.int i2), some (.int i3), some (.int i4), some (.int i5)]) (st1 := [.int i5, (.ref 86), .int x7]) (as := [.int i5]) (rest := [.int x7]) 2 rfl rfl (mw_sp rfl rfl (Nat.le_of_ble_eq_true rfl) (mw_ac rfl (mw_ac rfl mw_an)) (mw_ac rfl mw_an)) rfl rfl (m_rc R rfl) ((H _ R).mono (fun o hp1 H => ?_))
        obtain ⟨σ8, R, F1, x9, rfl, H⟩ := H
        replace F := F.tr F1
        refine mm_R.br (L' := [some ((.ref 86)), some (.int i1), some (.int i2), some (.int i3), some (.int i4), some (.int i5)]) (st' := []) (t := 94) (u := 88) (b := mm_cc .lt x7 x9) 1 rfl (fun c => ?_) (fun c => ?_)
        · replace H := H.1 (of_decide_eq_true c)
          exact H.use R F
        · replace H := H.2 (of_decide_eq_false c)
          refine mm_R.cV (pc' := 91) (L' := [some ((.ref 86)), some (.int i1), some (.int i2), some (.int i3), some (.int i4), some (.int i5)]) (st1 := [.int (44 : Int32), (.ref 86)]) (as := [.int (44 : Int32)]) (rest := []) 2 rfl rfl (mw_sp rfl rfl (Nat.le_of_ble_eq_true rfl) (mw_ac rfl (mw_ac rfl mw_an)) mw_an) rfl rfl (m_rc R rfl) ((H _ R).mono (fun o hp1 H => ?_))
          obtain ⟨σ10, R, F1, rfl, H⟩ := H
          replace F := F.tr F1
          exact H.use R F
  · replace H := H.2 (of_decide_eq_false c)
    refine mm_R.cV (pc' := 44) (L' := [some ((.ref 86)), some (.int i1), some (.int i2), some (.int i3), some (.int i4), some (.int i5)]) (st1 := [.int (93 : Int32), (.ref 86)]) (as := [.int (93 : Int32)]) (rest := []) 2 rfl rfl (mw_sp rfl rfl (Nat.le_of_ble_eq_true rfl) (mw_ac rfl (mw_ac rfl mw_an)) mw_an) rfl rfl (m_rc R rfl) ((H _ R).mono (fun o hp1 H => ?_))
    obtain ⟨σ11, R, F1, rfl, H⟩ := H
    replace F := F.tr F1
    exact mm_R.pn (pc' := 30) (L' := [some ((.ref 86)), some (.int i1), some (.int i2), some (.int i3), some (.int (i4 + (-1 : Int32))), some (.int i5)]) (st' := []) 2 rfl (H.use R F)
-- StepRunnerModel.putForm, from 94
set_option maxRecDepth 10000 in
theorem u185_94 {X : List Int32} {d : Nat} {i1 : Int32} {i2 : Int32} {i3 : Int32} {i4 : Int32} {i5 : Int32} {σ : mS} {Q : Option Value → mS → Prop} (H : mM X d 144 0 (mm_L0 144 [(.ref 86), .int i5]) [] σ (mi_K (fun x2 σ1 => ((¬ x2 = (0 : Int32) → mM X d 144 0 (mm_L0 144 [(.ref 86), .int i5]) [] σ1 (mi_K (fun x4 σ3 => ((¬ x4 = (1 : Int32) → mM X (d + 1) 185 147 [some ((.ref 86)), some (.int i1), some (.int i2), some (.int i3), some (.int i4), some (.int i5)] [] σ3 Q) ∧ (x4 = (1 : Int32) → mM X d 151 0 (mm_L0 151 [(.ref 86), .int i5]) [] σ3 (mi_K (fun x6 σ5 => mM X d 186 0 (mm_L0 186 [(.ref 86), .int x6]) [] σ5 (m0_K (fun σ7 => mM X (d + 1) 185 147 [some ((.ref 86)), some (.int i1), some (.int i2), some (.int i3), some (.int i4), some (.int i5)] [] σ7 Q))))))))) ∧ (x2 = (0 : Int32) → mM X d 184 0 (mm_L0 184 [(.ref 86), .int (110 : Int32)]) [] σ1 (m0_K (fun σ8 => mM X d 184 0 (mm_L0 184 [(.ref 86), .int (117 : Int32)]) [] σ8 (m0_K (fun σ9 => mM X d 184 0 (mm_L0 184 [(.ref 86), .int (108 : Int32)]) [] σ9 (m0_K (fun σ10 => mM X d 184 0 (mm_L0 184 [(.ref 86), .int (108 : Int32)]) [] σ10 (m0_K (fun σ11 => mM X d 144 0 (mm_L0 144 [(.ref 86), .int i5]) [] σ11 (mi_K (fun x13 σ12 => ((¬ x13 = (1 : Int32) → mM X (d + 1) 185 147 [some ((.ref 86)), some (.int i1), some (.int i2), some (.int i3), some (.int i4), some (.int i5)] [] σ12 Q) ∧ (x13 = (1 : Int32) → mM X d 151 0 (mm_L0 151 [(.ref 86), .int i5]) [] σ12 (mi_K (fun x15 σ14 => mM X d 186 0 (mm_L0 186 [(.ref 86), .int x15]) [] σ14 (m0_K (fun σ16 => mM X (d + 1) 185 147 [some ((.ref 86)), some (.int i1), some (.int i2), some (.int i3), some (.int i4), some (.int i5)] [] σ16 Q))))))))))))))))))))) : mM X (d + 1) 185 94 [some ((.ref 86)), some (.int i1), some (.int i2), some (.int i3), some (.int i4), some (.int i5)] [] σ Q := by
  intro hp R
  have F : mF hp hp := mF.rf
  refine mm_R.cV (pc' := 97) (L' := [some ((.ref 86)), some (.int i1), some (.int i2), some (.int i3), some (.int i4), some (.int i5)]) (st1 := [.int i5, (.ref 86)]) (as := [.int i5]) (rest := []) 2 rfl rfl (mw_sp rfl rfl (Nat.le_of_ble_eq_true rfl) (mw_ac rfl (mw_ac rfl mw_an)) mw_an) rfl rfl (m_rc R rfl) ((H _ R).mono (fun o hp1 H => ?_))
  obtain ⟨σ1, R, F1, x2, rfl, H⟩ := H
  replace F := F.tr F1
  refine mm_R.br (L' := [some ((.ref 86)), some (.int i1), some (.int i2), some (.int i3), some (.int i4), some (.int i5)]) (st' := []) (t := 127) (u := 103) (b := mm_cc .ne x2 (0 : Int32)) 1 rfl (fun c => ?_) (fun c => ?_)
  · replace H := H.1 (of_decide_eq_true c)
    refine mm_R.cV (pc' := 130) (L' := [some ((.ref 86)), some (.int i1), some (.int i2), some (.int i3), some (.int i4), some (.int i5)]) (st1 := [.int i5, (.ref 86)]) (as := [.int i5]) (rest := []) 2 rfl rfl (mw_sp rfl rfl (Nat.le_of_ble_eq_true rfl) (mw_ac rfl (mw_ac rfl mw_an)) mw_an) rfl rfl (m_rc R rfl) ((H _ R).mono (fun o hp1 H => ?_))
    obtain ⟨σ3, R, F1, x4, rfl, H⟩ := H
    replace F := F.tr F1
    refine mm_R.br (L' := [some ((.ref 86)), some (.int i1), some (.int i2), some (.int i3), some (.int i4), some (.int i5)]) (st' := []) (t := 147) (u := 137) (b := mm_cc .ne x4 (1 : Int32)) 2 rfl (fun c => ?_) (fun c => ?_)
    · replace H := H.1 (of_decide_eq_true c)
      exact H.use R F
    · replace H := H.2 (Decidable.of_not_not (of_decide_eq_false c))
      refine mm_R.cV (pc' := 141) (L' := [some ((.ref 86)), some (.int i1), some (.int i2), some (.int i3), some (.int i4), some (.int i5)]) (st1 := [.int i5, (.ref 86), (.ref 86)]) (as := [.int i5]) (rest := [(.ref 86)]) 3 rfl rfl (mw_sp rfl rfl (Nat.le_of_ble_eq_true rfl) (mw_ac rfl (mw_ac rfl mw_an)) (mw_ac rfl mw_an)) rfl rfl (m_rc R rfl) ((H _ R).mono (fun o hp1 H => ?_))
      obtain ⟨σ5, R, F1, x6, rfl, H⟩ := H
      replace F := F.tr F1
      refine mm_R.cV (pc' := 144) (L' := [some ((.ref 86)), some (.int i1), some (.int i2), some (.int i3), some (.int i4), some (.int i5)]) (st1 := [.int x6, (.ref 86)]) (as := [.int x6]) (rest := []) 0 rfl rfl (mw_sp rfl rfl (Nat.le_of_ble_eq_true rfl) (mw_ac rfl (mw_ac rfl mw_an)) mw_an) rfl rfl (m_rc R rfl) ((H _ R).mono (fun o hp1 H => ?_))
      obtain ⟨σ7, R, F1, rfl, H⟩ := H
      replace F := F.tr F1
      exact H.use R F
  · replace H := H.2 (Decidable.of_not_not (of_decide_eq_false c))
    refine mm_R.cV (pc' := 106) (L' := [some ((.ref 86)), some (.int i1), some (.int i2), some (.int i3), some (.int i4), some (.int i5)]) (st1 := [.int (110 : Int32), (.ref 86)]) (as := [.int (110 : Int32)]) (rest := []) 2 rfl rfl (mw_sp rfl rfl (Nat.le_of_ble_eq_true rfl) (mw_ac rfl (mw_ac rfl mw_an)) mw_an) rfl rfl (m_rc R rfl) ((H _ R).mono (fun o hp1 H => ?_))
    obtain ⟨σ8, R, F1, rfl, H⟩ := H
    replace F := F.tr F1
    refine mm_R.cV (pc' := 112) (L' := [some ((.ref 86)), some (.int i1), some (.int i2), some (.int i3), some (.int i4), some (.int i5)]) (st1 := [.int (117 : Int32), (.ref 86)]) (as := [.int (117 : Int32)]) (rest := []) 2 rfl rfl (mw_sp rfl rfl (Nat.le_of_ble_eq_true rfl) (mw_ac rfl (mw_ac rfl mw_an)) mw_an) rfl rfl (m_rc R rfl) ((H _ R).mono (fun o hp1 H => ?_))
    obtain ⟨σ9, R, F1, rfl, H⟩ := H
    replace F := F.tr F1
    refine mm_R.cV (pc' := 118) (L' := [some ((.ref 86)), some (.int i1), some (.int i2), some (.int i3), some (.int i4), some (.int i5)]) (st1 := [.int (108 : Int32), (.ref 86)]) (as := [.int (108 : Int32)]) (rest := []) 2 rfl rfl (mw_sp rfl rfl (Nat.le_of_ble_eq_true rfl) (mw_ac rfl (mw_ac rfl mw_an)) mw_an) rfl rfl (m_rc R rfl) ((H _ R).mono (fun o hp1 H => ?_))
    obtain ⟨σ10, R, F1, rfl, H⟩ := H
    replace F := F.tr F1
    refine mm_R.cV (pc' := 124) (L' := [some ((.ref 86)), some (.int i1), some (.int i2), some (.int i3), some (.int i4), some (.int i5)]) (st1 := [.int (108 : Int32), (.ref 86)]) (as := [.int (108 : Int32)]) (rest := []) 2 rfl rfl (mw_sp rfl rfl (Nat.le_of_ble_eq_true rfl) (mw_ac rfl (mw_ac rfl mw_an)) mw_an) rfl rfl (m_rc R rfl) ((H _ R).mono (fun o hp1 H => ?_))
    obtain ⟨σ11, R, F1, rfl, H⟩ := H
    replace F := F.tr F1
    refine mm_R.cV (pc' := 130) (L' := [some ((.ref 86)), some (.int i1), some (.int i2), some (.int i3), some (.int i4), some (.int i5)]) (st1 := [.int i5, (.ref 86)]) (as := [.int i5]) (rest := []) 2 rfl rfl (mw_sp rfl rfl (Nat.le_of_ble_eq_true rfl) (mw_ac rfl (mw_ac rfl mw_an)) mw_an) rfl rfl (m_rc R rfl) ((H _ R).mono (fun o hp1 H => ?_))
    obtain ⟨σ12, R, F1, x13, rfl, H⟩ := H
    replace F := F.tr F1
    refine mm_R.br (L' := [some ((.ref 86)), some (.int i1), some (.int i2), some (.int i3), some (.int i4), some (.int i5)]) (st' := []) (t := 147) (u := 137) (b := mm_cc .ne x13 (1 : Int32)) 2 rfl (fun c => ?_) (fun c => ?_)
    · replace H := H.1 (of_decide_eq_true c)
      exact H.use R F
    · replace H := H.2 (Decidable.of_not_not (of_decide_eq_false c))
      refine mm_R.cV (pc' := 141) (L' := [some ((.ref 86)), some (.int i1), some (.int i2), some (.int i3), some (.int i4), some (.int i5)]) (st1 := [.int i5, (.ref 86), (.ref 86)]) (as := [.int i5]) (rest := [(.ref 86)]) 3 rfl rfl (mw_sp rfl rfl (Nat.le_of_ble_eq_true rfl) (mw_ac rfl (mw_ac rfl mw_an)) (mw_ac rfl mw_an)) rfl rfl (m_rc R rfl) ((H _ R).mono (fun o hp1 H => ?_))
      obtain ⟨σ14, R, F1, x15, rfl, H⟩ := H
      replace F := F.tr F1
      refine mm_R.cV (pc' := 144) (L' := [some ((.ref 86)), some (.int i1), some (.int i2), some (.int i3), some (.int i4), some (.int i5)]) (st1 := [.int x15, (.ref 86)]) (as := [.int x15]) (rest := []) 0 rfl rfl (mw_sp rfl rfl (Nat.le_of_ble_eq_true rfl) (mw_ac rfl (mw_ac rfl mw_an)) mw_an) rfl rfl (m_rc R rfl) ((H _ R).mono (fun o hp1 H => ?_))
      obtain ⟨σ16, R, F1, rfl, H⟩ := H
      replace F := F.tr F1
      exact H.use R F
-- StepRunnerModel.putForm, from 147
set_option maxRecDepth 10000 in
theorem u185_147 {X : List Int32} {d : Nat} {i1 : Int32} {i2 : Int32} {i3 : Int32} {i4 : Int32} {i5 : Int32} {σ : mS} {Q : Option Value → mS → Prop} (H : mM X d 144 0 (mm_L0 144 [(.ref 86), .int i5]) [] σ (mi_K (fun x2 σ1 => ((¬ x2 = (2 : Int32) → mM X (d + 1) 185 185 [some ((.ref 86)), some (.int i1), some (.int i2), some (.int i3), some (.int i4), some (.int i5)] [] σ1 Q) ∧ (x2 = (2 : Int32) → mM X d 184 0 (mm_L0 184 [(.ref 86), .int (34 : Int32)]) [] σ1 (m0_K (fun σ3 => mM X d 152 0 (mm_L0 152 [(.ref 86), .int i5]) [] σ3 (mi_K (fun x5 σ4 => mM X d 153 0 (mm_L0 153 [(.ref 86), .int i5]) [] σ4 (mi_K (fun x7 σ6 => mM X d 183 0 (mm_L0 183 [(.ref 86), .int x5, .int x7]) [] σ6 (m0_K (fun σ8 => mM X d 184 0 (mm_L0 184 [(.ref 86), .int (34 : Int32)]) [] σ8 (m0_K (fun σ9 => mM X (d + 1) 185 185 [some ((.ref 86)), some (.int i1), some (.int i2), some (.int i3), some (.int i4), some (.int i5)] [] σ9 Q))))))))))))))) : mM X (d + 1) 185 147 [some ((.ref 86)), some (.int i1), some (.int i2), some (.int i3), some (.int i4), some (.int i5)] [] σ Q := by
  intro hp R
  have F : mF hp hp := mF.rf
  refine mm_R.cV (pc' := 150) (L' := [some ((.ref 86)), some (.int i1), some (.int i2), some (.int i3), some (.int i4), some (.int i5)]) (st1 := [.int i5, (.ref 86)]) (as := [.int i5]) (rest := []) 2 rfl rfl (mw_sp rfl rfl (Nat.le_of_ble_eq_true rfl) (mw_ac rfl (mw_ac rfl mw_an)) mw_an) rfl rfl (m_rc R rfl) ((H _ R).mono (fun o hp1 H => ?_))
  obtain ⟨σ1, R, F1, x2, rfl, H⟩ := H
  replace F := F.tr F1
  refine mm_R.br (L' := [some ((.ref 86)), some (.int i1), some (.int i2), some (.int i3), some (.int i4), some (.int i5)]) (st' := []) (t := 185) (u := 157) (b := mm_cc .ne x2 (2 : Int32)) 2 rfl (fun c => ?_) (fun c => ?_)
  · replace H := H.1 (of_decide_eq_true c)
    exact H.use R F
  · replace H := H.2 (Decidable.of_not_not (of_decide_eq_false c))
    refine mm_R.cV (pc' := 160) (L' := [some ((.ref 86)), some (.int i1), some (.int i2), some (.int i3), some (.int i4), some (.int i5)]) (st1 := [.int (34 : Int32), (.ref 86)]) (as := [.int (34 : Int32)]) (rest := []) 2 rfl rfl (mw_sp rfl rfl (Nat.le_of_ble_eq_true rfl) (mw_ac rfl (mw_ac rfl mw_an)) mw_an) rfl rfl (m_rc R rfl) ((H _ R).mono (fun o hp1 H => ?_))
    obtain ⟨σ3, R, F1, rfl, H⟩ := H
    replace F := F.tr F1
    refine mm_R.cV (pc' := 167) (L' := [some ((.ref 86)), some (.int i1), some (.int i2), some (.int i3), some (.int i4), some (.int i5)]) (st1 := [.int i5, (.ref 86), (.ref 86)]) (as := [.int i5]) (rest := [(.ref 86)]) 3 rfl rfl (mw_sp rfl rfl (Nat.le_of_ble_eq_true rfl) (mw_ac rfl (mw_ac rfl mw_an)) (mw_ac rfl mw_an)) rfl rfl (m_rc R rfl) ((H _ R).mono (fun o hp1 H => ?_))
    obtain ⟨σ4, R, F1, x5, rfl, H⟩ := H
    replace F := F.tr F1
    refine mm_R.cV (pc' := 173) (L' := [some ((.ref 86)), some (.int i1), some (.int i2), some (.int i3), some (.int i4), some (.int i5)]) (st1 := [.int i5, (.ref 86), .int x5, (.ref 86)]) (as := [.int i5]) (rest := [.int x5, (.ref 86)]) 2 rfl rfl (mw_sp rfl rfl (Nat.le_of_ble_eq_true rfl) (mw_ac rfl (mw_ac rfl mw_an)) (mw_ac rfl (mw_ac rfl mw_an))) rfl rfl (m_rc R rfl) ((H _ R).mono (fun o hp1 H => ?_))
    obtain ⟨σ6, R, F1, x7, rfl, H⟩ := H
    replace F := F.tr F1
    refine mm_R.cV (pc' := 176) (L' := [some ((.ref 86)), some (.int i1), some (.int i2), some (.int i3), some (.int i4), some (.int i5)]) (st1 := [.int x7, .int x5, (.ref 86)]) (as := [.int x5, .int x7]) (rest := []) 0 rfl rfl (mw_sp rfl rfl (Nat.le_of_ble_eq_true rfl) (mw_ac rfl (mw_ac rfl (mw_ac rfl mw_an))) mw_an) rfl rfl (m_rc R rfl) ((H _ R).mono (fun o hp1 H => ?_))
    obtain ⟨σ8, R, F1, rfl, H⟩ := H
    replace F := F.tr F1
    refine mm_R.cV (pc' := 182) (L' := [some ((.ref 86)), some (.int i1), some (.int i2), some (.int i3), some (.int i4), some (.int i5)]) (st1 := [.int (34 : Int32), (.ref 86)]) (as := [.int (34 : Int32)]) (rest := []) 2 rfl rfl (mw_sp rfl rfl (Nat.le_of_ble_eq_true rfl) (mw_ac rfl (mw_ac rfl mw_an)) mw_an) rfl rfl (m_rc R rfl) ((H _ R).mono (fun o hp1 H => ?_))
    obtain ⟨σ9, R, F1, rfl, H⟩ := H
    replace F := F.tr F1
    exact H.use R F
-- StepRunnerModel.putForm, from 185
set_option maxRecDepth 10000 in
theorem u185_185 {X : List Int32} {d : Nat} {i1 : Int32} {i2 : Int32} {i3 : Int32} {i4 : Int32} {i5 : Int32} {σ : mS} {Q : Option Value → mS → Prop} (H : mM X d 144 0 (mm_L0 144 [(.ref 86), .int i5]) [] σ (mi_K (fun x2 σ1 => ((¬ x2 = (3 : Int32) → mM X (d + 1) 185 17 [some ((.ref 86)), some (.int i1), some (.int i2), some (.int i3), some (.int i4), some (.int (i5 + (1 : Int32)))] [] σ1 Q) ∧ (x2 = (3 : Int32) → mM X d 184 0 (mm_L0 184 [(.ref 86), .int (91 : Int32)]) [] σ1 (m0_K (fun σ3 => mM X d 145 0 (mm_L0 145 [(.ref 86), .int i5]) [] σ3 (mi_K (fun x5 σ4 => mM X (d + 1) 185 17 [some ((.ref 86)), some (.int i1), some (.int i2), some (.int i3), some (.int (x5 + (1 : Int32))), some (.int (i5 + (1 : Int32)))] [] σ4 Q))))))))) : mM X (d + 1) 185 185 [some ((.ref 86)), some (.int i1), some (.int i2), some (.int i3), some (.int i4), some (.int i5)] [] σ Q := by
  intro hp R
  have F : mF hp hp := mF.rf
  refine mm_R.cV (pc' := 188) (L' := [some ((.ref 86)), some (.int i1), some (.int i2), some (.int i3), some (.int i4), some (.int i5)]) (st1 := [.int i5, (.ref 86)]) (as := [.int i5]) (rest := []) 2 rfl rfl (mw_sp rfl rfl (Nat.le_of_ble_eq_true rfl) (mw_ac rfl (mw_ac rfl mw_an)) mw_an) rfl rfl (m_rc R rfl) ((H _ R).mono (fun o hp1 H => ?_))
  obtain ⟨σ1, R, F1, x2, rfl, H⟩ := H
  replace F := F.tr F1
  refine mm_R.br (L' := [some ((.ref 86)), some (.int i1), some (.int i2), some (.int i3), some (.int i4), some (.int i5)]) (st' := []) (t := 211) (u := 195) (b := mm_cc .ne x2 (3 : Int32)) 2 rfl (fun c => ?_) (fun c => ?_)
  · replace H := H.1 (of_decide_eq_true c)
    exact mm_R.pn (pc' := 17) (L' := [some ((.ref 86)), some (.int i1), some (.int i2), some (.int i3), some (.int i4), some (.int (i5 + (1 : Int32)))]) (st' := []) 2 rfl (H.use R F)
  · replace H := H.2 (Decidable.of_not_not (of_decide_eq_false c))
    refine mm_R.cV (pc' := 198) (L' := [some ((.ref 86)), some (.int i1), some (.int i2), some (.int i3), some (.int i4), some (.int i5)]) (st1 := [.int (91 : Int32), (.ref 86)]) (as := [.int (91 : Int32)]) (rest := []) 2 rfl rfl (mw_sp rfl rfl (Nat.le_of_ble_eq_true rfl) (mw_ac rfl (mw_ac rfl mw_an)) mw_an) rfl rfl (m_rc R rfl) ((H _ R).mono (fun o hp1 H => ?_))
    obtain ⟨σ3, R, F1, rfl, H⟩ := H
    replace F := F.tr F1
    refine mm_R.cV (pc' := 204) (L' := [some ((.ref 86)), some (.int i1), some (.int i2), some (.int i3), some (.int i4), some (.int i5)]) (st1 := [.int i5, (.ref 86)]) (as := [.int i5]) (rest := []) 2 rfl rfl (mw_sp rfl rfl (Nat.le_of_ble_eq_true rfl) (mw_ac rfl (mw_ac rfl mw_an)) mw_an) rfl rfl (m_rc R rfl) ((H _ R).mono (fun o hp1 H => ?_))
    obtain ⟨σ4, R, F1, x5, rfl, H⟩ := H
    replace F := F.tr F1
    exact mm_R.pn (pc' := 17) (L' := [some ((.ref 86)), some (.int i1), some (.int i2), some (.int i3), some (.int (x5 + (1 : Int32))), some (.int (i5 + (1 : Int32)))]) (st' := []) 5 rfl (H.use R F)
-- StepRunnerModel.putForm, from 217
set_option maxRecDepth 10000 in
theorem u185_217 {X : List Int32} {d : Nat} {i1 : Int32} {i2 : Int32} {i3 : Int32} {i4 : Int32} {i5 : Int32} {σ : mS} {Q : Option Value → mS → Prop} (H : mM X d 145 0 (mm_L0 145 [(.ref 86), .int i1]) [] σ (mi_K (fun x2 σ1 => ((i4 ≤ x2 → Q none σ1) ∧ (¬ i4 ≤ x2 → mM X d 184 0 (mm_L0 184 [(.ref 86), .int (93 : Int32)]) [] σ1 (m0_K (fun σ3 => mM X (d + 1) 185 217 [some ((.ref 86)), some (.int i1), some (.int i2), some (.int i3), some (.int (i4 + (-1 : Int32))), some (.int i5)] [] σ3 Q))))))) : mM X (d + 1) 185 217 [some ((.ref 86)), some (.int i1), some (.int i2), some (.int i3), some (.int i4), some (.int i5)] [] σ Q := by
  intro hp R
  have F : mF hp hp := mF.rf
  refine mm_R.cV (pc' := 221) (L' := [some ((.ref 86)), some (.int i1), some (.int i2), some (.int i3), some (.int i4), some (.int i5)]) (st1 := [.int i1, (.ref 86), .int i4]) (as := [.int i1]) (rest := [.int i4]) 3 rfl rfl (mw_sp rfl rfl (Nat.le_of_ble_eq_true rfl) (mw_ac rfl (mw_ac rfl mw_an)) (mw_ac rfl mw_an)) rfl rfl (m_rc R rfl) ((H _ R).mono (fun o hp1 H => ?_))
  obtain ⟨σ1, R, F1, x2, rfl, H⟩ := H
  replace F := F.tr F1
  refine mm_R.br (L' := [some ((.ref 86)), some (.int i1), some (.int i2), some (.int i3), some (.int i4), some (.int i5)]) (st' := []) (t := 239) (u := 227) (b := mm_cc .le i4 x2) 1 rfl (fun c => ?_) (fun c => ?_)
  · replace H := H.1 (of_decide_eq_true c)
    exact mm_R.rt (pc' := 239) (L' := [some ((.ref 86)), some (.int i1), some (.int i2), some (.int i3), some (.int i4), some (.int i5)]) (st1 := []) 0 rfl rfl rfl rfl rfl rfl ⟨_, R, F, H⟩
  · replace H := H.2 (of_decide_eq_false c)
    refine mm_R.cV (pc' := 230) (L' := [some ((.ref 86)), some (.int i1), some (.int i2), some (.int i3), some (.int i4), some (.int i5)]) (st1 := [.int (93 : Int32), (.ref 86)]) (as := [.int (93 : Int32)]) (rest := []) 2 rfl rfl (mw_sp rfl rfl (Nat.le_of_ble_eq_true rfl) (mw_ac rfl (mw_ac rfl mw_an)) mw_an) rfl rfl (m_rc R rfl) ((H _ R).mono (fun o hp1 H => ?_))
    obtain ⟨σ3, R, F1, rfl, H⟩ := H
    replace F := F.tr F1
    exact mm_R.pn (pc' := 217) (L' := [some ((.ref 86)), some (.int i1), some (.int i2), some (.int i3), some (.int (i4 + (-1 : Int32))), some (.int i5)]) (st' := []) 2 rfl (H.use R F)
-- StepRunnerModel.putNumber, from 0
set_option maxRecDepth 10000 in
theorem u186_0 {X : List Int32} {d : Nat} {i1 : Int32} {σ : mS} {Q : Option Value → mS → Prop} (H : (((0 : Int32) ≤ i1 → mM X (d + 1) 186 10 [some ((.ref 86)), some (.int i1), none, none] [] σ Q) ∧ (¬ (0 : Int32) ≤ i1 → mM X d 184 0 (mm_L0 184 [(.ref 86), .int (45 : Int32)]) [] σ (m0_K (fun σ1 => mM X (d + 1) 186 10 [some ((.ref 86)), some (.int i1), none, none] [] σ1 Q))))) : mM X (d + 1) 186 0 (mm_L0 186 [(.ref 86), .int i1]) [] σ Q := by
  intro hp R
  have F : mF hp hp := mF.rf
  show mm_R X (d + 1) 186 0 [some ((.ref 86)), some (.int i1), none, none] [] hp (mQ hp Q)
  refine mm_R.br (L' := [some ((.ref 86)), some (.int i1), none, none]) (st' := []) (t := 10) (u := 4) (b := mm_cc .ge i1 (0 : Int32)) 2 rfl (fun c => ?_) (fun c => ?_)
  · replace H := H.1 (of_decide_eq_true c)
    exact H.use R F
  · replace H := H.2 (of_decide_eq_false c)
    refine mm_R.cV (pc' := 7) (L' := [some ((.ref 86)), some (.int i1), none, none]) (st1 := [.int (45 : Int32), (.ref 86)]) (as := [.int (45 : Int32)]) (rest := []) 2 rfl rfl (mw_sp rfl rfl (Nat.le_of_ble_eq_true rfl) (mw_ac rfl (mw_ac rfl mw_an)) mw_an) rfl rfl (m_rc R rfl) ((H _ R).mono (fun o hp1 H => ?_))
    obtain ⟨σ1, R, F1, rfl, H⟩ := H
    replace F := F.tr F1
    exact H.use R F
-- StepRunnerModel.putNumber, from 10
set_option maxRecDepth 10000 in
theorem u186_10 {X : List Int32} {d : Nat} {i1 : Int32} {o2 : Option Value} {o3 : Option Value} {σ : mS} {Q : Option Value → mS → Prop} (H : (((0 : Int32) ≤ i1 → mM X (d + 1) 186 23 [some ((.ref 86)), some (.int i1), some (.int i1), some (.int (1 : Int32))] [] σ Q) ∧ (¬ (0 : Int32) ≤ i1 → mM X (d + 1) 186 23 [some ((.ref 86)), some (.int i1), some (.int (-i1)), some (.int (1 : Int32))] [] σ Q))) : mM X (d + 1) 186 10 [some ((.ref 86)), some (.int i1), o2, o3] [] σ Q := by
  intro hp R
  have F : mF hp hp := mF.rf
  refine mm_R.br (L' := [some ((.ref 86)), some (.int i1), o2, o3]) (st' := []) (t := 19) (u := 14) (b := mm_cc .ge i1 (0 : Int32)) 2 rfl (fun c => ?_) (fun c => ?_)
  · replace H := H.1 (of_decide_eq_true c)
    exact mm_R.pn (pc' := 23) (L' := [some ((.ref 86)), some (.int i1), some (.int i1), some (.int (1 : Int32))]) (st' := []) 4 rfl (H.use R F)
  · replace H := H.2 (of_decide_eq_false c)
    exact mm_R.pn (pc' := 23) (L' := [some ((.ref 86)), some (.int i1), some (.int (-i1)), some (.int (1 : Int32))]) (st' := []) 6 rfl (H.use R F)
-- StepRunnerModel.putNumber, from 23
set_option maxRecDepth 10000 in
theorem u186_23 {X : List Int32} {d : Nat} {i1 : Int32} {i2 : Int32} {i3 : Int32} {σ : mS} {Q : Option Value → mS → Prop} (H : ¬ i3 = (0 : Int32) ∧ ((((i2 / i3) < (10 : Int32) → mM X (d + 1) 186 39 [some ((.ref 86)), some (.int i1), some (.int i2), some (.int i3)] [] σ Q) ∧ (¬ (i2 / i3) < (10 : Int32) → mM X (d + 1) 186 23 [some ((.ref 86)), some (.int i1), some (.int i2), some (.int ((10 : Int32) * i3))] [] σ Q)))) : mM X (d + 1) 186 23 [some ((.ref 86)), some (.int i1), some (.int i2), some (.int i3)] [] σ Q := by
  intro hp R
  have F : mF hp hp := mF.rf
  obtain ⟨hz1, H⟩ := H
  refine mm_R.dv (pc' := 25) (L' := [some ((.ref 86)), some (.int i1), some (.int i2), some (.int i3)]) (r := []) (x := i2) (y := i3) (f := fun x y => x / y) 2 rfl rfl rfl hz1 ?_
  refine mm_R.br (L' := [some ((.ref 86)), some (.int i1), some (.int i2), some (.int i3)]) (st' := []) (t := 39) (u := 31) (b := mm_cc .lt (i2 / i3) (10 : Int32)) 2 rfl (fun c => ?_) (fun c => ?_)
  · replace H := H.1 (of_decide_eq_true c)
    exact H.use R F
  · replace H := H.2 (of_decide_eq_false c)
    exact mm_R.pn (pc' := 23) (L' := [some ((.ref 86)), some (.int i1), some (.int i2), some (.int ((10 : Int32) * i3))]) (st' := []) 5 rfl (H.use R F)
-- StepRunnerModel.putNumber, from 39
set_option maxRecDepth 10000 in
theorem u186_39 {X : List Int32} {d : Nat} {i1 : Int32} {i2 : Int32} {i3 : Int32} {σ : mS} {Q : Option Value → mS → Prop} (H : ((i3 ≤ (0 : Int32) → Q none σ) ∧ (¬ i3 ≤ (0 : Int32) → ¬ i3 = (0 : Int32) ∧ (mM X d 184 0 (mm_L0 184 [(.ref 86), .int ((Int32.toUInt32 ((48 : Int32) + ((i2 / i3) - (i2 / i3) / (10 : Int32) * (10 : Int32))) % 65536).toInt32)]) [] σ (m0_K (fun σ1 => mM X (d + 1) 186 39 [some ((.ref 86)), some (.int i1), some (.int i2), some (.int (i3 / (10 : Int32)))] [] σ1 Q)))))) : mM X (d + 1) 186 39 [some ((.ref 86)), some (.int i1), some (.int i2), some (.int i3)] [] σ Q := by
  intro hp R
  have F : mF hp hp := mF.rf
  refine mm_R.br (L' := [some ((.ref 86)), some (.int i1), some (.int i2), some (.int i3)]) (st' := []) (t := 65) (u := 43) (b := mm_cc .le i3 (0 : Int32)) 2 rfl (fun c => ?_) (fun c => ?_)
  · replace H := H.1 (of_decide_eq_true c)
    exact mm_R.rt (pc' := 65) (L' := [some ((.ref 86)), some (.int i1), some (.int i2), some (.int i3)]) (st1 := []) 0 rfl rfl rfl rfl rfl rfl ⟨_, R, F, H⟩
  · replace H := H.2 (of_decide_eq_false c)
    obtain ⟨hz2, H⟩ := H
    refine mm_R.dv (pc' := 48) (L' := [some ((.ref 86)), some (.int i1), some (.int i2), some (.int i3)]) (r := [.int (48 : Int32), (.ref 86)]) (x := i2) (y := i3) (f := fun x y => x / y) 4 rfl rfl rfl hz2 ?_
    refine mm_R.cV (pc' := 54) (L' := [some ((.ref 86)), some (.int i1), some (.int i2), some (.int i3)]) (st1 := [.int ((Int32.toUInt32 ((48 : Int32) + ((i2 / i3) - (i2 / i3) / (10 : Int32) * (10 : Int32))) % 65536).toInt32), (.ref 86)]) (as := [.int ((Int32.toUInt32 ((48 : Int32) + ((i2 / i3) - (i2 / i3) / (10 : Int32) * (10 : Int32))) % 65536).toInt32)]) (rest := []) 4 rfl rfl (mw_sp rfl rfl (Nat.le_of_ble_eq_true rfl) (mw_ac rfl (mw_ac rfl mw_an)) mw_an) rfl rfl (m_rc R rfl) ((H _ R).mono (fun o hp1 H => ?_))
    obtain ⟨σ1, R, F1, rfl, H⟩ := H
    replace F := F.tr F1
    exact mm_R.pn (pc' := 39) (L' := [some ((.ref 86)), some (.int i1), some (.int i2), some (.int (i3 / (10 : Int32)))]) (st' := []) 5 rfl (H.use R F)
-- StepRunnerModel.putNull, from 0
set_option maxRecDepth 10000 in
theorem u187_0 {X : List Int32} {d : Nat}  {σ : mS} {Q : Option Value → mS → Prop} (H : mM X d 184 0 (mm_L0 184 [(.ref 86), .int (110 : Int32)]) [] σ (m0_K (fun σ1 => mM X d 184 0 (mm_L0 184 [(.ref 86), .int (117 : Int32)]) [] σ1 (m0_K (fun σ2 => mM X d 184 0 (mm_L0 184 [(.ref 86), .int (108 : Int32)]) [] σ2 (m0_K (fun σ3 => mM X d 184 0 (mm_L0 184 [(.ref 86), .int (108 : Int32)]) [] σ3 (m0_K (fun σ4 => Q none σ4))))))))) : mM X (d + 1) 187 0 (mm_L0 187 [(.ref 86)]) [] σ Q := by
  intro hp R
  have F : mF hp hp := mF.rf
  show mm_R X (d + 1) 187 0 [some ((.ref 86))] [] hp (mQ hp Q)
  refine mm_R.cV (pc' := 3) (L' := [some ((.ref 86))]) (st1 := [.int (110 : Int32), (.ref 86)]) (as := [.int (110 : Int32)]) (rest := []) 2 rfl rfl (mw_sp rfl rfl (Nat.le_of_ble_eq_true rfl) (mw_ac rfl (mw_ac rfl mw_an)) mw_an) rfl rfl (m_rc R rfl) ((H _ R).mono (fun o hp1 H => ?_))
  obtain ⟨σ1, R, F1, rfl, H⟩ := H
  replace F := F.tr F1
  refine mm_R.cV (pc' := 9) (L' := [some ((.ref 86))]) (st1 := [.int (117 : Int32), (.ref 86)]) (as := [.int (117 : Int32)]) (rest := []) 2 rfl rfl (mw_sp rfl rfl (Nat.le_of_ble_eq_true rfl) (mw_ac rfl (mw_ac rfl mw_an)) mw_an) rfl rfl (m_rc R rfl) ((H _ R).mono (fun o hp1 H => ?_))
  obtain ⟨σ2, R, F1, rfl, H⟩ := H
  replace F := F.tr F1
  refine mm_R.cV (pc' := 15) (L' := [some ((.ref 86))]) (st1 := [.int (108 : Int32), (.ref 86)]) (as := [.int (108 : Int32)]) (rest := []) 2 rfl rfl (mw_sp rfl rfl (Nat.le_of_ble_eq_true rfl) (mw_ac rfl (mw_ac rfl mw_an)) mw_an) rfl rfl (m_rc R rfl) ((H _ R).mono (fun o hp1 H => ?_))
  obtain ⟨σ3, R, F1, rfl, H⟩ := H
  replace F := F.tr F1
  refine mm_R.cV (pc' := 21) (L' := [some ((.ref 86))]) (st1 := [.int (108 : Int32), (.ref 86)]) (as := [.int (108 : Int32)]) (rest := []) 2 rfl rfl (mw_sp rfl rfl (Nat.le_of_ble_eq_true rfl) (mw_ac rfl (mw_ac rfl mw_an)) mw_an) rfl rfl (m_rc R rfl) ((H _ R).mono (fun o hp1 H => ?_))
  obtain ⟨σ4, R, F1, rfl, H⟩ := H
  replace F := F.tr F1
  exact mm_R.rt (pc' := 24) (L' := [some ((.ref 86))]) (st1 := []) 0 rfl rfl rfl rfl rfl rfl ⟨_, R, F, H⟩
-- StepRunnerModel.isText, from 0
set_option maxRecDepth 10000 in
theorem u188_0 {X : List Int32} {d : Nat} {i1 : Int32} {i2 : Int32} {σ : mS} {Q : Option Value → mS → Prop} (H : (((24 : Int32) < i2 → mM X (d + 1) 188 15 [some ((.ref 86)), some (.int i1), some (.int i2), some (.int (0 : Int32)), some (.int (0 : Int32))] [] σ Q) ∧ (¬ (24 : Int32) < i2 → mM X (d + 1) 188 15 [some ((.ref 86)), some (.int i1), some (.int i2), some (.int (1 : Int32)), some (.int (0 : Int32))] [] σ Q))) : mM X (d + 1) 188 0 (mm_L0 188 [(.ref 86), .int i1, .int i2]) [] σ Q := by
  intro hp R
  have F : mF hp hp := mF.rf
  show mm_R X (d + 1) 188 0 [some ((.ref 86)), some (.int i1), some (.int i2), none, none] [] hp (mQ hp Q)
  refine mm_R.br (L' := [some ((.ref 86)), some (.int i1), some (.int i2), none, none]) (st' := []) (t := 10) (u := 6) (b := mm_cc .gt i2 (24 : Int32)) 3 rfl (fun c => ?_) (fun c => ?_)
  · replace H := H.1 (of_decide_eq_true c)
    exact mm_R.pn (pc' := 15) (L' := [some ((.ref 86)), some (.int i1), some (.int i2), some (.int (0 : Int32)), some (.int (0 : Int32))]) (st' := []) 4 rfl (H.use R F)
  · replace H := H.2 (of_decide_eq_false c)
    exact mm_R.pn (pc' := 15) (L' := [some ((.ref 86)), some (.int i1), some (.int i2), some (.int (1 : Int32)), some (.int (0 : Int32))]) (st' := []) 5 rfl (H.use R F)
-- StepRunnerModel.isText, from 15
set_option maxRecDepth 10000 in
theorem u188_15 {X : List Int32} {d : Nat} {i1 : Int32} {i2 : Int32} {i3 : Int32} {i4 : Int32} {σ : mS} {Q : Option Value → mS → Prop} (H : ((i2 ≤ i4 → (i3 = 0 ∨ i3 = 1) ∧ Q (some (.int i3)) σ) ∧ (¬ i2 ≤ i4 → ((i3 = (0 : Int32) → (i3 = 0 ∨ i3 = 1) ∧ Q (some (.int i3)) σ) ∧ (¬ i3 = (0 : Int32) → mM X d 154 0 (mm_L0 154 [(.ref 86), .int (i1 + i4)]) [] σ (mi_K (fun x2 σ1 => ((x2 = (34 : Int32) → mM X (d + 1) 188 15 [some ((.ref 86)), some (.int i1), some (.int i2), some (.int (0 : Int32)), some (.int (i4 + (1 : Int32)))] [] σ1 Q) ∧ (¬ x2 = (34 : Int32) → mM X d 154 0 (mm_L0 154 [(.ref 86), .int (i1 + i4)]) [] σ1 (mi_K (fun x4 σ3 => ((x4 = (92 : Int32) → mM X (d + 1) 188 15 [some ((.ref 86)), some (.int i1), some (.int i2), some (.int (0 : Int32)), some (.int (i4 + (1 : Int32)))] [] σ3 Q) ∧ (¬ x4 = (92 : Int32) → mM X (d + 1) 188 15 [some ((.ref 86)), some (.int i1), some (.int i2), some (.int (1 : Int32)), some (.int (i4 + (1 : Int32)))] [] σ3 Q))))))))))))) : mM X (d + 1) 188 15 [some ((.ref 86)), some (.int i1), some (.int i2), some (.int i3), some (.int i4)] [] σ Q := by
  intro hp R
  have F : mF hp hp := mF.rf
  refine mm_R.br (L' := [some ((.ref 86)), some (.int i1), some (.int i2), some (.int i3), some (.int i4)]) (st' := []) (t := 63) (u := 21) (b := mm_cc .ge i4 i2) 3 rfl (fun c => ?_) (fun c => ?_)
  · replace H := H.1 (of_decide_eq_true c)
    exact mm_R.rt (pc' := 64) (L' := [some ((.ref 86)), some (.int i1), some (.int i2), some (.int i3), some (.int i4)]) (st1 := [.int i3]) 1 rfl rfl rfl rfl rfl (mw_rvi (ty := .boolean) (m_fz H.1)) ⟨_, R, F, H.2⟩
  · replace H := H.2 (of_decide_eq_false c)
    refine mm_R.br (L' := [some ((.ref 86)), some (.int i1), some (.int i2), some (.int i3), some (.int i4)]) (st' := []) (t := 63) (u := 25) (b := mm_cc .eq i3 (0 : Int32)) 2 rfl (fun c => ?_) (fun c => ?_)
    · replace H := H.1 (of_decide_eq_true c)
      exact mm_R.rt (pc' := 64) (L' := [some ((.ref 86)), some (.int i1), some (.int i2), some (.int i3), some (.int i4)]) (st1 := [.int i3]) 1 rfl rfl rfl rfl rfl (mw_rvi (ty := .boolean) (m_fz H.1)) ⟨_, R, F, H.2⟩
    · replace H := H.2 (of_decide_eq_false c)
      refine mm_R.cV (pc' := 30) (L' := [some ((.ref 86)), some (.int i1), some (.int i2), some (.int i3), some (.int i4)]) (st1 := [.int (i1 + i4), (.ref 86)]) (as := [.int (i1 + i4)]) (rest := []) 4 rfl rfl (mw_sp rfl rfl (Nat.le_of_ble_eq_true rfl) (mw_ac rfl (mw_ac rfl mw_an)) mw_an) rfl rfl (m_rc R rfl) ((H _ R).mono (fun o hp1 H => ?_))
      obtain ⟨σ1, R, F1, x2, rfl, H⟩ := H
      replace F := F.tr F1
      refine mm_R.br (L' := [some ((.ref 86)), some (.int i1), some (.int i2), some (.int i3), some (.int i4)]) (st' := []) (t := 55) (u := 38) (b := mm_cc .eq x2 (34 : Int32)) 2 rfl (fun c => ?_) (fun c => ?_)
      · replace H := H.1 (of_decide_eq_true c)
        exact mm_R.pn (pc' := 15) (L' := [some ((.ref 86)), some (.int i1), some (.int i2), some (.int (0 : Int32)), some (.int (i4 + (1 : Int32)))]) (st' := []) 4 rfl (H.use R F)
      · replace H := H.2 (of_decide_eq_false c)
        refine mm_R.cV (pc' := 43) (L' := [some ((.ref 86)), some (.int i1), some (.int i2), some (.int i3), some (.int i4)]) (st1 := [.int (i1 + i4), (.ref 86)]) (as := [.int (i1 + i4)]) (rest := []) 4 rfl rfl (mw_sp rfl rfl (Nat.le_of_ble_eq_true rfl) (mw_ac rfl (mw_ac rfl mw_an)) mw_an) rfl rfl (m_rc R rfl) ((H _ R).mono (fun o hp1 H => ?_))
        obtain ⟨σ3, R, F1, x4, rfl, H⟩ := H
        replace F := F.tr F1
        refine mm_R.br (L' := [some ((.ref 86)), some (.int i1), some (.int i2), some (.int i3), some (.int i4)]) (st' := []) (t := 55) (u := 51) (b := mm_cc .eq x4 (92 : Int32)) 2 rfl (fun c => ?_) (fun c => ?_)
        · replace H := H.1 (of_decide_eq_true c)
          exact mm_R.pn (pc' := 15) (L' := [some ((.ref 86)), some (.int i1), some (.int i2), some (.int (0 : Int32)), some (.int (i4 + (1 : Int32)))]) (st' := []) 4 rfl (H.use R F)
        · replace H := H.2 (of_decide_eq_false c)
          exact mm_R.pn (pc' := 15) (L' := [some ((.ref 86)), some (.int i1), some (.int i2), some (.int (1 : Int32)), some (.int (i4 + (1 : Int32)))]) (st' := []) 5 rfl (H.use R F)
-- StepRunnerModel.commanded, from 0
set_option maxRecDepth 10000 in
theorem u189_0 {X : List Int32} {d : Nat} {i1 : Int32} {i2 : Int32} {σ : mS} {Q : Option Value → mS → Prop} (H : (0 ≤ i2 ∧ Int32.toNatClampNeg i2 < 96) ∧ ∀ σ2, σ2 = mPut σ 109 i2 (0 : Int32) → (0 ≤ i1 ∧ Int32.toNatClampNeg i1 < 6) ∧ (0 ≤ (mGet σ2 96 i1) ∧ Int32.toNatClampNeg (mGet σ2 96 i1) < 4) ∧ ∀ σ5, σ5 = mSet σ2 43 (1 : Int32) → mM X (d + 1) 189 28 [some ((.ref 86)), some (.int i1), some (.int i2), some (.int (mGet σ2 92 (mGet σ2 96 i1))), some (.int (-9 : Int32)), none, none] [] σ5 Q) : mM X (d + 1) 189 0 (mm_L0 189 [(.ref 86), .int i1, .int i2]) [] σ Q := by
  intro hp R
  have F : mF hp hp := mF.rf
  show mm_R X (d + 1) 189 0 [some ((.ref 86)), some (.int i1), some (.int i2), none, none, none, none] [] hp (mQ hp Q)
  refine mm_R.wgv (pc' := 1) (L' := [some ((.ref 86)), some (.int i1), some (.int i2), none, none, none, none]) (r := []) 1 rfl rfl (m_gv R rfl ?_)
  obtain ⟨hi1, H⟩ := H
  refine mm_R.wsi (pc' := 6) (L' := [some ((.ref 86)), some (.int i1), some (.int i2), none, none, none, none]) (r := []) (t := 1000) (ty := .int) 2 rfl rfl rfl rfl (m_si (i := i2) (v := (0 : Int32)) R F (n := 96) (by decide) hi1 rfl (fun hp R F => ?_))
  obtain ⟨σ2, es⟩ : ∃ z, z = mPut σ 109 i2 (0 : Int32) := ⟨_, rfl⟩
  rw [← es] at R
  replace H := H σ2 es
  refine mm_R.wgv (pc' := 8) (L' := [some ((.ref 86)), some (.int i1), some (.int i2), none, none, none, none]) (r := []) 1 rfl rfl (m_gv R rfl ?_)
  refine mm_R.wgv (pc' := 12) (L' := [some ((.ref 86)), some (.int i1), some (.int i2), none, none, none, none]) (r := [(.ref 92)]) 1 rfl rfl (m_gv R rfl ?_)
  obtain ⟨hi3, H⟩ := H
  refine mm_R.wai (pc' := 16) (L' := [some ((.ref 86)), some (.int i1), some (.int i2), none, none, none, none]) (r := [(.ref 92)]) (t := 1000) 1 rfl rfl rfl rfl (m_ai (i := i1) R (n := 6) (by decide) hi3 ?_)
  obtain ⟨hi4, H⟩ := H
  refine mm_R.wai (pc' := 17) (L' := [some ((.ref 86)), some (.int i1), some (.int i2), none, none, none, none]) (r := []) (t := 1000) 0 rfl rfl rfl rfl (m_ai (i := (mGet σ2 96 i1)) R (n := 4) (by decide) hi4 ?_)
  refine mm_R.wpt (pc' := 21) (L' := [some ((.ref 86)), some (.int i1), some (.int i2), some (.int (mGet σ2 92 (mGet σ2 96 i1))), none, none, none]) (r := []) 3 rfl rfl (m_pt (v := (1 : Int32)) R F rfl rfl rfl (fun hp R F => ?_))
  obtain ⟨σ5, es⟩ : ∃ z, z = mSet σ2 43 (1 : Int32) := ⟨_, rfl⟩
  rw [← es] at R
  replace H := H σ5 es
  exact mm_R.pn (pc' := 28) (L' := [some ((.ref 86)), some (.int i1), some (.int i2), some (.int (mGet σ2 92 (mGet σ2 96 i1))), some (.int (-9 : Int32)), none, none]) (st' := []) 2 rfl (H.use R F)
-- StepRunnerModel.commanded, from 28
set_option maxRecDepth 10000 in
theorem u189_28 {X : List Int32} {d : Nat} {i1 : Int32} {i2 : Int32} {i3 : Int32} {i4 : Int32} {o5 : Option Value} {o6 : Option Value} {σ : mS} {Q : Option Value → mS → Prop} (H : (((9 : Int32) < i4 → ((σ.1 43) = 0 ∨ (σ.1 43) = 1) ∧ Q (some (.int (σ.1 43))) σ) ∧ (¬ (9 : Int32) < i4 → mM X (d + 1) 189 38 [some ((.ref 86)), some (.int i1), some (.int i2), some (.int i3), some (.int i4), some (.int (0 : Int32)), o6] [] σ Q))) : mM X (d + 1) 189 28 [some ((.ref 86)), some (.int i1), some (.int i2), some (.int i3), some (.int i4), o5, o6] [] σ Q := by
  intro hp R
  have F : mF hp hp := mF.rf
  refine mm_R.br (L' := [some ((.ref 86)), some (.int i1), some (.int i2), some (.int i3), some (.int i4), o5, o6]) (st' := []) (t := 122) (u := 35) (b := mm_cc .gt i4 (9 : Int32)) 3 rfl (fun c => ?_) (fun c => ?_)
  · replace H := H.1 (of_decide_eq_true c)
    refine mm_R.wgi (pc' := 123) (L' := [some ((.ref 86)), some (.int i1), some (.int i2), some (.int i3), some (.int i4), o5, o6]) (r := []) 1 rfl rfl (m_gi R rfl ?_)
    exact mm_R.rt (pc' := 126) (L' := [some ((.ref 86)), some (.int i1), some (.int i2), some (.int i3), some (.int i4), o5, o6]) (st1 := [.int (σ.1 43)]) 0 rfl rfl rfl rfl rfl (mw_rvi (ty := .boolean) (m_fz H.1)) ⟨_, R, F, H.2⟩
  · replace H := H.2 (of_decide_eq_false c)
    exact mm_R.pn (pc' := 38) (L' := [some ((.ref 86)), some (.int i1), some (.int i2), some (.int i3), some (.int i4), some (.int (0 : Int32)), o6]) (st' := []) 2 rfl (H.use R F)
-- StepRunnerModel.commanded, from 38
set_option maxRecDepth 10000 in
theorem u189_38 {X : List Int32} {d : Nat} {i1 : Int32} {i2 : Int32} {i3 : Int32} {i4 : Int32} {i5 : Int32} {o6 : Option Value} {σ : mS} {Q : Option Value → mS → Prop} (H : ((i3 ≤ i5 → mM X (d + 1) 189 28 [some ((.ref 86)), some (.int i1), some (.int i2), some (.int i3), some (.int (i4 + (1 : Int32))), some (.int i5), o6] [] σ Q) ∧ (¬ i3 ≤ i5 → (0 ≤ i1 ∧ Int32.toNatClampNeg i1 < 6) ∧ (0 ≤ (((4 : Int32) * (mGet σ 96 i1)) + i5) ∧ Int32.toNatClampNeg (((4 : Int32) * (mGet σ 96 i1)) + i5) < 16) ∧ ((¬ (mGet σ 93 (((4 : Int32) * (mGet σ 96 i1)) + i5)) = i4 → mM X (d + 1) 189 38 [some ((.ref 86)), some (.int i1), some (.int i2), some (.int i3), some (.int i4), some (.int (i5 + (1 : Int32))), some (.int (((4 : Int32) * (mGet σ 96 i1)) + i5))] [] σ Q) ∧ ((mGet σ 93 (((4 : Int32) * (mGet σ 96 i1)) + i5)) = i4 → (0 ≤ (((4 : Int32) * (mGet σ 96 i1)) + i5) ∧ Int32.toNatClampNeg (((4 : Int32) * (mGet σ 96 i1)) + i5) < 16) ∧ (((4 : Int32) ≤ (mGet σ 95 (((4 : Int32) * (mGet σ 96 i1)) + i5)) → mM X (d + 1) 189 38 [some ((.ref 86)), some (.int i1), some (.int i2), some (.int i3), some (.int i4), some (.int (i5 + (1 : Int32))), some (.int (((4 : Int32) * (mGet σ 96 i1)) + i5))] [] σ Q) ∧ (¬ (4 : Int32) ≤ (mGet σ 95 (((4 : Int32) * (mGet σ 96 i1)) + i5)) → (0 ≤ (((4 : Int32) * (mGet σ 96 i1)) + i5) ∧ Int32.toNatClampNeg (((4 : Int32) * (mGet σ 96 i1)) + i5) < 16) ∧ (0 ≤ (((4 : Int32) * (mGet σ 96 i1)) + i5) ∧ Int32.toNatClampNeg (((4 : Int32) * (mGet σ 96 i1)) + i5) < 16) ∧ mM X d 190 0 (mm_L0 190 [(.ref 86), .int i2, .int ((137 : Int32) + i5), .int (mGet σ 94 (((4 : Int32) * (mGet σ 96 i1)) + i5)), .int (mGet σ 95 (((4 : Int32) * (mGet σ 96 i1)) + i5))]) [] σ (mi_K (fun x7 σ6 => ((¬ x7 = (0 : Int32) → mM X (d + 1) 189 38 [some ((.ref 86)), some (.int i1), some (.int i2), some (.int i3), some (.int i4), some (.int (i5 + (1 : Int32))), some (.int (((4 : Int32) * (mGet σ 96 i1)) + i5))] [] σ6 Q) ∧ (x7 = (0 : Int32) → Q (some (.int (0 : Int32))) σ6))))))))))) : mM X (d + 1) 189 38 [some ((.ref 86)), some (.int i1), some (.int i2), some (.int i3), some (.int i4), some (.int i5), o6] [] σ Q := by
  intro hp R
  have F : mF hp hp := mF.rf
  refine mm_R.br (L' := [some ((.ref 86)), some (.int i1), some (.int i2), some (.int i3), some (.int i4), some (.int i5), o6]) (st' := []) (t := 116) (u := 44) (b := mm_cc .ge i5 i3) 3 rfl (fun c => ?_) (fun c => ?_)
  · replace H := H.1 (of_decide_eq_true c)
    exact mm_R.pn (pc' := 28) (L' := [some ((.ref 86)), some (.int i1), some (.int i2), some (.int i3), some (.int (i4 + (1 : Int32))), some (.int i5), o6]) (st' := []) 2 rfl (H.use R F)
  · replace H := H.2 (of_decide_eq_false c)
    refine mm_R.wgv (pc' := 46) (L' := [some ((.ref 86)), some (.int i1), some (.int i2), some (.int i3), some (.int i4), some (.int i5), o6]) (r := [.int (4 : Int32)]) 2 rfl rfl (m_gv R rfl ?_)
    obtain ⟨hi1, H⟩ := H
    refine mm_R.wai (pc' := 50) (L' := [some ((.ref 86)), some (.int i1), some (.int i2), some (.int i3), some (.int i4), some (.int i5), o6]) (r := [.int (4 : Int32)]) (t := 1000) 1 rfl rfl rfl rfl (m_ai (i := i1) R (n := 6) (by decide) hi1 ?_)
    refine mm_R.wgv (pc' := 58) (L' := [some ((.ref 86)), some (.int i1), some (.int i2), some (.int i3), some (.int i4), some (.int i5), some (.int (((4 : Int32) * (mGet σ 96 i1)) + i5))]) (r := []) 5 rfl rfl (m_gv R rfl ?_)
    obtain ⟨hi2, H⟩ := H
    refine mm_R.wai (pc' := 63) (L' := [some ((.ref 86)), some (.int i1), some (.int i2), some (.int i3), some (.int i4), some (.int i5), some (.int (((4 : Int32) * (mGet σ 96 i1)) + i5))]) (r := []) (t := 1000) 1 rfl rfl rfl rfl (m_ai (i := (((4 : Int32) * (mGet σ 96 i1)) + i5)) R (n := 16) (by decide) hi2 ?_)
    refine mm_R.br (L' := [some ((.ref 86)), some (.int i1), some (.int i2), some (.int i3), some (.int i4), some (.int i5), some (.int (((4 : Int32) * (mGet σ 96 i1)) + i5))]) (st' := []) (t := 110) (u := 69) (b := mm_cc .ne (mGet σ 93 (((4 : Int32) * (mGet σ 96 i1)) + i5)) i4) 2 rfl (fun c => ?_) (fun c => ?_)
    · replace H := H.1 (of_decide_eq_true c)
      exact mm_R.pn (pc' := 38) (L' := [some ((.ref 86)), some (.int i1), some (.int i2), some (.int i3), some (.int i4), some (.int (i5 + (1 : Int32))), some (.int (((4 : Int32) * (mGet σ 96 i1)) + i5))]) (st' := []) 2 rfl (H.use R F)
    · replace H := H.2 (Decidable.of_not_not (of_decide_eq_false c))
      refine mm_R.wgv (pc' := 70) (L' := [some ((.ref 86)), some (.int i1), some (.int i2), some (.int i3), some (.int i4), some (.int i5), some (.int (((4 : Int32) * (mGet σ 96 i1)) + i5))]) (r := []) 1 rfl rfl (m_gv R rfl ?_)
      obtain ⟨hi3, H⟩ := H
      refine mm_R.wai (pc' := 75) (L' := [some ((.ref 86)), some (.int i1), some (.int i2), some (.int i3), some (.int i4), some (.int i5), some (.int (((4 : Int32) * (mGet σ 96 i1)) + i5))]) (r := []) (t := 1000) 1 rfl rfl rfl rfl (m_ai (i := (((4 : Int32) * (mGet σ 96 i1)) + i5)) R (n := 16) (by decide) hi3 ?_)
      refine mm_R.br (L' := [some ((.ref 86)), some (.int i1), some (.int i2), some (.int i3), some (.int i4), some (.int i5), some (.int (((4 : Int32) * (mGet σ 96 i1)) + i5))]) (st' := []) (t := 110) (u := 80) (b := mm_cc .ge (mGet σ 95 (((4 : Int32) * (mGet σ 96 i1)) + i5)) (4 : Int32)) 2 rfl (fun c => ?_) (fun c => ?_)
      · replace H := H.1 (of_decide_eq_true c)
        exact mm_R.pn (pc' := 38) (L' := [some ((.ref 86)), some (.int i1), some (.int i2), some (.int i3), some (.int i4), some (.int (i5 + (1 : Int32))), some (.int (((4 : Int32) * (mGet σ 96 i1)) + i5))]) (st' := []) 2 rfl (H.use R F)
      · replace H := H.2 (of_decide_eq_false c)
        refine mm_R.wgv (pc' := 89) (L' := [some ((.ref 86)), some (.int i1), some (.int i2), some (.int i3), some (.int i4), some (.int i5), some (.int (((4 : Int32) * (mGet σ 96 i1)) + i5))]) (r := [.int ((137 : Int32) + i5), .int i2, (.ref 86)]) 6 rfl rfl (m_gv R rfl ?_)
        obtain ⟨hi4, H⟩ := H
        refine mm_R.wai (pc' := 94) (L' := [some ((.ref 86)), some (.int i1), some (.int i2), some (.int i3), some (.int i4), some (.int i5), some (.int (((4 : Int32) * (mGet σ 96 i1)) + i5))]) (r := [.int ((137 : Int32) + i5), .int i2, (.ref 86)]) (t := 1000) 1 rfl rfl rfl rfl (m_ai (i := (((4 : Int32) * (mGet σ 96 i1)) + i5)) R (n := 16) (by decide) hi4 ?_)
        refine mm_R.wgv (pc' := 96) (L' := [some ((.ref 86)), some (.int i1), some (.int i2), some (.int i3), some (.int i4), some (.int i5), some (.int (((4 : Int32) * (mGet σ 96 i1)) + i5))]) (r := [.int (mGet σ 94 (((4 : Int32) * (mGet σ 96 i1)) + i5)), .int ((137 : Int32) + i5), .int i2, (.ref 86)]) 1 rfl rfl (m_gv R rfl ?_)
        obtain ⟨hi5, H⟩ := H
        refine mm_R.wai (pc' := 101) (L' := [some ((.ref 86)), some (.int i1), some (.int i2), some (.int i3), some (.int i4), some (.int i5), some (.int (((4 : Int32) * (mGet σ 96 i1)) + i5))]) (r := [.int (mGet σ 94 (((4 : Int32) * (mGet σ 96 i1)) + i5)), .int ((137 : Int32) + i5), .int i2, (.ref 86)]) (t := 1000) 1 rfl rfl rfl rfl (m_ai (i := (((4 : Int32) * (mGet σ 96 i1)) + i5)) R (n := 16) (by decide) hi5 ?_)
        refine mm_R.cV (pc' := 102) (L' := [some ((.ref 86)), some (.int i1), some (.int i2), some (.int i3), some (.int i4), some (.int i5), some (.int (((4 : Int32) * (mGet σ 96 i1)) + i5))]) (st1 := [.int (mGet σ 95 (((4 : Int32) * (mGet σ 96 i1)) + i5)), .int (mGet σ 94 (((4 : Int32) * (mGet σ 96 i1)) + i5)), .int ((137 : Int32) + i5), .int i2, (.ref 86)]) (as := [.int i2, .int ((137 : Int32) + i5), .int (mGet σ 94 (((4 : Int32) * (mGet σ 96 i1)) + i5)), .int (mGet σ 95 (((4 : Int32) * (mGet σ 96 i1)) + i5))]) (rest := []) 0 rfl rfl (mw_sp rfl rfl (Nat.le_of_ble_eq_true rfl) (mw_ac rfl (mw_ac rfl (mw_ac rfl (mw_ac rfl (mw_ac rfl mw_an))))) mw_an) rfl rfl (m_rc R rfl) ((H _ R).mono (fun o hp1 H => ?_))
        obtain ⟨σ6, R, F1, x7, rfl, H⟩ := H
        replace F := F.tr F1
        refine mm_R.br (L' := [some ((.ref 86)), some (.int i1), some (.int i2), some (.int i3), some (.int i4), some (.int i5), some (.int (((4 : Int32) * (mGet σ 96 i1)) + i5))]) (st' := []) (t := 110) (u := 108) (b := mm_cc .ne x7 (0 : Int32)) 1 rfl (fun c => ?_) (fun c => ?_)
        · replace H := H.1 (of_decide_eq_true c)
          exact mm_R.pn (pc' := 38) (L' := [some ((.ref 86)), some (.int i1), some (.int i2), some (.int i3), some (.int i4), some (.int (i5 + (1 : Int32))), some (.int (((4 : Int32) * (mGet σ 96 i1)) + i5))]) (st' := []) 2 rfl (H.use R F)
        · replace H := H.2 (Decidable.of_not_not (of_decide_eq_false c))
          exact mm_R.rt (pc' := 109) (L' := [some ((.ref 86)), some (.int i1), some (.int i2), some (.int i3), some (.int i4), some (.int i5), some (.int (((4 : Int32) * (mGet σ 96 i1)) + i5))]) (st1 := [.int (0 : Int32)]) 1 rfl rfl rfl rfl rfl rfl ⟨_, R, F, H⟩
