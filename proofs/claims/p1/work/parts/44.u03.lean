-- StepRunnerModel.isLength, from 0
set_option maxRecDepth 10000 in
theorem u159_0 {X : List Int32} {d : Nat} {i1 : Int32} {σ : mS} {Q : Option Value → mS → Prop} (H : mM X d 136 0 (mm_L0 136 [(.ref 86), .int i1]) [] σ (mi_K (fun x2 σ1 => ((¬ x2 = (46 : Int32) → Q (some (.int (0 : Int32))) σ1) ∧ (x2 = (46 : Int32) → mM X d 136 0 (mm_L0 136 [(.ref 86), .int (i1 + (1 : Int32))]) [] σ1 (mi_K (fun x4 σ3 => ((¬ x4 = (108 : Int32) → Q (some (.int (0 : Int32))) σ3) ∧ (x4 = (108 : Int32) → mM X d 136 0 (mm_L0 136 [(.ref 86), .int (i1 + (2 : Int32))]) [] σ3 (mi_K (fun x6 σ5 => ((¬ x6 = (101 : Int32) → Q (some (.int (0 : Int32))) σ5) ∧ (x6 = (101 : Int32) → mM X d 136 0 (mm_L0 136 [(.ref 86), .int (i1 + (3 : Int32))]) [] σ5 (mi_K (fun x8 σ7 => ((¬ x8 = (110 : Int32) → Q (some (.int (0 : Int32))) σ7) ∧ (x8 = (110 : Int32) → mM X d 136 0 (mm_L0 136 [(.ref 86), .int (i1 + (4 : Int32))]) [] σ7 (mi_K (fun x10 σ9 => ((¬ x10 = (103 : Int32) → Q (some (.int (0 : Int32))) σ9) ∧ (x10 = (103 : Int32) → mM X d 136 0 (mm_L0 136 [(.ref 86), .int (i1 + (5 : Int32))]) [] σ9 (mi_K (fun x12 σ11 => ((¬ x12 = (116 : Int32) → Q (some (.int (0 : Int32))) σ11) ∧ (x12 = (116 : Int32) → mM X d 136 0 (mm_L0 136 [(.ref 86), .int (i1 + (6 : Int32))]) [] σ11 (mi_K (fun x14 σ13 => ((¬ x14 = (104 : Int32) → Q (some (.int (0 : Int32))) σ13) ∧ (x14 = (104 : Int32) → Q (some (.int (1 : Int32))) σ13))))))))))))))))))))))))))))) : mM X (d + 1) 159 0 (mm_L0 159 [(.ref 86), .int i1]) [] σ Q := by
  intro hp R
  have F : mF hp hp := mF.rf
  show mm_R X (d + 1) 159 0 [some ((.ref 86)), some (.int i1)] [] hp (mQ hp Q)
  refine mm_R.cV (pc' := 2) (L' := [some ((.ref 86)), some (.int i1)]) (st1 := [.int i1, (.ref 86)]) (as := [.int i1]) (rest := []) 2 rfl rfl (mw_sp rfl rfl (Nat.le_of_ble_eq_true rfl) (mw_ac rfl (mw_ac rfl mw_an)) mw_an) rfl rfl (m_rc R rfl) ((H _ R).mono (fun o hp1 H => ?_))
  obtain ⟨σ1, R, F1, x2, rfl, H⟩ := H
  replace F := F.tr F1
  refine mm_R.br (L' := [some ((.ref 86)), some (.int i1)]) (st' := []) (t := 87) (u := 10) (b := mm_cc .ne x2 (46 : Int32)) 2 rfl (fun c => ?_) (fun c => ?_)
  · replace H := H.1 (of_decide_eq_true c)
    exact mm_R.rt (pc' := 88) (L' := [some ((.ref 86)), some (.int i1)]) (st1 := [.int (0 : Int32)]) 1 rfl rfl rfl rfl rfl rfl ⟨_, R, F, H⟩
  · replace H := H.2 (Decidable.of_not_not (of_decide_eq_false c))
    refine mm_R.cV (pc' := 14) (L' := [some ((.ref 86)), some (.int i1)]) (st1 := [.int (i1 + (1 : Int32)), (.ref 86)]) (as := [.int (i1 + (1 : Int32))]) (rest := []) 4 rfl rfl (mw_sp rfl rfl (Nat.le_of_ble_eq_true rfl) (mw_ac rfl (mw_ac rfl mw_an)) mw_an) rfl rfl (m_rc R rfl) ((H _ R).mono (fun o hp1 H => ?_))
    obtain ⟨σ3, R, F1, x4, rfl, H⟩ := H
    replace F := F.tr F1
    refine mm_R.br (L' := [some ((.ref 86)), some (.int i1)]) (st' := []) (t := 87) (u := 22) (b := mm_cc .ne x4 (108 : Int32)) 2 rfl (fun c => ?_) (fun c => ?_)
    · replace H := H.1 (of_decide_eq_true c)
      exact mm_R.rt (pc' := 88) (L' := [some ((.ref 86)), some (.int i1)]) (st1 := [.int (0 : Int32)]) 1 rfl rfl rfl rfl rfl rfl ⟨_, R, F, H⟩
    · replace H := H.2 (Decidable.of_not_not (of_decide_eq_false c))
      refine mm_R.cV (pc' := 26) (L' := [some ((.ref 86)), some (.int i1)]) (st1 := [.int (i1 + (2 : Int32)), (.ref 86)]) (as := [.int (i1 + (2 : Int32))]) (rest := []) 4 rfl rfl (mw_sp rfl rfl (Nat.le_of_ble_eq_true rfl) (mw_ac rfl (mw_ac rfl mw_an)) mw_an) rfl rfl (m_rc R rfl) ((H _ R).mono (fun o hp1 H => ?_))
      obtain ⟨σ5, R, F1, x6, rfl, H⟩ := H
      replace F := F.tr F1
      refine mm_R.br (L' := [some ((.ref 86)), some (.int i1)]) (st' := []) (t := 87) (u := 34) (b := mm_cc .ne x6 (101 : Int32)) 2 rfl (fun c => ?_) (fun c => ?_)
      · replace H := H.1 (of_decide_eq_true c)
        exact mm_R.rt (pc' := 88) (L' := [some ((.ref 86)), some (.int i1)]) (st1 := [.int (0 : Int32)]) 1 rfl rfl rfl rfl rfl rfl ⟨_, R, F, H⟩
      · replace H := H.2 (Decidable.of_not_not (of_decide_eq_false c))
        refine mm_R.cV (pc' := 38) (L' := [some ((.ref 86)), some (.int i1)]) (st1 := [.int (i1 + (3 : Int32)), (.ref 86)]) (as := [.int (i1 + (3 : Int32))]) (rest := []) 4 rfl rfl (mw_sp rfl rfl (Nat.le_of_ble_eq_true rfl) (mw_ac rfl (mw_ac rfl mw_an)) mw_an) rfl rfl (m_rc R rfl) ((H _ R).mono (fun o hp1 H => ?_))
        obtain ⟨σ7, R, F1, x8, rfl, H⟩ := H
        replace F := F.tr F1
        refine mm_R.br (L' := [some ((.ref 86)), some (.int i1)]) (st' := []) (t := 87) (u := 46) (b := mm_cc .ne x8 (110 : Int32)) 2 rfl (fun c => ?_) (fun c => ?_)
        · replace H := H.1 (of_decide_eq_true c)
          exact mm_R.rt (pc' := 88) (L' := [some ((.ref 86)), some (.int i1)]) (st1 := [.int (0 : Int32)]) 1 rfl rfl rfl rfl rfl rfl ⟨_, R, F, H⟩
        · replace H := H.2 (Decidable.of_not_not (of_decide_eq_false c))
          refine mm_R.cV (pc' := 50) (L' := [some ((.ref 86)), some (.int i1)]) (st1 := [.int (i1 + (4 : Int32)), (.ref 86)]) (as := [.int (i1 + (4 : Int32))]) (rest := []) 4 rfl rfl (mw_sp rfl rfl (Nat.le_of_ble_eq_true rfl) (mw_ac rfl (mw_ac rfl mw_an)) mw_an) rfl rfl (m_rc R rfl) ((H _ R).mono (fun o hp1 H => ?_))
          obtain ⟨σ9, R, F1, x10, rfl, H⟩ := H
          replace F := F.tr F1
          refine mm_R.br (L' := [some ((.ref 86)), some (.int i1)]) (st' := []) (t := 87) (u := 58) (b := mm_cc .ne x10 (103 : Int32)) 2 rfl (fun c => ?_) (fun c => ?_)
          · replace H := H.1 (of_decide_eq_true c)
            exact mm_R.rt (pc' := 88) (L' := [some ((.ref 86)), some (.int i1)]) (st1 := [.int (0 : Int32)]) 1 rfl rfl rfl rfl rfl rfl ⟨_, R, F, H⟩
          · replace H := H.2 (Decidable.of_not_not (of_decide_eq_false c))
            refine mm_R.cV (pc' := 62) (L' := [some ((.ref 86)), some (.int i1)]) (st1 := [.int (i1 + (5 : Int32)), (.ref 86)]) (as := [.int (i1 + (5 : Int32))]) (rest := []) 4 rfl rfl (mw_sp rfl rfl (Nat.le_of_ble_eq_true rfl) (mw_ac rfl (mw_ac rfl mw_an)) mw_an) rfl rfl (m_rc R rfl) ((H _ R).mono (fun o hp1 H => ?_))
            obtain ⟨σ11, R, F1, x12, rfl, H⟩ := H
            replace F := F.tr F1
            refine mm_R.br (L' := [some ((.ref 86)), some (.int i1)]) (st' := []) (t := 87) (u := 70) (b := mm_cc .ne x12 (116 : Int32)) 2 rfl (fun c => ?_) (fun c => ?_)
            · replace H := H.1 (of_decide_eq_true c)
              exact mm_R.rt (pc' := 88) (L' := [some ((.ref 86)), some (.int i1)]) (st1 := [.int (0 : Int32)]) 1 rfl rfl rfl rfl rfl rfl ⟨_, R, F, H⟩
            · replace H := H.2 (Decidable.of_not_not (of_decide_eq_false c))
              refine mm_R.cV (pc' := 75) (L' := [some ((.ref 86)), some (.int i1)]) (st1 := [.int (i1 + (6 : Int32)), (.ref 86)]) (as := [.int (i1 + (6 : Int32))]) (rest := []) 4 rfl rfl (mw_sp rfl rfl (Nat.le_of_ble_eq_true rfl) (mw_ac rfl (mw_ac rfl mw_an)) mw_an) rfl rfl (m_rc R rfl) ((H _ R).mono (fun o hp1 H => ?_))
              obtain ⟨σ13, R, F1, x14, rfl, H⟩ := H
              replace F := F.tr F1
              refine mm_R.br (L' := [some ((.ref 86)), some (.int i1)]) (st' := []) (t := 87) (u := 83) (b := mm_cc .ne x14 (104 : Int32)) 2 rfl (fun c => ?_) (fun c => ?_)
              · replace H := H.1 (of_decide_eq_true c)
                exact mm_R.rt (pc' := 88) (L' := [some ((.ref 86)), some (.int i1)]) (st1 := [.int (0 : Int32)]) 1 rfl rfl rfl rfl rfl rfl ⟨_, R, F, H⟩
              · replace H := H.2 (Decidable.of_not_not (of_decide_eq_false c))
                exact mm_R.rt (pc' := 88) (L' := [some ((.ref 86)), some (.int i1)]) (st1 := [.int (1 : Int32)]) 2 rfl rfl rfl rfl rfl rfl ⟨_, R, F, H⟩
-- StepRunnerModel.when, from 0
set_option maxRecDepth 10000 in
theorem u160_0 {X : List Int32} {d : Nat} {i1 : Int32} {σ : mS} {Q : Option Value → mS → Prop} (H : mM X d 126 0 (mm_L0 126 [(.ref 86)]) [] σ (mi_K (fun x2 σ1 => ((x2 = (0 : Int32) → mM X (d + 1) 160 20 [some ((.ref 86)), some (.int i1), none] [.int (0 : Int32)] σ1 Q) ∧ (¬ x2 = (0 : Int32) → mM X d 131 0 (mm_L0 131 [(.ref 86), .int i1]) [] σ1 (mi_K (fun x4 σ3 => ((x4 = (0 : Int32) → mM X (d + 1) 160 20 [some ((.ref 86)), some (.int i1), none] [.int (0 : Int32)] σ3 Q) ∧ (¬ x4 = (0 : Int32) → mM X (d + 1) 160 20 [some ((.ref 86)), some (.int i1), none] [.int (1 : Int32)] σ3 Q))))))))) : mM X (d + 1) 160 0 (mm_L0 160 [(.ref 86), .int i1]) [] σ Q := by
  intro hp R
  have F : mF hp hp := mF.rf
  show mm_R X (d + 1) 160 0 [some ((.ref 86)), some (.int i1), none] [] hp (mQ hp Q)
  refine mm_R.cV (pc' := 1) (L' := [some ((.ref 86)), some (.int i1), none]) (st1 := [(.ref 86)]) (as := []) (rest := []) 1 rfl rfl (mw_sp rfl rfl (Nat.le_of_ble_eq_true rfl) (mw_ac rfl mw_an) mw_an) rfl rfl (m_rc R rfl) ((H _ R).mono (fun o hp1 H => ?_))
  obtain ⟨σ1, R, F1, x2, rfl, H⟩ := H
  replace F := F.tr F1
  refine mm_R.br (L' := [some ((.ref 86)), some (.int i1), none]) (st' := []) (t := 19) (u := 7) (b := mm_cc .eq x2 (0 : Int32)) 1 rfl (fun c => ?_) (fun c => ?_)
  · replace H := H.1 (of_decide_eq_true c)
    exact mm_R.pn (pc' := 20) (L' := [some ((.ref 86)), some (.int i1), none]) (st' := [.int (0 : Int32)]) 1 rfl (H.use R F)
  · replace H := H.2 (of_decide_eq_false c)
    refine mm_R.cV (pc' := 9) (L' := [some ((.ref 86)), some (.int i1), none]) (st1 := [.int i1, (.ref 86)]) (as := [.int i1]) (rest := []) 2 rfl rfl (mw_sp rfl rfl (Nat.le_of_ble_eq_true rfl) (mw_ac rfl (mw_ac rfl mw_an)) mw_an) rfl rfl (m_rc R rfl) ((H _ R).mono (fun o hp1 H => ?_))
    obtain ⟨σ3, R, F1, x4, rfl, H⟩ := H
    replace F := F.tr F1
    refine mm_R.br (L' := [some ((.ref 86)), some (.int i1), none]) (st' := []) (t := 19) (u := 15) (b := mm_cc .eq x4 (0 : Int32)) 1 rfl (fun c => ?_) (fun c => ?_)
    · replace H := H.1 (of_decide_eq_true c)
      exact mm_R.pn (pc' := 20) (L' := [some ((.ref 86)), some (.int i1), none]) (st' := [.int (0 : Int32)]) 1 rfl (H.use R F)
    · replace H := H.2 (of_decide_eq_false c)
      exact mm_R.pn (pc' := 20) (L' := [some ((.ref 86)), some (.int i1), none]) (st' := [.int (1 : Int32)]) 2 rfl (H.use R F)
-- StepRunnerModel.when, from 20
set_option maxRecDepth 10000 in
theorem u160_20 {X : List Int32} {d : Nat} {i1 : Int32} {o2 : Option Value} {s0 : Int32} {σ : mS} {Q : Option Value → mS → Prop} (H : ((s0 = (0 : Int32) → mM X d 156 0 (mm_L0 156 [(.ref 86), .int s0, .int (0 : Int32)]) [] σ (mi_K (fun x2 σ1 => (x2 = 0 ∨ x2 = 1) ∧ Q (some (.int x2)) σ1))) ∧ (¬ s0 = (0 : Int32) → mM X d 156 0 (mm_L0 156 [(.ref 86), .int s0, .int ((24 : Int32) + i1)]) [] σ (mi_K (fun x4 σ3 => (x4 = 0 ∨ x4 = 1) ∧ Q (some (.int x4)) σ3))))) : mM X (d + 1) 160 20 [some ((.ref 86)), some (.int i1), o2] [.int s0] σ Q := by
  intro hp R
  have F : mF hp hp := mF.rf
  refine mm_R.br (L' := [some ((.ref 86)), some (.int i1), some (.int s0)]) (st' := [.int s0, (.ref 86)]) (t := 34) (u := 27) (b := mm_cc .eq s0 (0 : Int32)) 5 rfl (fun c => ?_) (fun c => ?_)
  · replace H := H.1 (of_decide_eq_true c)
    refine mm_R.cV (pc' := 35) (L' := [some ((.ref 86)), some (.int i1), some (.int s0)]) (st1 := [.int (0 : Int32), .int s0, (.ref 86)]) (as := [.int s0, .int (0 : Int32)]) (rest := []) 1 rfl rfl (mw_sp rfl rfl (Nat.le_of_ble_eq_true rfl) (mw_ac rfl (mw_ac rfl (mw_ac rfl mw_an))) mw_an) rfl rfl (m_rc R rfl) ((H _ R).mono (fun o hp1 H => ?_))
    obtain ⟨σ1, R, F1, x2, rfl, H⟩ := H
    replace F := F.tr F1
    exact mm_R.rt (pc' := 38) (L' := [some ((.ref 86)), some (.int i1), some (.int s0)]) (st1 := [.int x2]) 0 rfl rfl rfl rfl rfl (mw_rvi (ty := .boolean) (m_fz H.1)) ⟨_, R, F, H.2⟩
  · replace H := H.2 (of_decide_eq_false c)
    refine mm_R.cV (pc' := 35) (L' := [some ((.ref 86)), some (.int i1), some (.int s0)]) (st1 := [.int ((24 : Int32) + i1), .int s0, (.ref 86)]) (as := [.int s0, .int ((24 : Int32) + i1)]) (rest := []) 4 rfl rfl (mw_sp rfl rfl (Nat.le_of_ble_eq_true rfl) (mw_ac rfl (mw_ac rfl (mw_ac rfl mw_an))) mw_an) rfl rfl (m_rc R rfl) ((H _ R).mono (fun o hp1 H => ?_))
    obtain ⟨σ3, R, F1, x4, rfl, H⟩ := H
    replace F := F.tr F1
    exact mm_R.rt (pc' := 38) (L' := [some ((.ref 86)), some (.int i1), some (.int s0)]) (st1 := [.int x4]) 0 rfl rfl rfl rfl rfl (mw_rvi (ty := .boolean) (m_fz H.1)) ⟨_, R, F, H.2⟩
-- StepRunnerModel.scatter, from 0
set_option maxRecDepth 10000 in
theorem u161_0 {X : List Int32} {d : Nat} {i1 : Int32} {i2 : Int32} {i3 : Int32} {σ : mS} {Q : Option Value → mS → Prop} (H : mM X d 126 0 (mm_L0 126 [(.ref 86)]) [] σ (mi_K (fun x2 σ1 => ((x2 = (0 : Int32) → Q (some (.int (0 : Int32))) σ1) ∧ (¬ x2 = (0 : Int32) → mM X d 131 0 (mm_L0 131 [(.ref 86), .int i1]) [] σ1 (mi_K (fun x4 σ3 => ((x4 = (0 : Int32) → Q (some (.int (0 : Int32))) σ3) ∧ (¬ x4 = (0 : Int32) → mM X d 127 0 (mm_L0 127 [.int i2, .int (0 : Int32), .int (15 : Int32)]) [] σ3 (mi_K (fun x6 σ5 => ((x6 = (0 : Int32) → Q (some (.int (0 : Int32))) σ5) ∧ (¬ x6 = (0 : Int32) → mM X d 127 0 (mm_L0 127 [.int i3, .int (0 : Int32), .int (2 : Int32)]) [] σ5 (mi_K (fun x8 σ7 => ((¬ x8 = (0 : Int32) → (0 ≤ i1 ∧ Int32.toNatClampNeg i1 < 6) ∧ ∀ σ10, σ10 = mPut σ7 97 i1 i2 → (0 ≤ i1 ∧ Int32.toNatClampNeg i1 < 6) ∧ ∀ σ12, σ12 = mPut σ10 98 i1 i3 → Q (some (.int (1 : Int32))) σ12) ∧ (x8 = (0 : Int32) → Q (some (.int (0 : Int32))) σ7))))))))))))))))) : mM X (d + 1) 161 0 (mm_L0 161 [(.ref 86), .int i1, .int i2, .int i3]) [] σ Q := by
  intro hp R
  have F : mF hp hp := mF.rf
  show mm_R X (d + 1) 161 0 [some ((.ref 86)), some (.int i1), some (.int i2), some (.int i3)] [] hp (mQ hp Q)
  refine mm_R.cV (pc' := 1) (L' := [some ((.ref 86)), some (.int i1), some (.int i2), some (.int i3)]) (st1 := [(.ref 86)]) (as := []) (rest := []) 1 rfl rfl (mw_sp rfl rfl (Nat.le_of_ble_eq_true rfl) (mw_ac rfl mw_an) mw_an) rfl rfl (m_rc R rfl) ((H _ R).mono (fun o hp1 H => ?_))
  obtain ⟨σ1, R, F1, x2, rfl, H⟩ := H
  replace F := F.tr F1
  refine mm_R.br (L' := [some ((.ref 86)), some (.int i1), some (.int i2), some (.int i3)]) (st' := []) (t := 34) (u := 7) (b := mm_cc .eq x2 (0 : Int32)) 1 rfl (fun c => ?_) (fun c => ?_)
  · replace H := H.1 (of_decide_eq_true c)
    exact mm_R.rt (pc' := 35) (L' := [some ((.ref 86)), some (.int i1), some (.int i2), some (.int i3)]) (st1 := [.int (0 : Int32)]) 1 rfl rfl rfl rfl rfl rfl ⟨_, R, F, H⟩
  · replace H := H.2 (of_decide_eq_false c)
    refine mm_R.cV (pc' := 9) (L' := [some ((.ref 86)), some (.int i1), some (.int i2), some (.int i3)]) (st1 := [.int i1, (.ref 86)]) (as := [.int i1]) (rest := []) 2 rfl rfl (mw_sp rfl rfl (Nat.le_of_ble_eq_true rfl) (mw_ac rfl (mw_ac rfl mw_an)) mw_an) rfl rfl (m_rc R rfl) ((H _ R).mono (fun o hp1 H => ?_))
    obtain ⟨σ3, R, F1, x4, rfl, H⟩ := H
    replace F := F.tr F1
    refine mm_R.br (L' := [some ((.ref 86)), some (.int i1), some (.int i2), some (.int i3)]) (st' := []) (t := 34) (u := 15) (b := mm_cc .eq x4 (0 : Int32)) 1 rfl (fun c => ?_) (fun c => ?_)
    · replace H := H.1 (of_decide_eq_true c)
      exact mm_R.rt (pc' := 35) (L' := [some ((.ref 86)), some (.int i1), some (.int i2), some (.int i3)]) (st1 := [.int (0 : Int32)]) 1 rfl rfl rfl rfl rfl rfl ⟨_, R, F, H⟩
    · replace H := H.2 (of_decide_eq_false c)
      refine mm_R.cS (pc' := 19) (L' := [some ((.ref 86)), some (.int i1), some (.int i2), some (.int i3)]) (st1 := [.int (15 : Int32), .int (0 : Int32), .int i2]) (as := [.int i2, .int (0 : Int32), .int (15 : Int32)]) (rest := []) 3 rfl rfl (mw_sp rfl rfl (Nat.le_of_ble_eq_true rfl) (mw_ac rfl (mw_ac rfl (mw_ac rfl mw_an))) mw_an) rfl rfl ((H _ R).mono (fun o hp1 H => ?_))
      obtain ⟨σ5, R, F1, x6, rfl, H⟩ := H
      replace F := F.tr F1
      refine mm_R.br (L' := [some ((.ref 86)), some (.int i1), some (.int i2), some (.int i3)]) (st' := []) (t := 34) (u := 25) (b := mm_cc .eq x6 (0 : Int32)) 1 rfl (fun c => ?_) (fun c => ?_)
      · replace H := H.1 (of_decide_eq_true c)
        exact mm_R.rt (pc' := 35) (L' := [some ((.ref 86)), some (.int i1), some (.int i2), some (.int i3)]) (st1 := [.int (0 : Int32)]) 1 rfl rfl rfl rfl rfl rfl ⟨_, R, F, H⟩
      · replace H := H.2 (of_decide_eq_false c)
        refine mm_R.cS (pc' := 28) (L' := [some ((.ref 86)), some (.int i1), some (.int i2), some (.int i3)]) (st1 := [.int (2 : Int32), .int (0 : Int32), .int i3]) (as := [.int i3, .int (0 : Int32), .int (2 : Int32)]) (rest := []) 3 rfl rfl (mw_sp rfl rfl (Nat.le_of_ble_eq_true rfl) (mw_ac rfl (mw_ac rfl (mw_ac rfl mw_an))) mw_an) rfl rfl ((H _ R).mono (fun o hp1 H => ?_))
        obtain ⟨σ7, R, F1, x8, rfl, H⟩ := H
        replace F := F.tr F1
        refine mm_R.br (L' := [some ((.ref 86)), some (.int i1), some (.int i2), some (.int i3)]) (st' := []) (t := 36) (u := 34) (b := mm_cc .ne x8 (0 : Int32)) 1 rfl (fun c => ?_) (fun c => ?_)
        · replace H := H.1 (of_decide_eq_true c)
          refine mm_R.wgv (pc' := 37) (L' := [some ((.ref 86)), some (.int i1), some (.int i2), some (.int i3)]) (r := []) 1 rfl rfl (m_gv R rfl ?_)
          obtain ⟨hi9, H⟩ := H
          refine mm_R.wsi (pc' := 42) (L' := [some ((.ref 86)), some (.int i1), some (.int i2), some (.int i3)]) (r := []) (t := 1000) (ty := .int) 2 rfl rfl rfl rfl (m_si (i := i1) (v := i2) R F (n := 6) (by decide) hi9 rfl (fun hp R F => ?_))
          obtain ⟨σ10, es⟩ : ∃ z, z = mPut σ7 97 i1 i2 := ⟨_, rfl⟩
          rw [← es] at R
          replace H := H σ10 es
          refine mm_R.wgv (pc' := 44) (L' := [some ((.ref 86)), some (.int i1), some (.int i2), some (.int i3)]) (r := []) 1 rfl rfl (m_gv R rfl ?_)
          obtain ⟨hi11, H⟩ := H
          refine mm_R.wsi (pc' := 49) (L' := [some ((.ref 86)), some (.int i1), some (.int i2), some (.int i3)]) (r := []) (t := 1000) (ty := .int) 2 rfl rfl rfl rfl (m_si (i := i1) (v := i3) R F (n := 6) (by decide) hi11 rfl (fun hp R F => ?_))
          obtain ⟨σ12, es⟩ : ∃ z, z = mPut σ10 98 i1 i3 := ⟨_, rfl⟩
          rw [← es] at R
          replace H := H σ12 es
          exact mm_R.rt (pc' := 51) (L' := [some ((.ref 86)), some (.int i1), some (.int i2), some (.int i3)]) (st1 := [.int (1 : Int32)]) 1 rfl rfl rfl rfl rfl rfl ⟨_, R, F, H⟩
        · replace H := H.2 (Decidable.of_not_not (of_decide_eq_false c))
          exact mm_R.rt (pc' := 35) (L' := [some ((.ref 86)), some (.int i1), some (.int i2), some (.int i3)]) (st1 := [.int (0 : Int32)]) 1 rfl rfl rfl rfl rfl rfl ⟨_, R, F, H⟩
-- StepRunnerModel.input, from 0
set_option maxRecDepth 10000 in
theorem u162_0 {X : List Int32} {d : Nat} {i1 : Int32} {σ : mS} {Q : Option Value → mS → Prop} (H : mM X d 126 0 (mm_L0 126 [(.ref 86)]) [] σ (mi_K (fun x2 σ1 => ((x2 = (0 : Int32) → mM X (d + 1) 162 20 [some ((.ref 86)), some (.int i1), none] [] σ1 Q) ∧ (¬ x2 = (0 : Int32) → mM X d 127 0 (mm_L0 127 [.int i1, .int (0 : Int32), .int (2 : Int32)]) [] σ1 (mi_K (fun x4 σ3 => ((x4 = (0 : Int32) → mM X (d + 1) 162 20 [some ((.ref 86)), some (.int i1), none] [] σ3 Q) ∧ (¬ x4 = (0 : Int32) → (((1 : Int32) = (0 : Int32) → mM X d 134 0 (mm_L0 134 [(.ref 86), .int (1 : Int32), .int (0 : Int32)]) [] σ3 (mi_K (fun x6 σ5 => (x6 = 0 ∨ x6 = 1) ∧ Q (some (.int x6)) σ5))) ∧ (¬ (1 : Int32) = (0 : Int32) → mM X d 134 0 (mm_L0 134 [(.ref 86), .int (1 : Int32), .int i1]) [] σ3 (mi_K (fun x8 σ7 => (x8 = 0 ∨ x8 = 1) ∧ Q (some (.int x8)) σ7))))))))))))) : mM X (d + 1) 162 0 (mm_L0 162 [(.ref 86), .int i1]) [] σ Q := by
  intro hp R
  have F : mF hp hp := mF.rf
  show mm_R X (d + 1) 162 0 [some ((.ref 86)), some (.int i1), none] [] hp (mQ hp Q)
  refine mm_R.cV (pc' := 1) (L' := [some ((.ref 86)), some (.int i1), none]) (st1 := [(.ref 86)]) (as := []) (rest := []) 1 rfl rfl (mw_sp rfl rfl (Nat.le_of_ble_eq_true rfl) (mw_ac rfl mw_an) mw_an) rfl rfl (m_rc R rfl) ((H _ R).mono (fun o hp1 H => ?_))
  obtain ⟨σ1, R, F1, x2, rfl, H⟩ := H
  replace F := F.tr F1
  refine mm_R.br (L' := [some ((.ref 86)), some (.int i1), none]) (st' := []) (t := 20) (u := 7) (b := mm_cc .eq x2 (0 : Int32)) 1 rfl (fun c => ?_) (fun c => ?_)
  · replace H := H.1 (of_decide_eq_true c)
    exact H.use R F
  · replace H := H.2 (of_decide_eq_false c)
    refine mm_R.cS (pc' := 10) (L' := [some ((.ref 86)), some (.int i1), none]) (st1 := [.int (2 : Int32), .int (0 : Int32), .int i1]) (as := [.int i1, .int (0 : Int32), .int (2 : Int32)]) (rest := []) 3 rfl rfl (mw_sp rfl rfl (Nat.le_of_ble_eq_true rfl) (mw_ac rfl (mw_ac rfl (mw_ac rfl mw_an))) mw_an) rfl rfl ((H _ R).mono (fun o hp1 H => ?_))
    obtain ⟨σ3, R, F1, x4, rfl, H⟩ := H
    replace F := F.tr F1
    refine mm_R.br (L' := [some ((.ref 86)), some (.int i1), none]) (st' := []) (t := 20) (u := 16) (b := mm_cc .eq x4 (0 : Int32)) 1 rfl (fun c => ?_) (fun c => ?_)
    · replace H := H.1 (of_decide_eq_true c)
      exact H.use R F
    · replace H := H.2 (of_decide_eq_false c)
      refine mm_R.br (L' := [some ((.ref 86)), some (.int i1), some (.int (1 : Int32))]) (st' := [.int (1 : Int32), (.ref 86)]) (t := 32) (u := 28) (b := mm_cc .eq (1 : Int32) (0 : Int32)) 7 rfl (fun c => ?_) (fun c => ?_)
      · replace H := H.1 (of_decide_eq_true c)
        refine mm_R.cV (pc' := 33) (L' := [some ((.ref 86)), some (.int i1), some (.int (1 : Int32))]) (st1 := [.int (0 : Int32), .int (1 : Int32), (.ref 86)]) (as := [.int (1 : Int32), .int (0 : Int32)]) (rest := []) 1 rfl rfl (mw_sp rfl rfl (Nat.le_of_ble_eq_true rfl) (mw_ac rfl (mw_ac rfl (mw_ac rfl mw_an))) mw_an) rfl rfl (m_rc R rfl) ((H _ R).mono (fun o hp1 H => ?_))
        obtain ⟨σ5, R, F1, x6, rfl, H⟩ := H
        replace F := F.tr F1
        exact mm_R.rt (pc' := 36) (L' := [some ((.ref 86)), some (.int i1), some (.int (1 : Int32))]) (st1 := [.int x6]) 0 rfl rfl rfl rfl rfl (mw_rvi (ty := .boolean) (m_fz H.1)) ⟨_, R, F, H.2⟩
      · replace H := H.2 (of_decide_eq_false c)
        refine mm_R.cV (pc' := 33) (L' := [some ((.ref 86)), some (.int i1), some (.int (1 : Int32))]) (st1 := [.int i1, .int (1 : Int32), (.ref 86)]) (as := [.int (1 : Int32), .int i1]) (rest := []) 2 rfl rfl (mw_sp rfl rfl (Nat.le_of_ble_eq_true rfl) (mw_ac rfl (mw_ac rfl (mw_ac rfl mw_an))) mw_an) rfl rfl (m_rc R rfl) ((H _ R).mono (fun o hp1 H => ?_))
        obtain ⟨σ7, R, F1, x8, rfl, H⟩ := H
        replace F := F.tr F1
        exact mm_R.rt (pc' := 36) (L' := [some ((.ref 86)), some (.int i1), some (.int (1 : Int32))]) (st1 := [.int x8]) 0 rfl rfl rfl rfl rfl (mw_rvi (ty := .boolean) (m_fz H.1)) ⟨_, R, F, H.2⟩
-- StepRunnerModel.input, from 20
set_option maxRecDepth 10000 in
theorem u162_20 {X : List Int32} {d : Nat} {i1 : Int32} {o2 : Option Value} {σ : mS} {Q : Option Value → mS → Prop} (H : (((0 : Int32) = (0 : Int32) → mM X d 134 0 (mm_L0 134 [(.ref 86), .int (0 : Int32), .int (0 : Int32)]) [] σ (mi_K (fun x2 σ1 => (x2 = 0 ∨ x2 = 1) ∧ Q (some (.int x2)) σ1))) ∧ (¬ (0 : Int32) = (0 : Int32) → mM X d 134 0 (mm_L0 134 [(.ref 86), .int (0 : Int32), .int i1]) [] σ (mi_K (fun x4 σ3 => (x4 = 0 ∨ x4 = 1) ∧ Q (some (.int x4)) σ3))))) : mM X (d + 1) 162 20 [some ((.ref 86)), some (.int i1), o2] [] σ Q := by
  intro hp R
  have F : mF hp hp := mF.rf
  refine mm_R.br (L' := [some ((.ref 86)), some (.int i1), some (.int (0 : Int32))]) (st' := [.int (0 : Int32), (.ref 86)]) (t := 32) (u := 28) (b := mm_cc .eq (0 : Int32) (0 : Int32)) 6 rfl (fun c => ?_) (fun c => ?_)
  · replace H := H.1 (of_decide_eq_true c)
    refine mm_R.cV (pc' := 33) (L' := [some ((.ref 86)), some (.int i1), some (.int (0 : Int32))]) (st1 := [.int (0 : Int32), .int (0 : Int32), (.ref 86)]) (as := [.int (0 : Int32), .int (0 : Int32)]) (rest := []) 1 rfl rfl (mw_sp rfl rfl (Nat.le_of_ble_eq_true rfl) (mw_ac rfl (mw_ac rfl (mw_ac rfl mw_an))) mw_an) rfl rfl (m_rc R rfl) ((H _ R).mono (fun o hp1 H => ?_))
    obtain ⟨σ1, R, F1, x2, rfl, H⟩ := H
    replace F := F.tr F1
    exact mm_R.rt (pc' := 36) (L' := [some ((.ref 86)), some (.int i1), some (.int (0 : Int32))]) (st1 := [.int x2]) 0 rfl rfl rfl rfl rfl (mw_rvi (ty := .boolean) (m_fz H.1)) ⟨_, R, F, H.2⟩
  · replace H := H.2 (of_decide_eq_false c)
    refine mm_R.cV (pc' := 33) (L' := [some ((.ref 86)), some (.int i1), some (.int (0 : Int32))]) (st1 := [.int i1, .int (0 : Int32), (.ref 86)]) (as := [.int (0 : Int32), .int i1]) (rest := []) 2 rfl rfl (mw_sp rfl rfl (Nat.le_of_ble_eq_true rfl) (mw_ac rfl (mw_ac rfl (mw_ac rfl mw_an))) mw_an) rfl rfl (m_rc R rfl) ((H _ R).mono (fun o hp1 H => ?_))
    obtain ⟨σ3, R, F1, x4, rfl, H⟩ := H
    replace F := F.tr F1
    exact mm_R.rt (pc' := 36) (L' := [some ((.ref 86)), some (.int i1), some (.int (0 : Int32))]) (st1 := [.int x4]) 0 rfl rfl rfl rfl rfl (mw_rvi (ty := .boolean) (m_fz H.1)) ⟨_, R, F, H.2⟩
-- StepRunnerModel.start, from 0
set_option maxRecDepth 10000 in
theorem u163_0 {X : List Int32} {d : Nat} {i1 : Int32} {σ : mS} {Q : Option Value → mS → Prop} (H : (((σ.1 23) = (1 : Int32) → Q (some (.int (-1 : Int32))) σ) ∧ (¬ (σ.1 23) = (1 : Int32) → mM X d 127 0 (mm_L0 127 [.int i1, .int (1 : Int32), .int (3 : Int32)]) [] σ (mi_K (fun x2 σ1 => ((¬ x2 = (0 : Int32) → mM X (d + 1) 163 21 [some ((.ref 86)), some (.int i1), some (.int (0 : Int32)), none] [] σ1 Q) ∧ (x2 = (0 : Int32) → Q (some (.int (-1 : Int32))) σ1))))))) : mM X (d + 1) 163 0 (mm_L0 163 [(.ref 86), .int i1]) [] σ Q := by
  intro hp R
  have F : mF hp hp := mF.rf
  show mm_R X (d + 1) 163 0 [some ((.ref 86)), some (.int i1), none, none] [] hp (mQ hp Q)
  refine mm_R.wgi (pc' := 1) (L' := [some ((.ref 86)), some (.int i1), none, none]) (r := []) 1 rfl rfl (m_gi R rfl ?_)
  refine mm_R.br (L' := [some ((.ref 86)), some (.int i1), none, none]) (st' := []) (t := 17) (u := 8) (b := mm_cc .eq (σ.1 23) (1 : Int32)) 2 rfl (fun c => ?_) (fun c => ?_)
  · replace H := H.1 (of_decide_eq_true c)
    exact mm_R.rt (pc' := 18) (L' := [some ((.ref 86)), some (.int i1), none, none]) (st1 := [.int (-1 : Int32)]) 1 rfl rfl rfl rfl rfl rfl ⟨_, R, F, H⟩
  · replace H := H.2 (of_decide_eq_false c)
    refine mm_R.cS (pc' := 11) (L' := [some ((.ref 86)), some (.int i1), none, none]) (st1 := [.int (3 : Int32), .int (1 : Int32), .int i1]) (as := [.int i1, .int (1 : Int32), .int (3 : Int32)]) (rest := []) 3 rfl rfl (mw_sp rfl rfl (Nat.le_of_ble_eq_true rfl) (mw_ac rfl (mw_ac rfl (mw_ac rfl mw_an))) mw_an) rfl rfl ((H _ R).mono (fun o hp1 H => ?_))
    obtain ⟨σ1, R, F1, x2, rfl, H⟩ := H
    replace F := F.tr F1
    refine mm_R.br (L' := [some ((.ref 86)), some (.int i1), none, none]) (st' := []) (t := 19) (u := 17) (b := mm_cc .ne x2 (0 : Int32)) 1 rfl (fun c => ?_) (fun c => ?_)
    · replace H := H.1 (of_decide_eq_true c)
      exact mm_R.pn (pc' := 21) (L' := [some ((.ref 86)), some (.int i1), some (.int (0 : Int32)), none]) (st' := []) 2 rfl (H.use R F)
    · replace H := H.2 (Decidable.of_not_not (of_decide_eq_false c))
      exact mm_R.rt (pc' := 18) (L' := [some ((.ref 86)), some (.int i1), none, none]) (st1 := [.int (-1 : Int32)]) 1 rfl rfl rfl rfl rfl rfl ⟨_, R, F, H⟩
-- StepRunnerModel.start, from 21
set_option maxRecDepth 10000 in
theorem u163_21 {X : List Int32} {d : Nat} {i1 : Int32} {i2 : Int32} {o3 : Option Value} {σ : mS} {Q : Option Value → mS → Prop} (H : (((σ.1 12) ≤ i2 → mM X d 165 0 (mm_L0 165 [(.ref 86)]) [] σ (mi_K (fun x2 σ1 => ((x2 = (0 : Int32) → ∀ σ3, σ3 = mSet σ1 24 i1 → ∀ σ4, σ4 = mSet σ3 23 (1 : Int32) → ∀ σ5, σ5 = mSet σ4 25 (σ4.1 12) → ∀ σ6, σ6 = mSet σ5 26 (0 : Int32) → ∀ σ7, σ7 = mSet σ6 27 (0 : Int32) → ∀ σ8, σ8 = mSet σ7 28 (0 : Int32) → mM X (d + 1) 163 107 [some ((.ref 86)), some (.int i1), some (.int (0 : Int32)), o3] [] σ8 Q) ∧ (¬ x2 = (0 : Int32) → Q (some (.int (2 : Int32))) σ1))))) ∧ (¬ (σ.1 12) ≤ i2 → mM X (d + 1) 163 34 [some ((.ref 86)), some (.int i1), some (.int i2), some (.int (σ.1 12))] [] σ Q))) : mM X (d + 1) 163 21 [some ((.ref 86)), some (.int i1), some (.int i2), o3] [] σ Q := by
  intro hp R
  have F : mF hp hp := mF.rf
  refine mm_R.wgi (pc' := 23) (L' := [some ((.ref 86)), some (.int i1), some (.int i2), o3]) (r := [.int i2]) 2 rfl rfl (m_gi R rfl ?_)
  refine mm_R.br (L' := [some ((.ref 86)), some (.int i1), some (.int i2), o3]) (st' := []) (t := 63) (u := 29) (b := mm_cc .ge i2 (σ.1 12)) 1 rfl (fun c => ?_) (fun c => ?_)
  · replace H := H.1 (of_decide_eq_true c)
    refine mm_R.cV (pc' := 64) (L' := [some ((.ref 86)), some (.int i1), some (.int i2), o3]) (st1 := [(.ref 86)]) (as := []) (rest := []) 1 rfl rfl (mw_sp rfl rfl (Nat.le_of_ble_eq_true rfl) (mw_ac rfl mw_an) mw_an) rfl rfl (m_rc R rfl) ((H _ R).mono (fun o hp1 H => ?_))
    obtain ⟨σ1, R, F1, x2, rfl, H⟩ := H
    replace F := F.tr F1
    refine mm_R.br (L' := [some ((.ref 86)), some (.int i1), some (.int i2), o3]) (st' := []) (t := 72) (u := 70) (b := mm_cc .eq x2 (0 : Int32)) 1 rfl (fun c => ?_) (fun c => ?_)
    · replace H := H.1 (of_decide_eq_true c)
      refine mm_R.wpt (pc' := 74) (L' := [some ((.ref 86)), some (.int i1), some (.int i2), o3]) (r := []) 2 rfl rfl (m_pt (v := i1) R F rfl rfl rfl (fun hp R F => ?_))
      obtain ⟨σ3, es⟩ : ∃ z, z = mSet σ1 24 i1 := ⟨_, rfl⟩
      rw [← es] at R
      replace H := H σ3 es
      refine mm_R.wpt (pc' := 79) (L' := [some ((.ref 86)), some (.int i1), some (.int i2), o3]) (r := []) 2 rfl rfl (m_pt (v := (1 : Int32)) R F rfl rfl rfl (fun hp R F => ?_))
      obtain ⟨σ4, es⟩ : ∃ z, z = mSet σ3 23 (1 : Int32) := ⟨_, rfl⟩
      rw [← es] at R
      replace H := H σ4 es
      refine mm_R.wgi (pc' := 84) (L' := [some ((.ref 86)), some (.int i1), some (.int i2), o3]) (r := [(.ref 86)]) 2 rfl rfl (m_gi R rfl ?_)
      refine mm_R.wpt (pc' := 87) (L' := [some ((.ref 86)), some (.int i1), some (.int i2), o3]) (r := []) 0 rfl rfl (m_pt (v := (σ4.1 12)) R F rfl rfl rfl (fun hp R F => ?_))
      obtain ⟨σ5, es⟩ : ∃ z, z = mSet σ4 25 (σ4.1 12) := ⟨_, rfl⟩
      rw [← es] at R
      replace H := H σ5 es
      refine mm_R.wpt (pc' := 92) (L' := [some ((.ref 86)), some (.int i1), some (.int i2), o3]) (r := []) 2 rfl rfl (m_pt (v := (0 : Int32)) R F rfl rfl rfl (fun hp R F => ?_))
      obtain ⟨σ6, es⟩ : ∃ z, z = mSet σ5 26 (0 : Int32) := ⟨_, rfl⟩
      rw [← es] at R
      replace H := H σ6 es
      refine mm_R.wpt (pc' := 97) (L' := [some ((.ref 86)), some (.int i1), some (.int i2), o3]) (r := []) 2 rfl rfl (m_pt (v := (0 : Int32)) R F rfl rfl rfl (fun hp R F => ?_))
      obtain ⟨σ7, es⟩ : ∃ z, z = mSet σ6 27 (0 : Int32) := ⟨_, rfl⟩
      rw [← es] at R
      replace H := H σ7 es
      refine mm_R.wpt (pc' := 102) (L' := [some ((.ref 86)), some (.int i1), some (.int i2), o3]) (r := []) 2 rfl rfl (m_pt (v := (0 : Int32)) R F rfl rfl rfl (fun hp R F => ?_))
      obtain ⟨σ8, es⟩ : ∃ z, z = mSet σ7 28 (0 : Int32) := ⟨_, rfl⟩
      rw [← es] at R
      replace H := H σ8 es
      exact mm_R.pn (pc' := 107) (L' := [some ((.ref 86)), some (.int i1), some (.int (0 : Int32)), o3]) (st' := []) 2 rfl (H.use R F)
    · replace H := H.2 (of_decide_eq_false c)
      exact mm_R.rt (pc' := 71) (L' := [some ((.ref 86)), some (.int i1), some (.int i2), o3]) (st1 := [.int (2 : Int32)]) 1 rfl rfl rfl rfl rfl rfl ⟨_, R, F, H⟩
  · replace H := H.2 (of_decide_eq_false c)
    refine mm_R.wgi (pc' := 30) (L' := [some ((.ref 86)), some (.int i1), some (.int i2), o3]) (r := []) 1 rfl rfl (m_gi R rfl ?_)
    exact mm_R.pn (pc' := 34) (L' := [some ((.ref 86)), some (.int i1), some (.int i2), some (.int (σ.1 12))]) (st' := []) 1 rfl (H.use R F)
-- StepRunnerModel.start, from 34
set_option maxRecDepth 10000 in
theorem u163_34 {X : List Int32} {d : Nat} {i1 : Int32} {i2 : Int32} {i3 : Int32} {σ : mS} {Q : Option Value → mS → Prop} (H : (((6 : Int32) ≤ i3 → mM X (d + 1) 163 21 [some ((.ref 86)), some (.int i1), some (.int (i2 + (1 : Int32))), some (.int i3)] [] σ Q) ∧ (¬ (6 : Int32) ≤ i3 → mM X d 164 0 (mm_L0 164 [(.ref 86), .int i2, .int i3]) [] σ (mi_K (fun x2 σ1 => ((x2 = (0 : Int32) → mM X (d + 1) 163 34 [some ((.ref 86)), some (.int i1), some (.int i2), some (.int (i3 + (1 : Int32)))] [] σ1 Q) ∧ (¬ x2 = (0 : Int32) → Q (some (.int (1 : Int32))) σ1))))))) : mM X (d + 1) 163 34 [some ((.ref 86)), some (.int i1), some (.int i2), some (.int i3)] [] σ Q := by
  intro hp R
  have F : mF hp hp := mF.rf
  refine mm_R.br (L' := [some ((.ref 86)), some (.int i1), some (.int i2), some (.int i3)]) (st' := []) (t := 57) (u := 40) (b := mm_cc .ge i3 (6 : Int32)) 3 rfl (fun c => ?_) (fun c => ?_)
  · replace H := H.1 (of_decide_eq_true c)
    exact mm_R.pn (pc' := 21) (L' := [some ((.ref 86)), some (.int i1), some (.int (i2 + (1 : Int32))), some (.int i3)]) (st' := []) 2 rfl (H.use R F)
  · replace H := H.2 (of_decide_eq_false c)
    refine mm_R.cV (pc' := 43) (L' := [some ((.ref 86)), some (.int i1), some (.int i2), some (.int i3)]) (st1 := [.int i3, .int i2, (.ref 86)]) (as := [.int i2, .int i3]) (rest := []) 3 rfl rfl (mw_sp rfl rfl (Nat.le_of_ble_eq_true rfl) (mw_ac rfl (mw_ac rfl (mw_ac rfl mw_an))) mw_an) rfl rfl (m_rc R rfl) ((H _ R).mono (fun o hp1 H => ?_))
    obtain ⟨σ1, R, F1, x2, rfl, H⟩ := H
    replace F := F.tr F1
    refine mm_R.br (L' := [some ((.ref 86)), some (.int i1), some (.int i2), some (.int i3)]) (st' := []) (t := 51) (u := 49) (b := mm_cc .eq x2 (0 : Int32)) 1 rfl (fun c => ?_) (fun c => ?_)
    · replace H := H.1 (of_decide_eq_true c)
      exact mm_R.pn (pc' := 34) (L' := [some ((.ref 86)), some (.int i1), some (.int i2), some (.int (i3 + (1 : Int32)))]) (st' := []) 2 rfl (H.use R F)
    · replace H := H.2 (of_decide_eq_false c)
      exact mm_R.rt (pc' := 50) (L' := [some ((.ref 86)), some (.int i1), some (.int i2), some (.int i3)]) (st1 := [.int (1 : Int32)]) 1 rfl rfl rfl rfl rfl rfl ⟨_, R, F, H⟩
-- StepRunnerModel.start, from 107
set_option maxRecDepth 10000 in
theorem u163_107 {X : List Int32} {d : Nat} {i1 : Int32} {i2 : Int32} {o3 : Option Value} {σ : mS} {Q : Option Value → mS → Prop} (H : (((6 : Int32) ≤ i2 → mM X (d + 1) 163 135 [some ((.ref 86)), some (.int i1), some (.int (0 : Int32)), o3] [] σ Q) ∧ (¬ (6 : Int32) ≤ i2 → (0 ≤ i2 ∧ Int32.toNatClampNeg i2 < 6) ∧ ∀ σ2, σ2 = mPut σ 106 i2 (0 : Int32) → (0 ≤ i2 ∧ Int32.toNatClampNeg i2 < 6) ∧ ∀ σ4, σ4 = mPut σ2 107 i2 (0 : Int32) → mM X (d + 1) 163 107 [some ((.ref 86)), some (.int i1), some (.int (i2 + (1 : Int32))), o3] [] σ4 Q))) : mM X (d + 1) 163 107 [some ((.ref 86)), some (.int i1), some (.int i2), o3] [] σ Q := by
  intro hp R
  have F : mF hp hp := mF.rf
  refine mm_R.br (L' := [some ((.ref 86)), some (.int i1), some (.int i2), o3]) (st' := []) (t := 133) (u := 113) (b := mm_cc .ge i2 (6 : Int32)) 3 rfl (fun c => ?_) (fun c => ?_)
  · replace H := H.1 (of_decide_eq_true c)
    exact mm_R.pn (pc' := 135) (L' := [some ((.ref 86)), some (.int i1), some (.int (0 : Int32)), o3]) (st' := []) 2 rfl (H.use R F)
  · replace H := H.2 (of_decide_eq_false c)
    refine mm_R.wgv (pc' := 114) (L' := [some ((.ref 86)), some (.int i1), some (.int i2), o3]) (r := []) 1 rfl rfl (m_gv R rfl ?_)
    obtain ⟨hi1, H⟩ := H
    refine mm_R.wsi (pc' := 119) (L' := [some ((.ref 86)), some (.int i1), some (.int i2), o3]) (r := []) (t := 1000) (ty := .int) 2 rfl rfl rfl rfl (m_si (i := i2) (v := (0 : Int32)) R F (n := 6) (by decide) hi1 rfl (fun hp R F => ?_))
    obtain ⟨σ2, es⟩ : ∃ z, z = mPut σ 106 i2 (0 : Int32) := ⟨_, rfl⟩
    rw [← es] at R
    replace H := H σ2 es
    refine mm_R.wgv (pc' := 121) (L' := [some ((.ref 86)), some (.int i1), some (.int i2), o3]) (r := []) 1 rfl rfl (m_gv R rfl ?_)
    obtain ⟨hi3, H⟩ := H
    refine mm_R.wsi (pc' := 126) (L' := [some ((.ref 86)), some (.int i1), some (.int i2), o3]) (r := []) (t := 1000) (ty := .int) 2 rfl rfl rfl rfl (m_si (i := i2) (v := (0 : Int32)) R F (n := 6) (by decide) hi3 rfl (fun hp R F => ?_))
    obtain ⟨σ4, es⟩ : ∃ z, z = mPut σ2 107 i2 (0 : Int32) := ⟨_, rfl⟩
    rw [← es] at R
    replace H := H σ4 es
    exact mm_R.pn (pc' := 107) (L' := [some ((.ref 86)), some (.int i1), some (.int (i2 + (1 : Int32))), o3]) (st' := []) 2 rfl (H.use R F)
-- StepRunnerModel.start, from 135
set_option maxRecDepth 10000 in
theorem u163_135 {X : List Int32} {d : Nat} {i1 : Int32} {i2 : Int32} {o3 : Option Value} {σ : mS} {Q : Option Value → mS → Prop} (H : (((96 : Int32) ≤ i2 → mM X d 166 0 (mm_L0 166 [(.ref 86)]) [] σ (m0_K (fun σ1 => Q (some (.int (0 : Int32))) σ1))) ∧ (¬ (96 : Int32) ≤ i2 → (0 ≤ i2 ∧ Int32.toNatClampNeg i2 < 96) ∧ ∀ σ3, σ3 = mPut σ 108 i2 (0 : Int32) → mM X (d + 1) 163 135 [some ((.ref 86)), some (.int i1), some (.int (i2 + (1 : Int32))), o3] [] σ3 Q))) : mM X (d + 1) 163 135 [some ((.ref 86)), some (.int i1), some (.int i2), o3] [] σ Q := by
  intro hp R
  have F : mF hp hp := mF.rf
  refine mm_R.br (L' := [some ((.ref 86)), some (.int i1), some (.int i2), o3]) (st' := []) (t := 154) (u := 141) (b := mm_cc .ge i2 (96 : Int32)) 3 rfl (fun c => ?_) (fun c => ?_)
  · replace H := H.1 (of_decide_eq_true c)
    refine mm_R.cV (pc' := 155) (L' := [some ((.ref 86)), some (.int i1), some (.int i2), o3]) (st1 := [(.ref 86)]) (as := []) (rest := []) 1 rfl rfl (mw_sp rfl rfl (Nat.le_of_ble_eq_true rfl) (mw_ac rfl mw_an) mw_an) rfl rfl (m_rc R rfl) ((H _ R).mono (fun o hp1 H => ?_))
    obtain ⟨σ1, R, F1, rfl, H⟩ := H
    replace F := F.tr F1
    exact mm_R.rt (pc' := 159) (L' := [some ((.ref 86)), some (.int i1), some (.int i2), o3]) (st1 := [.int (0 : Int32)]) 1 rfl rfl rfl rfl rfl rfl ⟨_, R, F, H⟩
  · replace H := H.2 (of_decide_eq_false c)
    refine mm_R.wgv (pc' := 142) (L' := [some ((.ref 86)), some (.int i1), some (.int i2), o3]) (r := []) 1 rfl rfl (m_gv R rfl ?_)
    obtain ⟨hi2, H⟩ := H
    refine mm_R.wsi (pc' := 147) (L' := [some ((.ref 86)), some (.int i1), some (.int i2), o3]) (r := []) (t := 1000) (ty := .int) 2 rfl rfl rfl rfl (m_si (i := i2) (v := (0 : Int32)) R F (n := 96) (by decide) hi2 rfl (fun hp R F => ?_))
    obtain ⟨σ3, es⟩ : ∃ z, z = mPut σ 108 i2 (0 : Int32) := ⟨_, rfl⟩
    rw [← es] at R
    replace H := H σ3 es
    exact mm_R.pn (pc' := 135) (L' := [some ((.ref 86)), some (.int i1), some (.int (i2 + (1 : Int32))), o3]) (st' := []) 2 rfl (H.use R F)
-- StepRunnerModel.needs, from 0
set_option maxRecDepth 10000 in
theorem u164_0 {X : List Int32} {d : Nat} {i1 : Int32} {i2 : Int32} {σ : mS} {Q : Option Value → mS → Prop} (H : mM X (d + 1) 164 5 [some ((.ref 86)), some (.int i1), some (.int i2), some (.int (0 : Int32)), some (.int (0 : Int32)), none, none] [] σ Q) : mM X (d + 1) 164 0 (mm_L0 164 [(.ref 86), .int i1, .int i2]) [] σ Q := by
  intro hp R
  have F : mF hp hp := mF.rf
  show mm_R X (d + 1) 164 0 [some ((.ref 86)), some (.int i1), some (.int i2), none, none, none, none] [] hp (mQ hp Q)
  exact mm_R.pn (pc' := 5) (L' := [some ((.ref 86)), some (.int i1), some (.int i2), some (.int (0 : Int32)), some (.int (0 : Int32)), none, none]) (st' := []) 4 rfl (H.use R F)
-- StepRunnerModel.needs, from 5
set_option maxRecDepth 10000 in
theorem u164_5 {X : List Int32} {d : Nat} {i1 : Int32} {i2 : Int32} {i3 : Int32} {i4 : Int32} {o5 : Option Value} {o6 : Option Value} {σ : mS} {Q : Option Value → mS → Prop} (H : (0 ≤ i1 ∧ Int32.toNatClampNeg i1 < 6) ∧ (0 ≤ (mGet σ 96 i1) ∧ Int32.toNatClampNeg (mGet σ 96 i1) < 4) ∧ (((mGet σ 92 (mGet σ 96 i1)) ≤ i4 → (i3 = 0 ∨ i3 = 1) ∧ Q (some (.int i3)) σ) ∧ (¬ (mGet σ 92 (mGet σ 96 i1)) ≤ i4 → mM X (d + 1) 164 32 [some ((.ref 86)), some (.int i1), some (.int i2), some (.int i3), some (.int i4), some (.int (((4 : Int32) * i1) + i4)), some (.int (0 : Int32))] [] σ Q))) : mM X (d + 1) 164 5 [some ((.ref 86)), some (.int i1), some (.int i2), some (.int i3), some (.int i4), o5, o6] [] σ Q := by
  intro hp R
  have F : mF hp hp := mF.rf
  refine mm_R.wgv (pc' := 8) (L' := [some ((.ref 86)), some (.int i1), some (.int i2), some (.int i3), some (.int i4), o5, o6]) (r := [.int i4]) 2 rfl rfl (m_gv R rfl ?_)
  refine mm_R.wgv (pc' := 12) (L' := [some ((.ref 86)), some (.int i1), some (.int i2), some (.int i3), some (.int i4), o5, o6]) (r := [(.ref 92), .int i4]) 1 rfl rfl (m_gv R rfl ?_)
  obtain ⟨hi1, H⟩ := H
  refine mm_R.wai (pc' := 16) (L' := [some ((.ref 86)), some (.int i1), some (.int i2), some (.int i3), some (.int i4), o5, o6]) (r := [(.ref 92), .int i4]) (t := 1000) 1 rfl rfl rfl rfl (m_ai (i := i1) R (n := 6) (by decide) hi1 ?_)
  obtain ⟨hi2, H⟩ := H
  refine mm_R.wai (pc' := 17) (L' := [some ((.ref 86)), some (.int i1), some (.int i2), some (.int i3), some (.int i4), o5, o6]) (r := [.int i4]) (t := 1000) 0 rfl rfl rfl rfl (m_ai (i := (mGet σ 96 i1)) R (n := 4) (by decide) hi2 ?_)
  refine mm_R.br (L' := [some ((.ref 86)), some (.int i1), some (.int i2), some (.int i3), some (.int i4), o5, o6]) (st' := []) (t := 85) (u := 21) (b := mm_cc .ge i4 (mGet σ 92 (mGet σ 96 i1))) 1 rfl (fun c => ?_) (fun c => ?_)
  · replace H := H.1 (of_decide_eq_true c)
    exact mm_R.rt (pc' := 86) (L' := [some ((.ref 86)), some (.int i1), some (.int i2), some (.int i3), some (.int i4), o5, o6]) (st1 := [.int i3]) 1 rfl rfl rfl rfl rfl (mw_rvi (ty := .boolean) (m_fz H.1)) ⟨_, R, F, H.2⟩
  · replace H := H.2 (of_decide_eq_false c)
    exact mm_R.pn (pc' := 32) (L' := [some ((.ref 86)), some (.int i1), some (.int i2), some (.int i3), some (.int i4), some (.int (((4 : Int32) * i1) + i4)), some (.int (0 : Int32))]) (st' := []) 8 rfl (H.use R F)
-- StepRunnerModel.needs, from 32
set_option maxRecDepth 10000 in
theorem u164_32 {X : List Int32} {d : Nat} {i1 : Int32} {i2 : Int32} {i3 : Int32} {i4 : Int32} {i5 : Int32} {i6 : Int32} {σ : mS} {Q : Option Value → mS → Prop} (H : (0 ≤ i5 ∧ Int32.toNatClampNeg i5 < 24) ∧ (((mGet σ 99 i5) ≤ i6 → mM X (d + 1) 164 5 [some ((.ref 86)), some (.int i1), some (.int i2), some (.int i3), some (.int (i4 + (1 : Int32))), some (.int i5), some (.int i6)] [] σ Q) ∧ (¬ (mGet σ 99 i5) ≤ i6 → ((¬ i3 = (0 : Int32) → mM X (d + 1) 164 32 [some ((.ref 86)), some (.int i1), some (.int i2), some (.int (1 : Int32)), some (.int i4), some (.int i5), some (.int (i6 + (1 : Int32)))] [] σ Q) ∧ (i3 = (0 : Int32) → (0 ≤ (((3 : Int32) * i5) + i6) ∧ Int32.toNatClampNeg (((3 : Int32) * i5) + i6) < 72) ∧ ((¬ (mGet σ 100 (((3 : Int32) * i5) + i6)) = ((10 : Int32) + i2) → mM X (d + 1) 164 32 [some ((.ref 86)), some (.int i1), some (.int i2), some (.int (0 : Int32)), some (.int i4), some (.int i5), some (.int (i6 + (1 : Int32)))] [] σ Q) ∧ ((mGet σ 100 (((3 : Int32) * i5) + i6)) = ((10 : Int32) + i2) → mM X (d + 1) 164 32 [some ((.ref 86)), some (.int i1), some (.int i2), some (.int (1 : Int32)), some (.int i4), some (.int i5), some (.int (i6 + (1 : Int32)))] [] σ Q))))))) : mM X (d + 1) 164 32 [some ((.ref 86)), some (.int i1), some (.int i2), some (.int i3), some (.int i4), some (.int i5), some (.int i6)] [] σ Q := by
  intro hp R
  have F : mF hp hp := mF.rf
  refine mm_R.wgv (pc' := 35) (L' := [some ((.ref 86)), some (.int i1), some (.int i2), some (.int i3), some (.int i4), some (.int i5), some (.int i6)]) (r := [.int i6]) 2 rfl rfl (m_gv R rfl ?_)
  obtain ⟨hi1, H⟩ := H
  refine mm_R.wai (pc' := 40) (L' := [some ((.ref 86)), some (.int i1), some (.int i2), some (.int i3), some (.int i4), some (.int i5), some (.int i6)]) (r := [.int i6]) (t := 1000) 1 rfl rfl rfl rfl (m_ai (i := i5) R (n := 24) (by decide) hi1 ?_)
  refine mm_R.br (L' := [some ((.ref 86)), some (.int i1), some (.int i2), some (.int i3), some (.int i4), some (.int i5), some (.int i6)]) (st' := []) (t := 79) (u := 44) (b := mm_cc .ge i6 (mGet σ 99 i5)) 1 rfl (fun c => ?_) (fun c => ?_)
  · replace H := H.1 (of_decide_eq_true c)
    exact mm_R.pn (pc' := 5) (L' := [some ((.ref 86)), some (.int i1), some (.int i2), some (.int i3), some (.int (i4 + (1 : Int32))), some (.int i5), some (.int i6)]) (st' := []) 2 rfl (H.use R F)
  · replace H := H.2 (of_decide_eq_false c)
    refine mm_R.br (L' := [some ((.ref 86)), some (.int i1), some (.int i2), some (.int i3), some (.int i4), some (.int i5), some (.int i6)]) (st' := []) (t := 67) (u := 48) (b := mm_cc .ne i3 (0 : Int32)) 2 rfl (fun c => ?_) (fun c => ?_)
    · replace H := H.1 (of_decide_eq_true c)
      exact mm_R.pn (pc' := 32) (L' := [some ((.ref 86)), some (.int i1), some (.int i2), some (.int (1 : Int32)), some (.int i4), some (.int i5), some (.int (i6 + (1 : Int32)))]) (st' := []) 5 rfl (H.use R F)
    · replace H := H.2 (Decidable.of_not_not (of_decide_eq_false c))
      refine mm_R.wgv (pc' := 49) (L' := [some ((.ref 86)), some (.int i1), some (.int i2), some (.int i3), some (.int i4), some (.int i5), some (.int i6)]) (r := []) 1 rfl rfl (m_gv R rfl ?_)
      obtain ⟨hi2, H⟩ := H
      refine mm_R.wai (pc' := 59) (L' := [some ((.ref 86)), some (.int i1), some (.int i2), some (.int i3), some (.int i4), some (.int i5), some (.int i6)]) (r := []) (t := 1000) 5 rfl rfl rfl rfl (m_ai (i := (((3 : Int32) * i5) + i6)) R (n := 72) (by decide) hi2 ?_)
      refine mm_R.br (L' := [some ((.ref 86)), some (.int i1), some (.int i2), some (.int i3), some (.int i4), some (.int i5), some (.int i6)]) (st' := []) (t := 71) (u := 67) (b := mm_cc .ne (mGet σ 100 (((3 : Int32) * i5) + i6)) ((10 : Int32) + i2)) 4 rfl (fun c => ?_) (fun c => ?_)
      · replace H := H.1 (of_decide_eq_true c)
        exact mm_R.pn (pc' := 32) (L' := [some ((.ref 86)), some (.int i1), some (.int i2), some (.int (0 : Int32)), some (.int i4), some (.int i5), some (.int (i6 + (1 : Int32)))]) (st' := []) 4 rfl (H.use R F)
      · replace H := H.2 (Decidable.of_not_not (of_decide_eq_false c))
        exact mm_R.pn (pc' := 32) (L' := [some ((.ref 86)), some (.int i1), some (.int i2), some (.int (1 : Int32)), some (.int i4), some (.int i5), some (.int (i6 + (1 : Int32)))]) (st' := []) 5 rfl (H.use R F)
-- StepRunnerModel.isRound, from 0
set_option maxRecDepth 10000 in
theorem u165_0 {X : List Int32} {d : Nat}  {σ : mS} {Q : Option Value → mS → Prop} (H : mM X (d + 1) 165 4 [some ((.ref 86)), some (.int (0 : Int32)), some (.int (0 : Int32)), none, none, none] [] σ Q) : mM X (d + 1) 165 0 (mm_L0 165 [(.ref 86)]) [] σ Q := by
  intro hp R
  have F : mF hp hp := mF.rf
  show mm_R X (d + 1) 165 0 [some ((.ref 86)), none, none, none, none, none] [] hp (mQ hp Q)
  exact mm_R.pn (pc' := 4) (L' := [some ((.ref 86)), some (.int (0 : Int32)), some (.int (0 : Int32)), none, none, none]) (st' := []) 4 rfl (H.use R F)
-- StepRunnerModel.isRound, from 4
set_option maxRecDepth 10000 in
theorem u165_4 {X : List Int32} {d : Nat} {i1 : Int32} {i2 : Int32} {o3 : Option Value} {o4 : Option Value} {o5 : Option Value} {σ : mS} {Q : Option Value → mS → Prop} (H : (((6 : Int32) ≤ i2 → ((i1 = (((1 : Int32) <<< ((σ.1 12) &&& 31)) - (1 : Int32)) → Q (some (.int (0 : Int32))) σ) ∧ (¬ i1 = (((1 : Int32) <<< ((σ.1 12) &&& 31)) - (1 : Int32)) → Q (some (.int (1 : Int32))) σ))) ∧ (¬ (6 : Int32) ≤ i2 → mM X (d + 1) 165 12 [some ((.ref 86)), some (.int i1), some (.int i2), some (.int (0 : Int32)), o4, o5] [] σ Q))) : mM X (d + 1) 165 4 [some ((.ref 86)), some (.int i1), some (.int i2), o3, o4, o5] [] σ Q := by
  intro hp R
  have F : mF hp hp := mF.rf
  refine mm_R.br (L' := [some ((.ref 86)), some (.int i1), some (.int i2), o3, o4, o5]) (st' := []) (t := 100) (u := 10) (b := mm_cc .ge i2 (6 : Int32)) 3 rfl (fun c => ?_) (fun c => ?_)
  · replace H := H.1 (of_decide_eq_true c)
    refine mm_R.wgi (pc' := 103) (L' := [some ((.ref 86)), some (.int i1), some (.int i2), o3, o4, o5]) (r := [.int (1 : Int32), .int i1]) 3 rfl rfl (m_gi R rfl ?_)
    refine mm_R.br (L' := [some ((.ref 86)), some (.int i1), some (.int i2), o3, o4, o5]) (st' := []) (t := 116) (u := 112) (b := mm_cc .eq i1 (((1 : Int32) <<< ((σ.1 12) &&& 31)) - (1 : Int32))) 4 rfl (fun c => ?_) (fun c => ?_)
    · replace H := H.1 (of_decide_eq_true c)
      exact mm_R.rt (pc' := 117) (L' := [some ((.ref 86)), some (.int i1), some (.int i2), o3, o4, o5]) (st1 := [.int (0 : Int32)]) 1 rfl rfl rfl rfl rfl rfl ⟨_, R, F, H⟩
    · replace H := H.2 (of_decide_eq_false c)
      exact mm_R.rt (pc' := 117) (L' := [some ((.ref 86)), some (.int i1), some (.int i2), o3, o4, o5]) (st1 := [.int (1 : Int32)]) 2 rfl rfl rfl rfl rfl rfl ⟨_, R, F, H⟩
  · replace H := H.2 (of_decide_eq_false c)
    exact mm_R.pn (pc' := 12) (L' := [some ((.ref 86)), some (.int i1), some (.int i2), some (.int (0 : Int32)), o4, o5]) (st' := []) 2 rfl (H.use R F)
-- StepRunnerModel.isRound, from 12
set_option maxRecDepth 10000 in
theorem u165_12 {X : List Int32} {d : Nat} {i1 : Int32} {i2 : Int32} {i3 : Int32} {o4 : Option Value} {o5 : Option Value} {σ : mS} {Q : Option Value → mS → Prop} (H : (((σ.1 12) ≤ i3 → mM X (d + 1) 165 4 [some ((.ref 86)), some (.int i1), some (.int (i2 + (1 : Int32))), some (.int i3), o4, o5] [] σ Q) ∧ (¬ (σ.1 12) ≤ i3 → mM X (d + 1) 165 26 [some ((.ref 86)), some (.int i1), some (.int i2), some (.int i3), some (.int (1 : Int32)), some (.int (0 : Int32))] [] σ Q))) : mM X (d + 1) 165 12 [some ((.ref 86)), some (.int i1), some (.int i2), some (.int i3), o4, o5] [] σ Q := by
  intro hp R
  have F : mF hp hp := mF.rf
  refine mm_R.wgi (pc' := 14) (L' := [some ((.ref 86)), some (.int i1), some (.int i2), some (.int i3), o4, o5]) (r := [.int i3]) 2 rfl rfl (m_gi R rfl ?_)
  refine mm_R.br (L' := [some ((.ref 86)), some (.int i1), some (.int i2), some (.int i3), o4, o5]) (st' := []) (t := 94) (u := 20) (b := mm_cc .ge i3 (σ.1 12)) 1 rfl (fun c => ?_) (fun c => ?_)
  · replace H := H.1 (of_decide_eq_true c)
    exact mm_R.pn (pc' := 4) (L' := [some ((.ref 86)), some (.int i1), some (.int (i2 + (1 : Int32))), some (.int i3), o4, o5]) (st' := []) 2 rfl (H.use R F)
  · replace H := H.2 (of_decide_eq_false c)
    exact mm_R.pn (pc' := 26) (L' := [some ((.ref 86)), some (.int i1), some (.int i2), some (.int i3), some (.int (1 : Int32)), some (.int (0 : Int32))]) (st' := []) 4 rfl (H.use R F)
-- StepRunnerModel.isRound, from 26
set_option maxRecDepth 10000 in
theorem u165_26 {X : List Int32} {d : Nat} {i1 : Int32} {i2 : Int32} {i3 : Int32} {i4 : Int32} {i5 : Int32} {σ : mS} {Q : Option Value → mS → Prop} (H : (((σ.1 12) ≤ i5 → ((i4 = (0 : Int32) → mM X (d + 1) 165 12 [some ((.ref 86)), some (.int i1), some (.int i2), some (.int (i3 + (1 : Int32))), some (.int i4), some (.int i5)] [] σ Q) ∧ (¬ i4 = (0 : Int32) → mM X (d + 1) 165 12 [some ((.ref 86)), some (.int (i1 ||| ((1 : Int32) <<< (i3 &&& 31)))), some (.int i2), some (.int (i3 + (1 : Int32))), some (.int i4), some (.int i5)] [] σ Q))) ∧ (¬ (σ.1 12) ≤ i5 → ((i4 = (0 : Int32) → mM X (d + 1) 165 26 [some ((.ref 86)), some (.int i1), some (.int i2), some (.int i3), some (.int (0 : Int32)), some (.int (i5 + (1 : Int32)))] [] σ Q) ∧ (¬ i4 = (0 : Int32) → mM X d 164 0 (mm_L0 164 [(.ref 86), .int i3, .int i5]) [] σ (mi_K (fun x2 σ1 => ((x2 = (0 : Int32) → mM X (d + 1) 165 26 [some ((.ref 86)), some (.int i1), some (.int i2), some (.int i3), some (.int (1 : Int32)), some (.int (i5 + (1 : Int32)))] [] σ1 Q) ∧ (¬ x2 = (0 : Int32) → ((¬ ((i1 >>> (i5 &&& 31)) &&& (1 : Int32)) = (1 : Int32) → mM X (d + 1) 165 26 [some ((.ref 86)), some (.int i1), some (.int i2), some (.int i3), some (.int (0 : Int32)), some (.int (i5 + (1 : Int32)))] [] σ1 Q) ∧ (((i1 >>> (i5 &&& 31)) &&& (1 : Int32)) = (1 : Int32) → mM X (d + 1) 165 26 [some ((.ref 86)), some (.int i1), some (.int i2), some (.int i3), some (.int (1 : Int32)), some (.int (i5 + (1 : Int32)))] [] σ1 Q))))))))))) : mM X (d + 1) 165 26 [some ((.ref 86)), some (.int i1), some (.int i2), some (.int i3), some (.int i4), some (.int i5)] [] σ Q := by
  intro hp R
  have F : mF hp hp := mF.rf
  refine mm_R.wgi (pc' := 29) (L' := [some ((.ref 86)), some (.int i1), some (.int i2), some (.int i3), some (.int i4), some (.int i5)]) (r := [.int i5]) 2 rfl rfl (m_gi R rfl ?_)
  refine mm_R.br (L' := [some ((.ref 86)), some (.int i1), some (.int i2), some (.int i3), some (.int i4), some (.int i5)]) (st' := []) (t := 73) (u := 35) (b := mm_cc .ge i5 (σ.1 12)) 1 rfl (fun c => ?_) (fun c => ?_)
  · replace H := H.1 (of_decide_eq_true c)
    refine mm_R.br (L' := [some ((.ref 86)), some (.int i1), some (.int i2), some (.int i3), some (.int i4), some (.int i5)]) (st' := []) (t := 86) (u := 78) (b := mm_cc .eq i4 (0 : Int32)) 2 rfl (fun c => ?_) (fun c => ?_)
    · replace H := H.1 (of_decide_eq_true c)
      exact mm_R.pn (pc' := 12) (L' := [some ((.ref 86)), some (.int i1), some (.int i2), some (.int (i3 + (1 : Int32))), some (.int i4), some (.int i5)]) (st' := []) 4 rfl (H.use R F)
    · replace H := H.2 (of_decide_eq_false c)
      exact mm_R.pn (pc' := 12) (L' := [some ((.ref 86)), some (.int (i1 ||| ((1 : Int32) <<< (i3 &&& 31)))), some (.int i2), some (.int (i3 + (1 : Int32))), some (.int i4), some (.int i5)]) (st' := []) 9 rfl (H.use R F)
  · replace H := H.2 (of_decide_eq_false c)
    refine mm_R.br (L' := [some ((.ref 86)), some (.int i1), some (.int i2), some (.int i3), some (.int i4), some (.int i5)]) (st' := []) (t := 64) (u := 40) (b := mm_cc .eq i4 (0 : Int32)) 2 rfl (fun c => ?_) (fun c => ?_)
    · replace H := H.1 (of_decide_eq_true c)
      exact mm_R.pn (pc' := 26) (L' := [some ((.ref 86)), some (.int i1), some (.int i2), some (.int i3), some (.int (0 : Int32)), some (.int (i5 + (1 : Int32)))]) (st' := []) 4 rfl (H.use R F)
    · replace H := H.2 (of_decide_eq_false c)
      refine mm_R.cV (pc' := 44) (L' := [some ((.ref 86)), some (.int i1), some (.int i2), some (.int i3), some (.int i4), some (.int i5)]) (st1 := [.int i5, .int i3, (.ref 86)]) (as := [.int i3, .int i5]) (rest := []) 3 rfl rfl (mw_sp rfl rfl (Nat.le_of_ble_eq_true rfl) (mw_ac rfl (mw_ac rfl (mw_ac rfl mw_an))) mw_an) rfl rfl (m_rc R rfl) ((H _ R).mono (fun o hp1 H => ?_))
      obtain ⟨σ1, R, F1, x2, rfl, H⟩ := H
      replace F := F.tr F1
      refine mm_R.br (L' := [some ((.ref 86)), some (.int i1), some (.int i2), some (.int i3), some (.int i4), some (.int i5)]) (st' := []) (t := 60) (u := 50) (b := mm_cc .eq x2 (0 : Int32)) 1 rfl (fun c => ?_) (fun c => ?_)
      · replace H := H.1 (of_decide_eq_true c)
        exact mm_R.pn (pc' := 26) (L' := [some ((.ref 86)), some (.int i1), some (.int i2), some (.int i3), some (.int (1 : Int32)), some (.int (i5 + (1 : Int32)))]) (st' := []) 5 rfl (H.use R F)
      · replace H := H.2 (of_decide_eq_false c)
        refine mm_R.br (L' := [some ((.ref 86)), some (.int i1), some (.int i2), some (.int i3), some (.int i4), some (.int i5)]) (st' := []) (t := 64) (u := 60) (b := mm_cc .ne ((i1 >>> (i5 &&& 31)) &&& (1 : Int32)) (1 : Int32)) 7 rfl (fun c => ?_) (fun c => ?_)
        · replace H := H.1 (of_decide_eq_true c)
          exact mm_R.pn (pc' := 26) (L' := [some ((.ref 86)), some (.int i1), some (.int i2), some (.int i3), some (.int (0 : Int32)), some (.int (i5 + (1 : Int32)))]) (st' := []) 4 rfl (H.use R F)
        · replace H := H.2 (Decidable.of_not_not (of_decide_eq_false c))
          exact mm_R.pn (pc' := 26) (L' := [some ((.ref 86)), some (.int i1), some (.int i2), some (.int i3), some (.int (1 : Int32)), some (.int (i5 + (1 : Int32)))]) (st' := []) 5 rfl (H.use R F)
-- StepRunnerModel.goOn, from 0
set_option maxRecDepth 10000 in
theorem u166_0 {X : List Int32} {d : Nat}  {σ : mS} {Q : Option Value → mS → Prop} (H : (((σ.1 28) = (0 : Int32) → mM X d 167 0 (mm_L0 167 [(.ref 86)]) [] σ (mi_K (fun x2 σ1 => mM X (d + 1) 166 16 [some ((.ref 86)), some (.int x2), none] [] σ1 Q))) ∧ (¬ (σ.1 28) = (0 : Int32) → mM X (d + 1) 166 16 [some ((.ref 86)), some (.int (-1 : Int32)), none] [] σ Q))) : mM X (d + 1) 166 0 (mm_L0 166 [(.ref 86)]) [] σ Q := by
  intro hp R
  have F : mF hp hp := mF.rf
  show mm_R X (d + 1) 166 0 [some ((.ref 86)), none, none] [] hp (mQ hp Q)
  refine mm_R.wgi (pc' := 1) (L' := [some ((.ref 86)), none, none]) (r := []) 1 rfl rfl (m_gi R rfl ?_)
  refine mm_R.br (L' := [some ((.ref 86)), none, none]) (st' := []) (t := 11) (u := 7) (b := mm_cc .eq (σ.1 28) (0 : Int32)) 1 rfl (fun c => ?_) (fun c => ?_)
  · replace H := H.1 (of_decide_eq_true c)
    refine mm_R.cV (pc' := 12) (L' := [some ((.ref 86)), none, none]) (st1 := [(.ref 86)]) (as := []) (rest := []) 1 rfl rfl (mw_sp rfl rfl (Nat.le_of_ble_eq_true rfl) (mw_ac rfl mw_an) mw_an) rfl rfl (m_rc R rfl) ((H _ R).mono (fun o hp1 H => ?_))
    obtain ⟨σ1, R, F1, x2, rfl, H⟩ := H
    replace F := F.tr F1
    exact mm_R.pn (pc' := 16) (L' := [some ((.ref 86)), some (.int x2), none]) (st' := []) 1 rfl (H.use R F)
  · replace H := H.2 (of_decide_eq_false c)
    exact mm_R.pn (pc' := 16) (L' := [some ((.ref 86)), some (.int (-1 : Int32)), none]) (st' := []) 3 rfl (H.use R F)
-- StepRunnerModel.goOn, from 16
set_option maxRecDepth 10000 in
theorem u166_16 {X : List Int32} {d : Nat} {i1 : Int32} {o2 : Option Value} {σ : mS} {Q : Option Value → mS → Prop} (H : ((i1 < (0 : Int32) → mM X (d + 1) 166 46 [some ((.ref 86)), some (.int i1), some (.int (0 : Int32))] [] σ Q) ∧ (¬ i1 < (0 : Int32) → mM X d 168 0 (mm_L0 168 [(.ref 86), .int i1]) [] σ (m0_K (fun σ1 => (((σ1.1 28) = (0 : Int32) → mM X d 167 0 (mm_L0 167 [(.ref 86)]) [] σ1 (mi_K (fun x3 σ2 => mM X (d + 1) 166 16 [some ((.ref 86)), some (.int x3), o2] [] σ2 Q))) ∧ (¬ (σ1.1 28) = (0 : Int32) → mM X (d + 1) 166 16 [some ((.ref 86)), some (.int (-1 : Int32)), o2] [] σ1 Q))))))) : mM X (d + 1) 166 16 [some ((.ref 86)), some (.int i1), o2] [] σ Q := by
  intro hp R
  have F : mF hp hp := mF.rf
  refine mm_R.br (L' := [some ((.ref 86)), some (.int i1), o2]) (st' := []) (t := 44) (u := 20) (b := mm_cc .lt i1 (0 : Int32)) 2 rfl (fun c => ?_) (fun c => ?_)
  · replace H := H.1 (of_decide_eq_true c)
    exact mm_R.pn (pc' := 46) (L' := [some ((.ref 86)), some (.int i1), some (.int (0 : Int32))]) (st' := []) 2 rfl (H.use R F)
  · replace H := H.2 (of_decide_eq_false c)
    refine mm_R.cV (pc' := 22) (L' := [some ((.ref 86)), some (.int i1), o2]) (st1 := [.int i1, (.ref 86)]) (as := [.int i1]) (rest := []) 2 rfl rfl (mw_sp rfl rfl (Nat.le_of_ble_eq_true rfl) (mw_ac rfl (mw_ac rfl mw_an)) mw_an) rfl rfl (m_rc R rfl) ((H _ R).mono (fun o hp1 H => ?_))
    obtain ⟨σ1, R, F1, rfl, H⟩ := H
    replace F := F.tr F1
    refine mm_R.wgi (pc' := 26) (L' := [some ((.ref 86)), some (.int i1), o2]) (r := []) 1 rfl rfl (m_gi R rfl ?_)
    refine mm_R.br (L' := [some ((.ref 86)), some (.int i1), o2]) (st' := []) (t := 36) (u := 32) (b := mm_cc .eq (σ1.1 28) (0 : Int32)) 1 rfl (fun c => ?_) (fun c => ?_)
    · replace H := H.1 (of_decide_eq_true c)
      refine mm_R.cV (pc' := 37) (L' := [some ((.ref 86)), some (.int i1), o2]) (st1 := [(.ref 86)]) (as := []) (rest := []) 1 rfl rfl (mw_sp rfl rfl (Nat.le_of_ble_eq_true rfl) (mw_ac rfl mw_an) mw_an) rfl rfl (m_rc R rfl) ((H _ R).mono (fun o hp1 H => ?_))
      obtain ⟨σ2, R, F1, x3, rfl, H⟩ := H
      replace F := F.tr F1
      exact mm_R.pn (pc' := 16) (L' := [some ((.ref 86)), some (.int x3), o2]) (st' := []) 2 rfl (H.use R F)
    · replace H := H.2 (of_decide_eq_false c)
      exact mm_R.pn (pc' := 16) (L' := [some ((.ref 86)), some (.int (-1 : Int32)), o2]) (st' := []) 4 rfl (H.use R F)
-- StepRunnerModel.goOn, from 46
set_option maxRecDepth 10000 in
theorem u166_46 {X : List Int32} {d : Nat} {i1 : Int32} {i2 : Int32} {σ : mS} {Q : Option Value → mS → Prop} (H : (((96 : Int32) ≤ i2 → mM X (d + 1) 166 123 [some ((.ref 86)), some (.int i1), some (.int i2)] [] σ Q) ∧ (¬ (96 : Int32) ≤ i2 → ((¬ (σ.1 28) = (0 : Int32) → mM X (d + 1) 166 123 [some ((.ref 86)), some (.int i1), some (.int i2)] [] σ Q) ∧ ((σ.1 28) = (0 : Int32) → (0 ≤ i2 ∧ Int32.toNatClampNeg i2 < 96) ∧ ((¬ (mGet σ 108 i2) = (1 : Int32) → mM X (d + 1) 166 46 [some ((.ref 86)), some (.int i1), some (.int (i2 + (1 : Int32)))] [] σ Q) ∧ ((mGet σ 108 i2) = (1 : Int32) → (((σ.1 24) ≤ (σ.1 27) → mM X (d + 1) 166 46 [some ((.ref 86)), some (.int i1), some (.int (i2 + (1 : Int32)))] [] σ Q) ∧ (¬ (σ.1 24) ≤ (σ.1 27) → (0 ≤ i2 ∧ Int32.toNatClampNeg i2 < 96) ∧ ∀ σ3, σ3 = mPut σ 108 i2 (2 : Int32) → (0 ≤ (σ3.1 27) ∧ Int32.toNatClampNeg (σ3.1 27) < 3) ∧ ∀ σ5, σ5 = mPut σ3 111 (σ3.1 27) i2 → ∀ σ6, σ6 = mSet σ5 27 ((σ5.1 27) + (1 : Int32)) → ∀ σ7, σ7 = mSet σ6 26 ((σ6.1 26) + (1 : Int32)) → mM X (d + 1) 166 46 [some ((.ref 86)), some (.int i1), some (.int (i2 + (1 : Int32)))] [] σ7 Q))))))))) : mM X (d + 1) 166 46 [some ((.ref 86)), some (.int i1), some (.int i2)] [] σ Q := by
  intro hp R
  have F : mF hp hp := mF.rf
  refine mm_R.br (L' := [some ((.ref 86)), some (.int i1), some (.int i2)]) (st' := []) (t := 123) (u := 52) (b := mm_cc .ge i2 (96 : Int32)) 3 rfl (fun c => ?_) (fun c => ?_)
  · replace H := H.1 (of_decide_eq_true c)
    exact H.use R F
  · replace H := H.2 (of_decide_eq_false c)
    refine mm_R.wgi (pc' := 53) (L' := [some ((.ref 86)), some (.int i1), some (.int i2)]) (r := []) 1 rfl rfl (m_gi R rfl ?_)
    refine mm_R.br (L' := [some ((.ref 86)), some (.int i1), some (.int i2)]) (st' := []) (t := 123) (u := 59) (b := mm_cc .ne (σ.1 28) (0 : Int32)) 1 rfl (fun c => ?_) (fun c => ?_)
    · replace H := H.1 (of_decide_eq_true c)
      exact H.use R F
    · replace H := H.2 (Decidable.of_not_not (of_decide_eq_false c))
      refine mm_R.wgv (pc' := 60) (L' := [some ((.ref 86)), some (.int i1), some (.int i2)]) (r := []) 1 rfl rfl (m_gv R rfl ?_)
      obtain ⟨hi1, H⟩ := H
      refine mm_R.wai (pc' := 64) (L' := [some ((.ref 86)), some (.int i1), some (.int i2)]) (r := []) (t := 1000) 1 rfl rfl rfl rfl (m_ai (i := i2) R (n := 96) (by decide) hi1 ?_)
      refine mm_R.br (L' := [some ((.ref 86)), some (.int i1), some (.int i2)]) (st' := []) (t := 117) (u := 69) (b := mm_cc .ne (mGet σ 108 i2) (1 : Int32)) 2 rfl (fun c => ?_) (fun c => ?_)
      · replace H := H.1 (of_decide_eq_true c)
        exact mm_R.pn (pc' := 46) (L' := [some ((.ref 86)), some (.int i1), some (.int (i2 + (1 : Int32)))]) (st' := []) 2 rfl (H.use R F)
      · replace H := H.2 (Decidable.of_not_not (of_decide_eq_false c))
        refine mm_R.wgi (pc' := 70) (L' := [some ((.ref 86)), some (.int i1), some (.int i2)]) (r := []) 1 rfl rfl (m_gi R rfl ?_)
        refine mm_R.wgi (pc' := 74) (L' := [some ((.ref 86)), some (.int i1), some (.int i2)]) (r := [.int (σ.1 27)]) 1 rfl rfl (m_gi R rfl ?_)
        refine mm_R.br (L' := [some ((.ref 86)), some (.int i1), some (.int i2)]) (st' := []) (t := 117) (u := 80) (b := mm_cc .ge (σ.1 27) (σ.1 24)) 1 rfl (fun c => ?_) (fun c => ?_)
        · replace H := H.1 (of_decide_eq_true c)
          exact mm_R.pn (pc' := 46) (L' := [some ((.ref 86)), some (.int i1), some (.int (i2 + (1 : Int32)))]) (st' := []) 2 rfl (H.use R F)
        · replace H := H.2 (of_decide_eq_false c)
          refine mm_R.wgv (pc' := 81) (L' := [some ((.ref 86)), some (.int i1), some (.int i2)]) (r := []) 1 rfl rfl (m_gv R rfl ?_)
          obtain ⟨hi2, H⟩ := H
          refine mm_R.wsi (pc' := 86) (L' := [some ((.ref 86)), some (.int i1), some (.int i2)]) (r := []) (t := 1000) (ty := .int) 2 rfl rfl rfl rfl (m_si (i := i2) (v := (2 : Int32)) R F (n := 96) (by decide) hi2 rfl (fun hp R F => ?_))
          obtain ⟨σ3, es⟩ : ∃ z, z = mPut σ 108 i2 (2 : Int32) := ⟨_, rfl⟩
          rw [← es] at R
          replace H := H σ3 es
          refine mm_R.wgv (pc' := 88) (L' := [some ((.ref 86)), some (.int i1), some (.int i2)]) (r := []) 1 rfl rfl (m_gv R rfl ?_)
          refine mm_R.wgi (pc' := 92) (L' := [some ((.ref 86)), some (.int i1), some (.int i2)]) (r := [(.ref 111)]) 1 rfl rfl (m_gi R rfl ?_)
          obtain ⟨hi4, H⟩ := H
          refine mm_R.wsi (pc' := 96) (L' := [some ((.ref 86)), some (.int i1), some (.int i2)]) (r := []) (t := 1000) (ty := .int) 1 rfl rfl rfl rfl (m_si (i := (σ3.1 27)) (v := i2) R F (n := 3) (by decide) hi4 rfl (fun hp R F => ?_))
          obtain ⟨σ5, es⟩ : ∃ z, z = mPut σ3 111 (σ3.1 27) i2 := ⟨_, rfl⟩
          rw [← es] at R
          replace H := H σ5 es
          refine mm_R.wgi (pc' := 99) (L' := [some ((.ref 86)), some (.int i1), some (.int i2)]) (r := [(.ref 86)]) 2 rfl rfl (m_gi R rfl ?_)
          refine mm_R.wpt (pc' := 104) (L' := [some ((.ref 86)), some (.int i1), some (.int i2)]) (r := []) 2 rfl rfl (m_pt (v := ((σ5.1 27) + (1 : Int32))) R F rfl rfl rfl (fun hp R F => ?_))
          obtain ⟨σ6, es⟩ : ∃ z, z = mSet σ5 27 ((σ5.1 27) + (1 : Int32)) := ⟨_, rfl⟩
          rw [← es] at R
          replace H := H σ6 es
          refine mm_R.wgi (pc' := 109) (L' := [some ((.ref 86)), some (.int i1), some (.int i2)]) (r := [(.ref 86)]) 2 rfl rfl (m_gi R rfl ?_)
          refine mm_R.wpt (pc' := 114) (L' := [some ((.ref 86)), some (.int i1), some (.int i2)]) (r := []) 2 rfl rfl (m_pt (v := ((σ6.1 26) + (1 : Int32))) R F rfl rfl rfl (fun hp R F => ?_))
          obtain ⟨σ7, es⟩ : ∃ z, z = mSet σ6 26 ((σ6.1 26) + (1 : Int32)) := ⟨_, rfl⟩
          rw [← es] at R
          replace H := H σ7 es
          exact mm_R.pn (pc' := 46) (L' := [some ((.ref 86)), some (.int i1), some (.int (i2 + (1 : Int32)))]) (st' := []) 2 rfl (H.use R F)
-- StepRunnerModel.goOn, from 123
set_option maxRecDepth 10000 in
theorem u166_123 {X : List Int32} {d : Nat} {i1 : Int32} {i2 : Int32} {σ : mS} {Q : Option Value → mS → Prop} (H : ((¬ (σ.1 27) = (0 : Int32) → Q none σ) ∧ ((σ.1 27) = (0 : Int32) → (((σ.1 28) = (0 : Int32) → ∀ σ1, σ1 = mSet σ 23 (2 : Int32) → Q none σ1) ∧ (¬ (σ.1 28) = (0 : Int32) → ∀ σ2, σ2 = mSet σ 23 (3 : Int32) → Q none σ2))))) : mM X (d + 1) 166 123 [some ((.ref 86)), some (.int i1), some (.int i2)] [] σ Q := by
  intro hp R
  have F : mF hp hp := mF.rf
  refine mm_R.wgi (pc' := 124) (L' := [some ((.ref 86)), some (.int i1), some (.int i2)]) (r := []) 1 rfl rfl (m_gi R rfl ?_)
  refine mm_R.br (L' := [some ((.ref 86)), some (.int i1), some (.int i2)]) (st' := []) (t := 146) (u := 130) (b := mm_cc .ne (σ.1 27) (0 : Int32)) 1 rfl (fun c => ?_) (fun c => ?_)
  · replace H := H.1 (of_decide_eq_true c)
    exact mm_R.rt (pc' := 146) (L' := [some ((.ref 86)), some (.int i1), some (.int i2)]) (st1 := []) 0 rfl rfl rfl rfl rfl rfl ⟨_, R, F, H⟩
  · replace H := H.2 (Decidable.of_not_not (of_decide_eq_false c))
    refine mm_R.wgi (pc' := 132) (L' := [some ((.ref 86)), some (.int i1), some (.int i2)]) (r := [(.ref 86)]) 2 rfl rfl (m_gi R rfl ?_)
    refine mm_R.br (L' := [some ((.ref 86)), some (.int i1), some (.int i2)]) (st' := [(.ref 86)]) (t := 142) (u := 138) (b := mm_cc .eq (σ.1 28) (0 : Int32)) 1 rfl (fun c => ?_) (fun c => ?_)
    · replace H := H.1 (of_decide_eq_true c)
      refine mm_R.wpt (pc' := 143) (L' := [some ((.ref 86)), some (.int i1), some (.int i2)]) (r := []) 1 rfl rfl (m_pt (v := (2 : Int32)) R F rfl rfl rfl (fun hp R F => ?_))
      obtain ⟨σ1, es⟩ : ∃ z, z = mSet σ 23 (2 : Int32) := ⟨_, rfl⟩
      rw [← es] at R
      replace H := H σ1 es
      exact mm_R.rt (pc' := 146) (L' := [some ((.ref 86)), some (.int i1), some (.int i2)]) (st1 := []) 0 rfl rfl rfl rfl rfl rfl ⟨_, R, F, H⟩
    · replace H := H.2 (of_decide_eq_false c)
      refine mm_R.wpt (pc' := 143) (L' := [some ((.ref 86)), some (.int i1), some (.int i2)]) (r := []) 2 rfl rfl (m_pt (v := (3 : Int32)) R F rfl rfl rfl (fun hp R F => ?_))
      obtain ⟨σ2, es⟩ : ∃ z, z = mSet σ 23 (3 : Int32) := ⟨_, rfl⟩
      rw [← es] at R
      replace H := H σ2 es
      exact mm_R.rt (pc' := 146) (L' := [some ((.ref 86)), some (.int i1), some (.int i2)]) (st1 := []) 0 rfl rfl rfl rfl rfl rfl ⟨_, R, F, H⟩
