-- StepRunnerModel.picked, from 0
set_option maxRecDepth 10000 in
theorem u172_0 {X : List Int32} {d : Nat} {i1 : Int32} {i2 : Int32} {σ : mS} {Q : Option Value → mS → Prop} (H : mM X d 123 0 (mm_L0 123 [.int i2]) [] σ (mi_K (fun x2 σ1 => mM X d 144 0 (mm_L0 144 [(.ref 86), .int x2]) [] σ1 (mi_K (fun x4 σ3 => ((x4 = (3 : Int32) → mM X d 149 0 (mm_L0 149 [(.ref 86), .int i2, .int (141 : Int32)]) [] σ3 (m0_K (fun σ5 => mM X d 121 0 (mm_L0 121 [(.ref 86), .int i2]) [] σ5 (m0_K (fun σ6 => ((¬ i1 = (3 : Int32) → mM X d 123 0 (mm_L0 123 [.int (141 : Int32)]) [] σ6 (mi_K (fun x8 σ7 => mM X (d + 1) 172 52 [some ((.ref 86)), some (.int i1), some (.int i2), some (.int (0 : Int32)), some (.int (x8 + (1 : Int32)))] [] σ7 Q))) ∧ (i1 = (3 : Int32) → mM X d 122 0 (mm_L0 122 [(.ref 86), .int i2, .int (3 : Int32), .int (0 : Int32), .int (0 : Int32)]) [] σ6 (m0_K (fun σ9 => mM X d 123 0 (mm_L0 123 [.int (141 : Int32)]) [] σ9 (mi_K (fun x11 σ10 => mM X (d + 1) 172 52 [some ((.ref 86)), some (.int i1), some (.int i2), some (.int (0 : Int32)), some (.int (x11 + (1 : Int32)))] [] σ10 Q))))))))))) ∧ (¬ x4 = (3 : Int32) → Q (some (.int (0 : Int32))) σ3))))))) : mM X (d + 1) 172 0 (mm_L0 172 [(.ref 86), .int i1, .int i2]) [] σ Q := by
  intro hp R
  have F : mF hp hp := mF.rf
  show mm_R X (d + 1) 172 0 [some ((.ref 86)), some (.int i1), some (.int i2), none, none] [] hp (mQ hp Q)
  refine mm_R.cS (pc' := 2) (L' := [some ((.ref 86)), some (.int i1), some (.int i2), none, none]) (st1 := [.int i2, (.ref 86)]) (as := [.int i2]) (rest := [(.ref 86)]) 2 rfl rfl (mw_sp rfl rfl (Nat.le_of_ble_eq_true rfl) (mw_ac rfl mw_an) (mw_ac rfl mw_an)) rfl rfl ((H _ R).mono (fun o hp1 H => ?_))
  obtain ⟨σ1, R, F1, x2, rfl, H⟩ := H
  replace F := F.tr F1
  refine mm_R.cV (pc' := 5) (L' := [some ((.ref 86)), some (.int i1), some (.int i2), none, none]) (st1 := [.int x2, (.ref 86)]) (as := [.int x2]) (rest := []) 0 rfl rfl (mw_sp rfl rfl (Nat.le_of_ble_eq_true rfl) (mw_ac rfl (mw_ac rfl mw_an)) mw_an) rfl rfl (m_rc R rfl) ((H _ R).mono (fun o hp1 H => ?_))
  obtain ⟨σ3, R, F1, x4, rfl, H⟩ := H
  replace F := F.tr F1
  refine mm_R.br (L' := [some ((.ref 86)), some (.int i1), some (.int i2), none, none]) (st' := []) (t := 14) (u := 12) (b := mm_cc .eq x4 (3 : Int32)) 2 rfl (fun c => ?_) (fun c => ?_)
  · replace H := H.1 (of_decide_eq_true c)
    refine mm_R.cV (pc' := 19) (L' := [some ((.ref 86)), some (.int i1), some (.int i2), none, none]) (st1 := [.int (141 : Int32), .int i2, (.ref 86)]) (as := [.int i2, .int (141 : Int32)]) (rest := []) 3 rfl rfl (mw_sp rfl rfl (Nat.le_of_ble_eq_true rfl) (mw_ac rfl (mw_ac rfl (mw_ac rfl mw_an))) mw_an) rfl rfl (m_rc R rfl) ((H _ R).mono (fun o hp1 H => ?_))
    obtain ⟨σ5, R, F1, rfl, H⟩ := H
    replace F := F.tr F1
    refine mm_R.cV (pc' := 24) (L' := [some ((.ref 86)), some (.int i1), some (.int i2), none, none]) (st1 := [.int i2, (.ref 86)]) (as := [.int i2]) (rest := []) 2 rfl rfl (mw_sp rfl rfl (Nat.le_of_ble_eq_true rfl) (mw_ac rfl (mw_ac rfl mw_an)) mw_an) rfl rfl (m_rc R rfl) ((H _ R).mono (fun o hp1 H => ?_))
    obtain ⟨σ6, R, F1, rfl, H⟩ := H
    replace F := F.tr F1
    refine mm_R.br (L' := [some ((.ref 86)), some (.int i1), some (.int i2), none, none]) (st' := []) (t := 40) (u := 32) (b := mm_cc .ne i1 (3 : Int32)) 3 rfl (fun c => ?_) (fun c => ?_)
    · replace H := H.1 (of_decide_eq_true c)
      refine mm_R.cS (pc' := 45) (L' := [some ((.ref 86)), some (.int i1), some (.int i2), some (.int (0 : Int32)), none]) (st1 := [.int (141 : Int32)]) (as := [.int (141 : Int32)]) (rest := []) 3 rfl rfl (mw_sp rfl rfl (Nat.le_of_ble_eq_true rfl) (mw_ac rfl mw_an) mw_an) rfl rfl ((H _ R).mono (fun o hp1 H => ?_))
      obtain ⟨σ7, R, F1, x8, rfl, H⟩ := H
      replace F := F.tr F1
      exact mm_R.pn (pc' := 52) (L' := [some ((.ref 86)), some (.int i1), some (.int i2), some (.int (0 : Int32)), some (.int (x8 + (1 : Int32)))]) (st' := []) 3 rfl (H.use R F)
    · replace H := H.2 (Decidable.of_not_not (of_decide_eq_false c))
      refine mm_R.cV (pc' := 37) (L' := [some ((.ref 86)), some (.int i1), some (.int i2), none, none]) (st1 := [.int (0 : Int32), .int (0 : Int32), .int (3 : Int32), .int i2, (.ref 86)]) (as := [.int i2, .int (3 : Int32), .int (0 : Int32), .int (0 : Int32)]) (rest := []) 5 rfl rfl (mw_sp rfl rfl (Nat.le_of_ble_eq_true rfl) (mw_ac rfl (mw_ac rfl (mw_ac rfl (mw_ac rfl (mw_ac rfl mw_an))))) mw_an) rfl rfl (m_rc R rfl) ((H _ R).mono (fun o hp1 H => ?_))
      obtain ⟨σ9, R, F1, rfl, H⟩ := H
      replace F := F.tr F1
      refine mm_R.cS (pc' := 45) (L' := [some ((.ref 86)), some (.int i1), some (.int i2), some (.int (0 : Int32)), none]) (st1 := [.int (141 : Int32)]) (as := [.int (141 : Int32)]) (rest := []) 3 rfl rfl (mw_sp rfl rfl (Nat.le_of_ble_eq_true rfl) (mw_ac rfl mw_an) mw_an) rfl rfl ((H _ R).mono (fun o hp1 H => ?_))
      obtain ⟨σ10, R, F1, x11, rfl, H⟩ := H
      replace F := F.tr F1
      exact mm_R.pn (pc' := 52) (L' := [some ((.ref 86)), some (.int i1), some (.int i2), some (.int (0 : Int32)), some (.int (x11 + (1 : Int32)))]) (st' := []) 3 rfl (H.use R F)
  · replace H := H.2 (of_decide_eq_false c)
    exact mm_R.rt (pc' := 13) (L' := [some ((.ref 86)), some (.int i1), some (.int i2), none, none]) (st1 := [.int (0 : Int32)]) 1 rfl rfl rfl rfl rfl rfl ⟨_, R, F, H⟩
-- StepRunnerModel.picked, from 52
set_option maxRecDepth 10000 in
theorem u172_52 {X : List Int32} {d : Nat} {i1 : Int32} {i2 : Int32} {i3 : Int32} {i4 : Int32} {σ : mS} {Q : Option Value → mS → Prop} (H : mM X d 143 0 (mm_L0 143 [(.ref 86), .int (141 : Int32)]) [] σ (mi_K (fun x2 σ1 => ((x2 ≤ i4 → ((i1 = (3 : Int32) → Q (some (.int (1 : Int32))) σ1) ∧ (¬ i1 = (3 : Int32) → ((¬ i1 = (1 : Int32) → ((¬ i3 = (1 : Int32) → Q (some (.int (0 : Int32))) σ1) ∧ (i3 = (1 : Int32) → Q (some (.int (1 : Int32))) σ1))) ∧ (i1 = (1 : Int32) → ((i3 ≤ (0 : Int32) → Q (some (.int (0 : Int32))) σ1) ∧ (¬ i3 ≤ (0 : Int32) → Q (some (.int (1 : Int32))) σ1))))))) ∧ (¬ x2 ≤ i4 → mM X d 144 0 (mm_L0 144 [(.ref 86), .int i4]) [] σ1 (mi_K (fun x4 σ3 => ((x4 = (0 : Int32) → mM X d 143 0 (mm_L0 143 [(.ref 86), .int (141 : Int32)]) [] σ3 (mi_K (fun x6 σ5 => mM X d 147 0 (mm_L0 147 [(.ref 86), .int i4, .int x6]) [] σ5 (mi_K (fun x8 σ7 => mM X (d + 1) 172 52 [some ((.ref 86)), some (.int i1), some (.int i2), some (.int i3), some (.int x8)] [] σ7 Q))))) ∧ (¬ x4 = (0 : Int32) → ((i1 = (3 : Int32) → mM X (d + 1) 172 86 [some ((.ref 86)), some (.int i1), some (.int i2), some (.int (i3 + (1 : Int32))), some (.int i4)] [] σ3 Q) ∧ (¬ i1 = (3 : Int32) → ((¬ (i3 + (1 : Int32)) = (1 : Int32) → mM X d 143 0 (mm_L0 143 [(.ref 86), .int (141 : Int32)]) [] σ3 (mi_K (fun x10 σ9 => mM X d 147 0 (mm_L0 147 [(.ref 86), .int i4, .int x10]) [] σ9 (mi_K (fun x12 σ11 => mM X (d + 1) 172 52 [some ((.ref 86)), some (.int i1), some (.int i2), some (.int (i3 + (1 : Int32))), some (.int x12)] [] σ11 Q))))) ∧ ((i3 + (1 : Int32)) = (1 : Int32) → mM X (d + 1) 172 86 [some ((.ref 86)), some (.int i1), some (.int i2), some (.int (i3 + (1 : Int32))), some (.int i4)] [] σ3 Q))))))))))))) : mM X (d + 1) 172 52 [some ((.ref 86)), some (.int i1), some (.int i2), some (.int i3), some (.int i4)] [] σ Q := by
  intro hp R
  have F : mF hp hp := mF.rf
  refine mm_R.cV (pc' := 58) (L' := [some ((.ref 86)), some (.int i1), some (.int i2), some (.int i3), some (.int i4)]) (st1 := [.int (141 : Int32), (.ref 86), .int i4]) (as := [.int (141 : Int32)]) (rest := [.int i4]) 3 rfl rfl (mw_sp rfl rfl (Nat.le_of_ble_eq_true rfl) (mw_ac rfl (mw_ac rfl mw_an)) (mw_ac rfl mw_an)) rfl rfl (m_rc R rfl) ((H _ R).mono (fun o hp1 H => ?_))
  obtain ⟨σ1, R, F1, x2, rfl, H⟩ := H
  replace F := F.tr F1
  refine mm_R.br (L' := [some ((.ref 86)), some (.int i1), some (.int i2), some (.int i3), some (.int i4)]) (st' := []) (t := 128) (u := 64) (b := mm_cc .ge i4 x2) 1 rfl (fun c => ?_) (fun c => ?_)
  · replace H := H.1 (of_decide_eq_true c)
    refine mm_R.br (L' := [some ((.ref 86)), some (.int i1), some (.int i2), some (.int i3), some (.int i4)]) (st' := []) (t := 150) (u := 133) (b := mm_cc .eq i1 (3 : Int32)) 3 rfl (fun c => ?_) (fun c => ?_)
    · replace H := H.1 (of_decide_eq_true c)
      exact mm_R.rt (pc' := 155) (L' := [some ((.ref 86)), some (.int i1), some (.int i2), some (.int i3), some (.int i4)]) (st1 := [.int (1 : Int32)]) 2 rfl rfl rfl rfl rfl rfl ⟨_, R, F, H⟩
    · replace H := H.2 (of_decide_eq_false c)
      refine mm_R.br (L' := [some ((.ref 86)), some (.int i1), some (.int i2), some (.int i3), some (.int i4)]) (st' := []) (t := 145) (u := 138) (b := mm_cc .ne i1 (1 : Int32)) 3 rfl (fun c => ?_) (fun c => ?_)
      · replace H := H.1 (of_decide_eq_true c)
        refine mm_R.br (L' := [some ((.ref 86)), some (.int i1), some (.int i2), some (.int i3), some (.int i4)]) (st' := []) (t := 154) (u := 150) (b := mm_cc .ne i3 (1 : Int32)) 3 rfl (fun c => ?_) (fun c => ?_)
        · replace H := H.1 (of_decide_eq_true c)
          exact mm_R.rt (pc' := 155) (L' := [some ((.ref 86)), some (.int i1), some (.int i2), some (.int i3), some (.int i4)]) (st1 := [.int (0 : Int32)]) 1 rfl rfl rfl rfl rfl rfl ⟨_, R, F, H⟩
        · replace H := H.2 (Decidable.of_not_not (of_decide_eq_false c))
          exact mm_R.rt (pc' := 155) (L' := [some ((.ref 86)), some (.int i1), some (.int i2), some (.int i3), some (.int i4)]) (st1 := [.int (1 : Int32)]) 2 rfl rfl rfl rfl rfl rfl ⟨_, R, F, H⟩
      · replace H := H.2 (Decidable.of_not_not (of_decide_eq_false c))
        refine mm_R.br (L' := [some ((.ref 86)), some (.int i1), some (.int i2), some (.int i3), some (.int i4)]) (st' := []) (t := 154) (u := 142) (b := mm_cc .le i3 (0 : Int32)) 2 rfl (fun c => ?_) (fun c => ?_)
        · replace H := H.1 (of_decide_eq_true c)
          exact mm_R.rt (pc' := 155) (L' := [some ((.ref 86)), some (.int i1), some (.int i2), some (.int i3), some (.int i4)]) (st1 := [.int (0 : Int32)]) 1 rfl rfl rfl rfl rfl rfl ⟨_, R, F, H⟩
        · replace H := H.2 (of_decide_eq_false c)
          exact mm_R.rt (pc' := 155) (L' := [some ((.ref 86)), some (.int i1), some (.int i2), some (.int i3), some (.int i4)]) (st1 := [.int (1 : Int32)]) 3 rfl rfl rfl rfl rfl rfl ⟨_, R, F, H⟩
  · replace H := H.2 (of_decide_eq_false c)
    refine mm_R.cV (pc' := 67) (L' := [some ((.ref 86)), some (.int i1), some (.int i2), some (.int i3), some (.int i4)]) (st1 := [.int i4, (.ref 86)]) (as := [.int i4]) (rest := []) 2 rfl rfl (mw_sp rfl rfl (Nat.le_of_ble_eq_true rfl) (mw_ac rfl (mw_ac rfl mw_an)) mw_an) rfl rfl (m_rc R rfl) ((H _ R).mono (fun o hp1 H => ?_))
    obtain ⟨σ3, R, F1, x4, rfl, H⟩ := H
    replace F := F.tr F1
    refine mm_R.br (L' := [some ((.ref 86)), some (.int i1), some (.int i2), some (.int i3), some (.int i4)]) (st' := []) (t := 110) (u := 73) (b := mm_cc .eq x4 (0 : Int32)) 1 rfl (fun c => ?_) (fun c => ?_)
    · replace H := H.1 (of_decide_eq_true c)
      refine mm_R.cV (pc' := 117) (L' := [some ((.ref 86)), some (.int i1), some (.int i2), some (.int i3), some (.int i4)]) (st1 := [.int (141 : Int32), (.ref 86), .int i4, (.ref 86)]) (as := [.int (141 : Int32)]) (rest := [.int i4, (.ref 86)]) 4 rfl rfl (mw_sp rfl rfl (Nat.le_of_ble_eq_true rfl) (mw_ac rfl (mw_ac rfl mw_an)) (mw_ac rfl (mw_ac rfl mw_an))) rfl rfl (m_rc R rfl) ((H _ R).mono (fun o hp1 H => ?_))
      obtain ⟨σ5, R, F1, x6, rfl, H⟩ := H
      replace F := F.tr F1
      refine mm_R.cV (pc' := 120) (L' := [some ((.ref 86)), some (.int i1), some (.int i2), some (.int i3), some (.int i4)]) (st1 := [.int x6, .int i4, (.ref 86)]) (as := [.int i4, .int x6]) (rest := []) 0 rfl rfl (mw_sp rfl rfl (Nat.le_of_ble_eq_true rfl) (mw_ac rfl (mw_ac rfl (mw_ac rfl mw_an))) mw_an) rfl rfl (m_rc R rfl) ((H _ R).mono (fun o hp1 H => ?_))
      obtain ⟨σ7, R, F1, x8, rfl, H⟩ := H
      replace F := F.tr F1
      exact mm_R.pn (pc' := 52) (L' := [some ((.ref 86)), some (.int i1), some (.int i2), some (.int i3), some (.int x8)]) (st' := []) 2 rfl (H.use R F)
    · replace H := H.2 (of_decide_eq_false c)
      refine mm_R.br (L' := [some ((.ref 86)), some (.int i1), some (.int i2), some (.int (i3 + (1 : Int32))), some (.int i4)]) (st' := []) (t := 86) (u := 81) (b := mm_cc .eq i1 (3 : Int32)) 4 rfl (fun c => ?_) (fun c => ?_)
      · replace H := H.1 (of_decide_eq_true c)
        exact H.use R F
      · replace H := H.2 (of_decide_eq_false c)
        refine mm_R.br (L' := [some ((.ref 86)), some (.int i1), some (.int i2), some (.int (i3 + (1 : Int32))), some (.int i4)]) (st' := []) (t := 110) (u := 86) (b := mm_cc .ne (i3 + (1 : Int32)) (1 : Int32)) 3 rfl (fun c => ?_) (fun c => ?_)
        · replace H := H.1 (of_decide_eq_true c)
          refine mm_R.cV (pc' := 117) (L' := [some ((.ref 86)), some (.int i1), some (.int i2), some (.int (i3 + (1 : Int32))), some (.int i4)]) (st1 := [.int (141 : Int32), (.ref 86), .int i4, (.ref 86)]) (as := [.int (141 : Int32)]) (rest := [.int i4, (.ref 86)]) 4 rfl rfl (mw_sp rfl rfl (Nat.le_of_ble_eq_true rfl) (mw_ac rfl (mw_ac rfl mw_an)) (mw_ac rfl (mw_ac rfl mw_an))) rfl rfl (m_rc R rfl) ((H _ R).mono (fun o hp1 H => ?_))
          obtain ⟨σ9, R, F1, x10, rfl, H⟩ := H
          replace F := F.tr F1
          refine mm_R.cV (pc' := 120) (L' := [some ((.ref 86)), some (.int i1), some (.int i2), some (.int (i3 + (1 : Int32))), some (.int i4)]) (st1 := [.int x10, .int i4, (.ref 86)]) (as := [.int i4, .int x10]) (rest := []) 0 rfl rfl (mw_sp rfl rfl (Nat.le_of_ble_eq_true rfl) (mw_ac rfl (mw_ac rfl (mw_ac rfl mw_an))) mw_an) rfl rfl (m_rc R rfl) ((H _ R).mono (fun o hp1 H => ?_))
          obtain ⟨σ11, R, F1, x12, rfl, H⟩ := H
          replace F := F.tr F1
          exact mm_R.pn (pc' := 52) (L' := [some ((.ref 86)), some (.int i1), some (.int i2), some (.int (i3 + (1 : Int32))), some (.int x12)]) (st' := []) 2 rfl (H.use R F)
        · replace H := H.2 (Decidable.of_not_not (of_decide_eq_false c))
          exact H.use R F
-- StepRunnerModel.picked, from 86
set_option maxRecDepth 10000 in
theorem u172_86 {X : List Int32} {d : Nat} {i1 : Int32} {i2 : Int32} {i3 : Int32} {i4 : Int32} {σ : mS} {Q : Option Value → mS → Prop} (H : mM X d 143 0 (mm_L0 143 [(.ref 86), .int (141 : Int32)]) [] σ (mi_K (fun x2 σ1 => ((¬ i1 = (3 : Int32) → mM X d 150 0 (mm_L0 150 [(.ref 86), .int i4, .int x2, .int i2, .int (0 : Int32)]) [] σ1 (m0_K (fun σ3 => mM X d 143 0 (mm_L0 143 [(.ref 86), .int (141 : Int32)]) [] σ3 (mi_K (fun x5 σ4 => mM X d 147 0 (mm_L0 147 [(.ref 86), .int i4, .int x5]) [] σ4 (mi_K (fun x7 σ6 => mM X (d + 1) 172 52 [some ((.ref 86)), some (.int i1), some (.int i2), some (.int i3), some (.int x7)] [] σ6 Q))))))) ∧ (i1 = (3 : Int32) → mM X d 150 0 (mm_L0 150 [(.ref 86), .int i4, .int x2, .int i2, .int (1 : Int32)]) [] σ1 (m0_K (fun σ8 => mM X d 143 0 (mm_L0 143 [(.ref 86), .int (141 : Int32)]) [] σ8 (mi_K (fun x10 σ9 => mM X d 147 0 (mm_L0 147 [(.ref 86), .int i4, .int x10]) [] σ9 (mi_K (fun x12 σ11 => mM X (d + 1) 172 52 [some ((.ref 86)), some (.int i1), some (.int i2), some (.int i3), some (.int x12)] [] σ11 Q))))))))))) : mM X (d + 1) 172 86 [some ((.ref 86)), some (.int i1), some (.int i2), some (.int i3), some (.int i4)] [] σ Q := by
  intro hp R
  have F : mF hp hp := mF.rf
  refine mm_R.cV (pc' := 93) (L' := [some ((.ref 86)), some (.int i1), some (.int i2), some (.int i3), some (.int i4)]) (st1 := [.int (141 : Int32), (.ref 86), .int i4, (.ref 86)]) (as := [.int (141 : Int32)]) (rest := [.int i4, (.ref 86)]) 4 rfl rfl (mw_sp rfl rfl (Nat.le_of_ble_eq_true rfl) (mw_ac rfl (mw_ac rfl mw_an)) (mw_ac rfl (mw_ac rfl mw_an))) rfl rfl (m_rc R rfl) ((H _ R).mono (fun o hp1 H => ?_))
  obtain ⟨σ1, R, F1, x2, rfl, H⟩ := H
  replace F := F.tr F1
  refine mm_R.br (L' := [some ((.ref 86)), some (.int i1), some (.int i2), some (.int i3), some (.int i4)]) (st' := [.int i2, .int x2, .int i4, (.ref 86)]) (t := 106) (u := 102) (b := mm_cc .ne i1 (3 : Int32)) 4 rfl (fun c => ?_) (fun c => ?_)
  · replace H := H.1 (of_decide_eq_true c)
    refine mm_R.cV (pc' := 107) (L' := [some ((.ref 86)), some (.int i1), some (.int i2), some (.int i3), some (.int i4)]) (st1 := [.int (0 : Int32), .int i2, .int x2, .int i4, (.ref 86)]) (as := [.int i4, .int x2, .int i2, .int (0 : Int32)]) (rest := []) 1 rfl rfl (mw_sp rfl rfl (Nat.le_of_ble_eq_true rfl) (mw_ac rfl (mw_ac rfl (mw_ac rfl (mw_ac rfl (mw_ac rfl mw_an))))) mw_an) rfl rfl (m_rc R rfl) ((H _ R).mono (fun o hp1 H => ?_))
    obtain ⟨σ3, R, F1, rfl, H⟩ := H
    replace F := F.tr F1
    refine mm_R.cV (pc' := 117) (L' := [some ((.ref 86)), some (.int i1), some (.int i2), some (.int i3), some (.int i4)]) (st1 := [.int (141 : Int32), (.ref 86), .int i4, (.ref 86)]) (as := [.int (141 : Int32)]) (rest := [.int i4, (.ref 86)]) 4 rfl rfl (mw_sp rfl rfl (Nat.le_of_ble_eq_true rfl) (mw_ac rfl (mw_ac rfl mw_an)) (mw_ac rfl (mw_ac rfl mw_an))) rfl rfl (m_rc R rfl) ((H _ R).mono (fun o hp1 H => ?_))
    obtain ⟨σ4, R, F1, x5, rfl, H⟩ := H
    replace F := F.tr F1
    refine mm_R.cV (pc' := 120) (L' := [some ((.ref 86)), some (.int i1), some (.int i2), some (.int i3), some (.int i4)]) (st1 := [.int x5, .int i4, (.ref 86)]) (as := [.int i4, .int x5]) (rest := []) 0 rfl rfl (mw_sp rfl rfl (Nat.le_of_ble_eq_true rfl) (mw_ac rfl (mw_ac rfl (mw_ac rfl mw_an))) mw_an) rfl rfl (m_rc R rfl) ((H _ R).mono (fun o hp1 H => ?_))
    obtain ⟨σ6, R, F1, x7, rfl, H⟩ := H
    replace F := F.tr F1
    exact mm_R.pn (pc' := 52) (L' := [some ((.ref 86)), some (.int i1), some (.int i2), some (.int i3), some (.int x7)]) (st' := []) 2 rfl (H.use R F)
  · replace H := H.2 (Decidable.of_not_not (of_decide_eq_false c))
    refine mm_R.cV (pc' := 107) (L' := [some ((.ref 86)), some (.int i1), some (.int i2), some (.int i3), some (.int i4)]) (st1 := [.int (1 : Int32), .int i2, .int x2, .int i4, (.ref 86)]) (as := [.int i4, .int x2, .int i2, .int (1 : Int32)]) (rest := []) 2 rfl rfl (mw_sp rfl rfl (Nat.le_of_ble_eq_true rfl) (mw_ac rfl (mw_ac rfl (mw_ac rfl (mw_ac rfl (mw_ac rfl mw_an))))) mw_an) rfl rfl (m_rc R rfl) ((H _ R).mono (fun o hp1 H => ?_))
    obtain ⟨σ8, R, F1, rfl, H⟩ := H
    replace F := F.tr F1
    refine mm_R.cV (pc' := 117) (L' := [some ((.ref 86)), some (.int i1), some (.int i2), some (.int i3), some (.int i4)]) (st1 := [.int (141 : Int32), (.ref 86), .int i4, (.ref 86)]) (as := [.int (141 : Int32)]) (rest := [.int i4, (.ref 86)]) 4 rfl rfl (mw_sp rfl rfl (Nat.le_of_ble_eq_true rfl) (mw_ac rfl (mw_ac rfl mw_an)) (mw_ac rfl (mw_ac rfl mw_an))) rfl rfl (m_rc R rfl) ((H _ R).mono (fun o hp1 H => ?_))
    obtain ⟨σ9, R, F1, x10, rfl, H⟩ := H
    replace F := F.tr F1
    refine mm_R.cV (pc' := 120) (L' := [some ((.ref 86)), some (.int i1), some (.int i2), some (.int i3), some (.int i4)]) (st1 := [.int x10, .int i4, (.ref 86)]) (as := [.int i4, .int x10]) (rest := []) 0 rfl rfl (mw_sp rfl rfl (Nat.le_of_ble_eq_true rfl) (mw_ac rfl (mw_ac rfl (mw_ac rfl mw_an))) mw_an) rfl rfl (m_rc R rfl) ((H _ R).mono (fun o hp1 H => ?_))
    obtain ⟨σ11, R, F1, x12, rfl, H⟩ := H
    replace F := F.tr F1
    exact mm_R.pn (pc' := 52) (L' := [some ((.ref 86)), some (.int i1), some (.int i2), some (.int i3), some (.int x12)]) (st' := []) 2 rfl (H.use R F)
-- StepRunnerModel.fail, from 0
set_option maxRecDepth 10000 in
theorem u173_0 {X : List Int32} {d : Nat} {i1 : Int32} {σ : mS} {Q : Option Value → mS → Prop} (H : ∀ σ1, σ1 = mSet σ 28 (1 : Int32) → (0 ≤ i1 ∧ Int32.toNatClampNeg i1 < 6) ∧ ∀ σ3, σ3 = mPut σ1 106 i1 (3 : Int32) → mM X (d + 1) 173 17 [some ((.ref 86)), some (.int i1), some (.int ((16 : Int32) * i1))] [] σ3 Q) : mM X (d + 1) 173 0 (mm_L0 173 [(.ref 86), .int i1]) [] σ Q := by
  intro hp R
  have F : mF hp hp := mF.rf
  show mm_R X (d + 1) 173 0 [some ((.ref 86)), some (.int i1), none] [] hp (mQ hp Q)
  refine mm_R.wpt (pc' := 2) (L' := [some ((.ref 86)), some (.int i1), none]) (r := []) 2 rfl rfl (m_pt (v := (1 : Int32)) R F rfl rfl rfl (fun hp R F => ?_))
  obtain ⟨σ1, es⟩ : ∃ z, z = mSet σ 28 (1 : Int32) := ⟨_, rfl⟩
  rw [← es] at R
  replace H := H σ1 es
  refine mm_R.wgv (pc' := 6) (L' := [some ((.ref 86)), some (.int i1), none]) (r := []) 1 rfl rfl (m_gv R rfl ?_)
  obtain ⟨hi2, H⟩ := H
  refine mm_R.wsi (pc' := 11) (L' := [some ((.ref 86)), some (.int i1), none]) (r := []) (t := 1000) (ty := .int) 2 rfl rfl rfl rfl (m_si (i := i1) (v := (3 : Int32)) R F (n := 6) (by decide) hi2 rfl (fun hp R F => ?_))
  obtain ⟨σ3, es⟩ : ∃ z, z = mPut σ1 106 i1 (3 : Int32) := ⟨_, rfl⟩
  rw [← es] at R
  replace H := H σ3 es
  exact mm_R.pn (pc' := 17) (L' := [some ((.ref 86)), some (.int i1), some (.int ((16 : Int32) * i1))]) (st' := []) 4 rfl (H.use R F)
-- StepRunnerModel.fail, from 17
set_option maxRecDepth 10000 in
theorem u173_17 {X : List Int32} {d : Nat} {i1 : Int32} {i2 : Int32} {σ : mS} {Q : Option Value → mS → Prop} (H : (((((16 : Int32) * i1) + (16 : Int32)) ≤ i2 → Q none σ) ∧ (¬ (((16 : Int32) * i1) + (16 : Int32)) ≤ i2 → (0 ≤ i2 ∧ Int32.toNatClampNeg i2 < 96) ∧ ((¬ (mGet σ 108 i2) = (1 : Int32) → (0 ≤ i2 ∧ Int32.toNatClampNeg i2 < 96) ∧ (0 ≤ i2 ∧ Int32.toNatClampNeg i2 < 96) ∧ ∀ σ4, σ4 = mPut σ 108 i2 (mGet σ 108 i2) → mM X (d + 1) 173 17 [some ((.ref 86)), some (.int i1), some (.int (i2 + (1 : Int32)))] [] σ4 Q) ∧ ((mGet σ 108 i2) = (1 : Int32) → (0 ≤ i2 ∧ Int32.toNatClampNeg i2 < 96) ∧ ∀ σ6, σ6 = mPut σ 108 i2 (0 : Int32) → mM X (d + 1) 173 17 [some ((.ref 86)), some (.int i1), some (.int (i2 + (1 : Int32)))] [] σ6 Q))))) : mM X (d + 1) 173 17 [some ((.ref 86)), some (.int i1), some (.int i2)] [] σ Q := by
  intro hp R
  have F : mF hp hp := mF.rf
  refine mm_R.br (L' := [some ((.ref 86)), some (.int i1), some (.int i2)]) (st' := []) (t := 60) (u := 28) (b := mm_cc .ge i2 (((16 : Int32) * i1) + (16 : Int32))) 7 rfl (fun c => ?_) (fun c => ?_)
  · replace H := H.1 (of_decide_eq_true c)
    exact mm_R.rt (pc' := 60) (L' := [some ((.ref 86)), some (.int i1), some (.int i2)]) (st1 := []) 0 rfl rfl rfl rfl rfl rfl ⟨_, R, F, H⟩
  · replace H := H.2 (of_decide_eq_false c)
    refine mm_R.wgv (pc' := 29) (L' := [some ((.ref 86)), some (.int i1), some (.int i2)]) (r := []) 1 rfl rfl (m_gv R rfl ?_)
    refine mm_R.wgv (pc' := 34) (L' := [some ((.ref 86)), some (.int i1), some (.int i2)]) (r := [.int i2, (.ref 108)]) 2 rfl rfl (m_gv R rfl ?_)
    obtain ⟨hi1, H⟩ := H
    refine mm_R.wai (pc' := 38) (L' := [some ((.ref 86)), some (.int i1), some (.int i2)]) (r := [.int i2, (.ref 108)]) (t := 1000) 1 rfl rfl rfl rfl (m_ai (i := i2) R (n := 96) (by decide) hi1 ?_)
    refine mm_R.br (L' := [some ((.ref 86)), some (.int i1), some (.int i2)]) (st' := [.int i2, (.ref 108)]) (t := 47) (u := 43) (b := mm_cc .ne (mGet σ 108 i2) (1 : Int32)) 2 rfl (fun c => ?_) (fun c => ?_)
    · replace H := H.1 (of_decide_eq_true c)
      refine mm_R.wgv (pc' := 48) (L' := [some ((.ref 86)), some (.int i1), some (.int i2)]) (r := [.int i2, (.ref 108)]) 1 rfl rfl (m_gv R rfl ?_)
      obtain ⟨hi2, H⟩ := H
      refine mm_R.wai (pc' := 52) (L' := [some ((.ref 86)), some (.int i1), some (.int i2)]) (r := [.int i2, (.ref 108)]) (t := 1000) 1 rfl rfl rfl rfl (m_ai (i := i2) R (n := 96) (by decide) hi2 ?_)
      obtain ⟨hi3, H⟩ := H
      refine mm_R.wsi (pc' := 53) (L' := [some ((.ref 86)), some (.int i1), some (.int i2)]) (r := []) (t := 1000) (ty := .int) 0 rfl rfl rfl rfl (m_si (i := i2) (v := (mGet σ 108 i2)) R F (n := 96) (by decide) hi3 rfl (fun hp R F => ?_))
      obtain ⟨σ4, es⟩ : ∃ z, z = mPut σ 108 i2 (mGet σ 108 i2) := ⟨_, rfl⟩
      rw [← es] at R
      replace H := H σ4 es
      exact mm_R.pn (pc' := 17) (L' := [some ((.ref 86)), some (.int i1), some (.int (i2 + (1 : Int32)))]) (st' := []) 2 rfl (H.use R F)
    · replace H := H.2 (Decidable.of_not_not (of_decide_eq_false c))
      obtain ⟨hi5, H⟩ := H
      refine mm_R.wsi (pc' := 53) (L' := [some ((.ref 86)), some (.int i1), some (.int i2)]) (r := []) (t := 1000) (ty := .int) 2 rfl rfl rfl rfl (m_si (i := i2) (v := (0 : Int32)) R F (n := 96) (by decide) hi5 rfl (fun hp R F => ?_))
      obtain ⟨σ6, es⟩ : ∃ z, z = mPut σ 108 i2 (0 : Int32) := ⟨_, rfl⟩
      rw [← es] at R
      replace H := H σ6 es
      exact mm_R.pn (pc' := 17) (L' := [some ((.ref 86)), some (.int i1), some (.int (i2 + (1 : Int32)))]) (st' := []) 2 rfl (H.use R F)
-- StepRunnerModel.scattered, from 0
set_option maxRecDepth 10000 in
theorem u174_0 {X : List Int32} {d : Nat} {i1 : Int32} {σ : mS} {Q : Option Value → mS → Prop} (H : (0 ≤ i1 ∧ Int32.toNatClampNeg i1 < 6) ∧ (0 ≤ i1 ∧ Int32.toNatClampNeg i1 < 6) ∧ (0 ≤ (mGet σ 96 i1) ∧ Int32.toNatClampNeg (mGet σ 96 i1) < 4) ∧ Q (some (.int ((mGet σ 97 i1) &&& (((1 : Int32) <<< ((mGet σ 92 (mGet σ 96 i1)) &&& 31)) - (1 : Int32))))) σ) : mM X (d + 1) 174 0 (mm_L0 174 [(.ref 86), .int i1]) [] σ Q := by
  intro hp R
  have F : mF hp hp := mF.rf
  show mm_R X (d + 1) 174 0 [some ((.ref 86)), some (.int i1)] [] hp (mQ hp Q)
  refine mm_R.wgv (pc' := 1) (L' := [some ((.ref 86)), some (.int i1)]) (r := []) 1 rfl rfl (m_gv R rfl ?_)
  obtain ⟨hi1, H⟩ := H
  refine mm_R.wai (pc' := 5) (L' := [some ((.ref 86)), some (.int i1)]) (r := []) (t := 1000) 1 rfl rfl rfl rfl (m_ai (i := i1) R (n := 6) (by decide) hi1 ?_)
  refine mm_R.wgv (pc' := 8) (L' := [some ((.ref 86)), some (.int i1)]) (r := [.int (1 : Int32), .int (mGet σ 97 i1)]) 2 rfl rfl (m_gv R rfl ?_)
  refine mm_R.wgv (pc' := 12) (L' := [some ((.ref 86)), some (.int i1)]) (r := [(.ref 92), .int (1 : Int32), .int (mGet σ 97 i1)]) 1 rfl rfl (m_gv R rfl ?_)
  obtain ⟨hi2, H⟩ := H
  refine mm_R.wai (pc' := 16) (L' := [some ((.ref 86)), some (.int i1)]) (r := [(.ref 92), .int (1 : Int32), .int (mGet σ 97 i1)]) (t := 1000) 1 rfl rfl rfl rfl (m_ai (i := i1) R (n := 6) (by decide) hi2 ?_)
  obtain ⟨hi3, H⟩ := H
  refine mm_R.wai (pc' := 17) (L' := [some ((.ref 86)), some (.int i1)]) (r := [.int (1 : Int32), .int (mGet σ 97 i1)]) (t := 1000) 0 rfl rfl rfl rfl (m_ai (i := (mGet σ 96 i1)) R (n := 4) (by decide) hi3 ?_)
  exact mm_R.rt (pc' := 22) (L' := [some ((.ref 86)), some (.int i1)]) (st1 := [.int ((mGet σ 97 i1) &&& (((1 : Int32) <<< ((mGet σ 92 (mGet σ 96 i1)) &&& 31)) - (1 : Int32)))]) 4 rfl rfl rfl rfl rfl rfl ⟨_, R, F, H⟩
-- StepRunnerModel.jobsOf, from 0
set_option maxRecDepth 10000 in
theorem u175_0 {X : List Int32} {d : Nat} {i1 : Int32} {i2 : Int32} {σ : mS} {Q : Option Value → mS → Prop} (H : mM X (d + 1) 175 8 [some ((.ref 86)), some (.int i1), some (.int i2), some (.int (1 : Int32)), some (.int (-1 : Int32)), some (.int (0 : Int32)), none, none] [] σ Q) : mM X (d + 1) 175 0 (mm_L0 175 [(.ref 86), .int i1, .int i2]) [] σ Q := by
  intro hp R
  have F : mF hp hp := mF.rf
  show mm_R X (d + 1) 175 0 [some ((.ref 86)), some (.int i1), some (.int i2), none, none, none, none, none] [] hp (mQ hp Q)
  exact mm_R.pn (pc' := 8) (L' := [some ((.ref 86)), some (.int i1), some (.int i2), some (.int (1 : Int32)), some (.int (-1 : Int32)), some (.int (0 : Int32)), none, none]) (st' := []) 6 rfl (H.use R F)
-- StepRunnerModel.jobsOf, from 8
set_option maxRecDepth 10000 in
theorem u175_8 {X : List Int32} {d : Nat} {i1 : Int32} {i2 : Int32} {i3 : Int32} {i4 : Int32} {i5 : Int32} {o6 : Option Value} {o7 : Option Value} {σ : mS} {Q : Option Value → mS → Prop} (H : (((4 : Int32) ≤ i5 → ((i3 ≤ (16 : Int32) → Q (some (.int i3)) σ) ∧ (¬ i3 ≤ (16 : Int32) → Q (some (.int (-1 : Int32))) σ))) ∧ (¬ (4 : Int32) ≤ i5 → ((¬ ((i2 >>> (i5 &&& 31)) &&& (1 : Int32)) = (1 : Int32) → mM X (d + 1) 175 8 [some ((.ref 86)), some (.int i1), some (.int i2), some (.int i3), some (.int i4), some (.int (i5 + (1 : Int32))), o6, o7] [] σ Q) ∧ (((i2 >>> (i5 &&& 31)) &&& (1 : Int32)) = (1 : Int32) → mM X d 123 0 (mm_L0 123 [.int ((129 : Int32) + i5)]) [] σ (mi_K (fun x2 σ1 => mM X d 144 0 (mm_L0 144 [(.ref 86), .int x2]) [] σ1 (mi_K (fun x4 σ3 => ((x4 = (3 : Int32) → mM X d 143 0 (mm_L0 143 [(.ref 86), .int ((129 : Int32) + i5)]) [] σ3 (mi_K (fun x6 σ5 => mM X d 146 0 (mm_L0 146 [(.ref 86), .int x2, .int x6]) [] σ5 (mi_K (fun x8 σ7 => (0 ≤ i1 ∧ Int32.toNatClampNeg i1 < 6) ∧ ((¬ (mGet σ7 98 i1) = (0 : Int32) → mM X (d + 1) 175 88 [some ((.ref 86)), some (.int i1), some (.int i2), some (.int i3), some (.int i4), some (.int i5), some (.int x2), some (.int x8)] [] σ7 Q) ∧ ((mGet σ7 98 i1) = (0 : Int32) → ((i4 < (0 : Int32) → mM X (d + 1) 175 88 [some ((.ref 86)), some (.int i1), some (.int i2), some (.int i3), some (.int i4), some (.int i5), some (.int x2), some (.int x8)] [] σ7 Q) ∧ (¬ i4 < (0 : Int32) → ((x8 = i4 → mM X (d + 1) 175 88 [some ((.ref 86)), some (.int i1), some (.int i2), some (.int i3), some (.int i4), some (.int i5), some (.int x2), some (.int x8)] [] σ7 Q) ∧ (¬ x8 = i4 → Q (some (.int (-1 : Int32))) σ7))))))))))) ∧ (¬ x4 = (3 : Int32) → Q (some (.int (-1 : Int32))) σ3))))))))))) : mM X (d + 1) 175 8 [some ((.ref 86)), some (.int i1), some (.int i2), some (.int i3), some (.int i4), some (.int i5), o6, o7] [] σ Q := by
  intro hp R
  have F : mF hp hp := mF.rf
  refine mm_R.br (L' := [some ((.ref 86)), some (.int i1), some (.int i2), some (.int i3), some (.int i4), some (.int i5), o6, o7]) (st' := []) (t := 117) (u := 14) (b := mm_cc .ge i5 (4 : Int32)) 3 rfl (fun c => ?_) (fun c => ?_)
  · replace H := H.1 (of_decide_eq_true c)
    refine mm_R.br (L' := [some ((.ref 86)), some (.int i1), some (.int i2), some (.int i3), some (.int i4), some (.int i5), o6, o7]) (st' := []) (t := 127) (u := 123) (b := mm_cc .le i3 (16 : Int32)) 3 rfl (fun c => ?_) (fun c => ?_)
    · replace H := H.1 (of_decide_eq_true c)
      exact mm_R.rt (pc' := 128) (L' := [some ((.ref 86)), some (.int i1), some (.int i2), some (.int i3), some (.int i4), some (.int i5), o6, o7]) (st1 := [.int i3]) 1 rfl rfl rfl rfl rfl rfl ⟨_, R, F, H⟩
    · replace H := H.2 (of_decide_eq_false c)
      exact mm_R.rt (pc' := 128) (L' := [some ((.ref 86)), some (.int i1), some (.int i2), some (.int i3), some (.int i4), some (.int i5), o6, o7]) (st1 := [.int (-1 : Int32)]) 2 rfl rfl rfl rfl rfl rfl ⟨_, R, F, H⟩
  · replace H := H.2 (of_decide_eq_false c)
    refine mm_R.br (L' := [some ((.ref 86)), some (.int i1), some (.int i2), some (.int i3), some (.int i4), some (.int i5), o6, o7]) (st' := []) (t := 111) (u := 24) (b := mm_cc .ne ((i2 >>> (i5 &&& 31)) &&& (1 : Int32)) (1 : Int32)) 7 rfl (fun c => ?_) (fun c => ?_)
    · replace H := H.1 (of_decide_eq_true c)
      exact mm_R.pn (pc' := 8) (L' := [some ((.ref 86)), some (.int i1), some (.int i2), some (.int i3), some (.int i4), some (.int (i5 + (1 : Int32))), o6, o7]) (st' := []) 2 rfl (H.use R F)
    · replace H := H.2 (Decidable.of_not_not (of_decide_eq_false c))
      refine mm_R.cS (pc' := 30) (L' := [some ((.ref 86)), some (.int i1), some (.int i2), some (.int i3), some (.int i4), some (.int i5), o6, o7]) (st1 := [.int ((129 : Int32) + i5)]) (as := [.int ((129 : Int32) + i5)]) (rest := []) 3 rfl rfl (mw_sp rfl rfl (Nat.le_of_ble_eq_true rfl) (mw_ac rfl mw_an) mw_an) rfl rfl ((H _ R).mono (fun o hp1 H => ?_))
      obtain ⟨σ1, R, F1, x2, rfl, H⟩ := H
      replace F := F.tr F1
      refine mm_R.cV (pc' := 38) (L' := [some ((.ref 86)), some (.int i1), some (.int i2), some (.int i3), some (.int i4), some (.int i5), some (.int x2), o7]) (st1 := [.int x2, (.ref 86)]) (as := [.int x2]) (rest := []) 3 rfl rfl (mw_sp rfl rfl (Nat.le_of_ble_eq_true rfl) (mw_ac rfl (mw_ac rfl mw_an)) mw_an) rfl rfl (m_rc R rfl) ((H _ R).mono (fun o hp1 H => ?_))
      obtain ⟨σ3, R, F1, x4, rfl, H⟩ := H
      replace F := F.tr F1
      refine mm_R.br (L' := [some ((.ref 86)), some (.int i1), some (.int i2), some (.int i3), some (.int i4), some (.int i5), some (.int x2), o7]) (st' := []) (t := 47) (u := 45) (b := mm_cc .eq x4 (3 : Int32)) 2 rfl (fun c => ?_) (fun c => ?_)
      · replace H := H.1 (of_decide_eq_true c)
        refine mm_R.cV (pc' := 57) (L' := [some ((.ref 86)), some (.int i1), some (.int i2), some (.int i3), some (.int i4), some (.int i5), some (.int x2), o7]) (st1 := [.int ((129 : Int32) + i5), (.ref 86), .int x2, (.ref 86)]) (as := [.int ((129 : Int32) + i5)]) (rest := [.int x2, (.ref 86)]) 6 rfl rfl (mw_sp rfl rfl (Nat.le_of_ble_eq_true rfl) (mw_ac rfl (mw_ac rfl mw_an)) (mw_ac rfl (mw_ac rfl mw_an))) rfl rfl (m_rc R rfl) ((H _ R).mono (fun o hp1 H => ?_))
        obtain ⟨σ5, R, F1, x6, rfl, H⟩ := H
        replace F := F.tr F1
        refine mm_R.cV (pc' := 60) (L' := [some ((.ref 86)), some (.int i1), some (.int i2), some (.int i3), some (.int i4), some (.int i5), some (.int x2), o7]) (st1 := [.int x6, .int x2, (.ref 86)]) (as := [.int x2, .int x6]) (rest := []) 0 rfl rfl (mw_sp rfl rfl (Nat.le_of_ble_eq_true rfl) (mw_ac rfl (mw_ac rfl (mw_ac rfl mw_an))) mw_an) rfl rfl (m_rc R rfl) ((H _ R).mono (fun o hp1 H => ?_))
        obtain ⟨σ7, R, F1, x8, rfl, H⟩ := H
        replace F := F.tr F1
        refine mm_R.wgv (pc' := 66) (L' := [some ((.ref 86)), some (.int i1), some (.int i2), some (.int i3), some (.int i4), some (.int i5), some (.int x2), some (.int x8)]) (r := []) 2 rfl rfl (m_gv R rfl ?_)
        obtain ⟨hi9, H⟩ := H
        refine mm_R.wai (pc' := 70) (L' := [some ((.ref 86)), some (.int i1), some (.int i2), some (.int i3), some (.int i4), some (.int i5), some (.int x2), some (.int x8)]) (r := []) (t := 1000) 1 rfl rfl rfl rfl (m_ai (i := i1) R (n := 6) (by decide) hi9 ?_)
        refine mm_R.br (L' := [some ((.ref 86)), some (.int i1), some (.int i2), some (.int i3), some (.int i4), some (.int i5), some (.int x2), some (.int x8)]) (st' := []) (t := 88) (u := 74) (b := mm_cc .ne (mGet σ7 98 i1) (0 : Int32)) 1 rfl (fun c => ?_) (fun c => ?_)
        · replace H := H.1 (of_decide_eq_true c)
          exact H.use R F
        · replace H := H.2 (Decidable.of_not_not (of_decide_eq_false c))
          refine mm_R.br (L' := [some ((.ref 86)), some (.int i1), some (.int i2), some (.int i3), some (.int i4), some (.int i5), some (.int x2), some (.int x8)]) (st' := []) (t := 88) (u := 79) (b := mm_cc .lt i4 (0 : Int32)) 2 rfl (fun c => ?_) (fun c => ?_)
          · replace H := H.1 (of_decide_eq_true c)
            exact H.use R F
          · replace H := H.2 (of_decide_eq_false c)
            refine mm_R.br (L' := [some ((.ref 86)), some (.int i1), some (.int i2), some (.int i3), some (.int i4), some (.int i5), some (.int x2), some (.int x8)]) (st' := []) (t := 88) (u := 86) (b := mm_cc .eq x8 i4) 3 rfl (fun c => ?_) (fun c => ?_)
            · replace H := H.1 (of_decide_eq_true c)
              exact H.use R F
            · replace H := H.2 (of_decide_eq_false c)
              exact mm_R.rt (pc' := 87) (L' := [some ((.ref 86)), some (.int i1), some (.int i2), some (.int i3), some (.int i4), some (.int i5), some (.int x2), some (.int x8)]) (st1 := [.int (-1 : Int32)]) 1 rfl rfl rfl rfl rfl rfl ⟨_, R, F, H⟩
      · replace H := H.2 (of_decide_eq_false c)
        exact mm_R.rt (pc' := 46) (L' := [some ((.ref 86)), some (.int i1), some (.int i2), some (.int i3), some (.int i4), some (.int i5), some (.int x2), o7]) (st1 := [.int (-1 : Int32)]) 1 rfl rfl rfl rfl rfl rfl ⟨_, R, F, H⟩
-- StepRunnerModel.jobsOf, from 88
set_option maxRecDepth 10000 in
theorem u175_88 {X : List Int32} {d : Nat} {i1 : Int32} {i2 : Int32} {i3 : Int32} {i4 : Int32} {i5 : Int32} {i6 : Int32} {i7 : Int32} {σ : mS} {Q : Option Value → mS → Prop} (H : (0 ≤ i1 ∧ Int32.toNatClampNeg i1 < 6) ∧ ((¬ (mGet σ 98 i1) = (0 : Int32) → mM X (d + 1) 175 8 [some ((.ref 86)), some (.int i1), some (.int i2), some (.int (i3 * i7)), some (.int i7), some (.int (i5 + (1 : Int32))), some (.int i6), some (.int i7)] [] σ Q) ∧ ((mGet σ 98 i1) = (0 : Int32) → mM X (d + 1) 175 8 [some ((.ref 86)), some (.int i1), some (.int i2), some (.int i7), some (.int i7), some (.int (i5 + (1 : Int32))), some (.int i6), some (.int i7)] [] σ Q))) : mM X (d + 1) 175 88 [some ((.ref 86)), some (.int i1), some (.int i2), some (.int i3), some (.int i4), some (.int i5), some (.int i6), some (.int i7)] [] σ Q := by
  intro hp R
  have F : mF hp hp := mF.rf
  refine mm_R.wgv (pc' := 89) (L' := [some ((.ref 86)), some (.int i1), some (.int i2), some (.int i3), some (.int i4), some (.int i5), some (.int i6), some (.int i7)]) (r := []) 1 rfl rfl (m_gv R rfl ?_)
  obtain ⟨hi1, H⟩ := H
  refine mm_R.wai (pc' := 93) (L' := [some ((.ref 86)), some (.int i1), some (.int i2), some (.int i3), some (.int i4), some (.int i5), some (.int i6), some (.int i7)]) (r := []) (t := 1000) 1 rfl rfl rfl rfl (m_ai (i := i1) R (n := 6) (by decide) hi1 ?_)
  refine mm_R.br (L' := [some ((.ref 86)), some (.int i1), some (.int i2), some (.int i3), some (.int i4), some (.int i5), some (.int i6), some (.int i7)]) (st' := []) (t := 102) (u := 97) (b := mm_cc .ne (mGet σ 98 i1) (0 : Int32)) 1 rfl (fun c => ?_) (fun c => ?_)
  · replace H := H.1 (of_decide_eq_true c)
    exact mm_R.pn (pc' := 8) (L' := [some ((.ref 86)), some (.int i1), some (.int i2), some (.int (i3 * i7)), some (.int i7), some (.int (i5 + (1 : Int32))), some (.int i6), some (.int i7)]) (st' := []) 8 rfl (H.use R F)
  · replace H := H.2 (Decidable.of_not_not (of_decide_eq_false c))
    exact mm_R.pn (pc' := 8) (L' := [some ((.ref 86)), some (.int i1), some (.int i2), some (.int i7), some (.int i7), some (.int (i5 + (1 : Int32))), some (.int i6), some (.int i7)]) (st' := []) 7 rfl (H.use R F)
-- StepRunnerModel.prepared, from 0
set_option maxRecDepth 10000 in
theorem u176_0 {X : List Int32} {d : Nat} {i1 : Int32} {i2 : Int32} {i3 : Int32} {σ : mS} {Q : Option Value → mS → Prop} (H : (0 ≤ i1 ∧ Int32.toNatClampNeg i1 < 6) ∧ (0 ≤ (mGet σ 96 i1) ∧ Int32.toNatClampNeg (mGet σ 96 i1) < 4) ∧ mM X (d + 1) 176 16 [some ((.ref 86)), some (.int i1), some (.int i2), some (.int i3), some (.int (mGet σ 92 (mGet σ 96 i1))), some (.int (0 : Int32)), none] [] σ Q) : mM X (d + 1) 176 0 (mm_L0 176 [(.ref 86), .int i1, .int i2, .int i3]) [] σ Q := by
  intro hp R
  have F : mF hp hp := mF.rf
  show mm_R X (d + 1) 176 0 [some ((.ref 86)), some (.int i1), some (.int i2), some (.int i3), none, none, none] [] hp (mQ hp Q)
  refine mm_R.wgv (pc' := 1) (L' := [some ((.ref 86)), some (.int i1), some (.int i2), some (.int i3), none, none, none]) (r := []) 1 rfl rfl (m_gv R rfl ?_)
  refine mm_R.wgv (pc' := 5) (L' := [some ((.ref 86)), some (.int i1), some (.int i2), some (.int i3), none, none, none]) (r := [(.ref 92)]) 1 rfl rfl (m_gv R rfl ?_)
  obtain ⟨hi1, H⟩ := H
  refine mm_R.wai (pc' := 9) (L' := [some ((.ref 86)), some (.int i1), some (.int i2), some (.int i3), none, none, none]) (r := [(.ref 92)]) (t := 1000) 1 rfl rfl rfl rfl (m_ai (i := i1) R (n := 6) (by decide) hi1 ?_)
  obtain ⟨hi2, H⟩ := H
  refine mm_R.wai (pc' := 10) (L' := [some ((.ref 86)), some (.int i1), some (.int i2), some (.int i3), none, none, none]) (r := []) (t := 1000) 0 rfl rfl rfl rfl (m_ai (i := (mGet σ 96 i1)) R (n := 4) (by decide) hi2 ?_)
  exact mm_R.pn (pc' := 16) (L' := [some ((.ref 86)), some (.int i1), some (.int i2), some (.int i3), some (.int (mGet σ 92 (mGet σ 96 i1))), some (.int (0 : Int32)), none]) (st' := []) 3 rfl (H.use R F)
-- StepRunnerModel.prepared, from 16
set_option maxRecDepth 10000 in
theorem u176_16 {X : List Int32} {d : Nat} {i1 : Int32} {i2 : Int32} {i3 : Int32} {i4 : Int32} {i5 : Int32} {o6 : Option Value} {σ : mS} {Q : Option Value → mS → Prop} (H : (((4 : Int32) ≤ i5 → mM X (d + 1) 176 147 [some ((.ref 86)), some (.int i1), some (.int i2), some (.int i3), some (.int i4), some (.int (0 : Int32)), o6] [] σ Q) ∧ (¬ (4 : Int32) ≤ i5 → mM X d 121 0 (mm_L0 121 [(.ref 86), .int ((133 : Int32) + i5)]) [] σ (m0_K (fun σ1 => mM X d 143 0 (mm_L0 143 [(.ref 86), .int ((129 : Int32) + i5)]) [] σ1 (mi_K (fun x3 σ2 => ((i5 < i4 → ((¬ ((i3 >>> (i5 &&& 31)) &&& (1 : Int32)) = (0 : Int32) → mM X d 123 0 (mm_L0 123 [.int ((129 : Int32) + i5)]) [] σ2 (mi_K (fun x5 σ4 => mM X d 177 0 (mm_L0 177 [(.ref 86), .int i1, .int i2, .int i3, .int i5]) [] σ4 (mi_K (fun x7 σ6 => mM X d 178 0 (mm_L0 178 [(.ref 86), .int x5, .int x3, .int x7]) [] σ6 (mi_K (fun x9 σ8 => mM X d 150 0 (mm_L0 150 [(.ref 86), .int x9, .int x3, .int ((133 : Int32) + i5), .int (0 : Int32)]) [] σ8 (m0_K (fun σ10 => mM X (d + 1) 176 16 [some ((.ref 86)), some (.int i1), some (.int i2), some (.int i3), some (.int i4), some (.int (i5 + (1 : Int32))), some (.int x3)] [] σ10 Q))))))))) ∧ (((i3 >>> (i5 &&& 31)) &&& (1 : Int32)) = (0 : Int32) → mM X d 123 0 (mm_L0 123 [.int ((129 : Int32) + i5)]) [] σ2 (mi_K (fun x12 σ11 => mM X d 150 0 (mm_L0 150 [(.ref 86), .int x12, .int x3, .int ((133 : Int32) + i5), .int (0 : Int32)]) [] σ11 (m0_K (fun σ13 => mM X (d + 1) 176 16 [some ((.ref 86)), some (.int i1), some (.int i2), some (.int i3), some (.int i4), some (.int (i5 + (1 : Int32))), some (.int x3)] [] σ13 Q))))))) ∧ (¬ i5 < i4 → mM X d 122 0 (mm_L0 122 [(.ref 86), .int ((133 : Int32) + i5), .int (0 : Int32), .int (0 : Int32), .int (0 : Int32)]) [] σ2 (m0_K (fun σ14 => mM X (d + 1) 176 16 [some ((.ref 86)), some (.int i1), some (.int i2), some (.int i3), some (.int i4), some (.int (i5 + (1 : Int32))), some (.int x3)] [] σ14 Q))))))))))) : mM X (d + 1) 176 16 [some ((.ref 86)), some (.int i1), some (.int i2), some (.int i3), some (.int i4), some (.int i5), o6] [] σ Q := by
  intro hp R
  have F : mF hp hp := mF.rf
  refine mm_R.br (L' := [some ((.ref 86)), some (.int i1), some (.int i2), some (.int i3), some (.int i4), some (.int i5), o6]) (st' := []) (t := 144) (u := 22) (b := mm_cc .ge i5 (4 : Int32)) 3 rfl (fun c => ?_) (fun c => ?_)
  · replace H := H.1 (of_decide_eq_true c)
    exact mm_R.pn (pc' := 147) (L' := [some ((.ref 86)), some (.int i1), some (.int i2), some (.int i3), some (.int i4), some (.int (0 : Int32)), o6]) (st' := []) 2 rfl (H.use R F)
  · replace H := H.2 (of_decide_eq_false c)
    refine mm_R.cV (pc' := 29) (L' := [some ((.ref 86)), some (.int i1), some (.int i2), some (.int i3), some (.int i4), some (.int i5), o6]) (st1 := [.int ((133 : Int32) + i5), (.ref 86)]) (as := [.int ((133 : Int32) + i5)]) (rest := []) 4 rfl rfl (mw_sp rfl rfl (Nat.le_of_ble_eq_true rfl) (mw_ac rfl (mw_ac rfl mw_an)) mw_an) rfl rfl (m_rc R rfl) ((H _ R).mono (fun o hp1 H => ?_))
    obtain ⟨σ1, R, F1, rfl, H⟩ := H
    replace F := F.tr F1
    refine mm_R.cV (pc' := 39) (L' := [some ((.ref 86)), some (.int i1), some (.int i2), some (.int i3), some (.int i4), some (.int i5), o6]) (st1 := [.int ((129 : Int32) + i5), (.ref 86)]) (as := [.int ((129 : Int32) + i5)]) (rest := []) 4 rfl rfl (mw_sp rfl rfl (Nat.le_of_ble_eq_true rfl) (mw_ac rfl (mw_ac rfl mw_an)) mw_an) rfl rfl (m_rc R rfl) ((H _ R).mono (fun o hp1 H => ?_))
    obtain ⟨σ2, R, F1, x3, rfl, H⟩ := H
    replace F := F.tr F1
    refine mm_R.br (L' := [some ((.ref 86)), some (.int i1), some (.int i2), some (.int i3), some (.int i4), some (.int i5), some (.int x3)]) (st' := []) (t := 67) (u := 51) (b := mm_cc .lt i5 i4) 4 rfl (fun c => ?_) (fun c => ?_)
    · replace H := H.1 (of_decide_eq_true c)
      refine mm_R.br (L' := [some ((.ref 86)), some (.int i1), some (.int i2), some (.int i3), some (.int i4), some (.int i5), some (.int x3)]) (st' := []) (t := 101) (u := 76) (b := mm_cc .ne ((i3 >>> (i5 &&& 31)) &&& (1 : Int32)) (0 : Int32)) 6 rfl (fun c => ?_) (fun c => ?_)
      · replace H := H.1 (of_decide_eq_true c)
        refine mm_R.cS (pc' := 109) (L' := [some ((.ref 86)), some (.int i1), some (.int i2), some (.int i3), some (.int i4), some (.int i5), some (.int x3)]) (st1 := [.int ((129 : Int32) + i5), (.ref 86), (.ref 86)]) (as := [.int ((129 : Int32) + i5)]) (rest := [(.ref 86), (.ref 86)]) 5 rfl rfl (mw_sp rfl rfl (Nat.le_of_ble_eq_true rfl) (mw_ac rfl mw_an) (mw_ac rfl (mw_ac rfl mw_an))) rfl rfl ((H _ R).mono (fun o hp1 H => ?_))
        obtain ⟨σ4, R, F1, x5, rfl, H⟩ := H
        replace F := F.tr F1
        refine mm_R.cV (pc' := 120) (L' := [some ((.ref 86)), some (.int i1), some (.int i2), some (.int i3), some (.int i4), some (.int i5), some (.int x3)]) (st1 := [.int i5, .int i3, .int i2, .int i1, (.ref 86), .int x3, .int x5, (.ref 86), (.ref 86)]) (as := [.int i1, .int i2, .int i3, .int i5]) (rest := [.int x3, .int x5, (.ref 86), (.ref 86)]) 6 rfl rfl (mw_sp rfl rfl (Nat.le_of_ble_eq_true rfl) (mw_ac rfl (mw_ac rfl (mw_ac rfl (mw_ac rfl (mw_ac rfl mw_an))))) (mw_ac rfl (mw_ac rfl (mw_ac rfl (mw_ac rfl mw_an))))) rfl rfl (m_rc R rfl) ((H _ R).mono (fun o hp1 H => ?_))
        obtain ⟨σ6, R, F1, x7, rfl, H⟩ := H
        replace F := F.tr F1
        refine mm_R.cV (pc' := 123) (L' := [some ((.ref 86)), some (.int i1), some (.int i2), some (.int i3), some (.int i4), some (.int i5), some (.int x3)]) (st1 := [.int x7, .int x3, .int x5, (.ref 86), (.ref 86)]) (as := [.int x5, .int x3, .int x7]) (rest := [(.ref 86)]) 0 rfl rfl (mw_sp rfl rfl (Nat.le_of_ble_eq_true rfl) (mw_ac rfl (mw_ac rfl (mw_ac rfl (mw_ac rfl mw_an)))) (mw_ac rfl mw_an)) rfl rfl (m_rc R rfl) ((H _ R).mono (fun o hp1 H => ?_))
        obtain ⟨σ8, R, F1, x9, rfl, H⟩ := H
        replace F := F.tr F1
        refine mm_R.cV (pc' := 135) (L' := [some ((.ref 86)), some (.int i1), some (.int i2), some (.int i3), some (.int i4), some (.int i5), some (.int x3)]) (st1 := [.int (0 : Int32), .int ((133 : Int32) + i5), .int x3, .int x9, (.ref 86)]) (as := [.int x9, .int x3, .int ((133 : Int32) + i5), .int (0 : Int32)]) (rest := []) 5 rfl rfl (mw_sp rfl rfl (Nat.le_of_ble_eq_true rfl) (mw_ac rfl (mw_ac rfl (mw_ac rfl (mw_ac rfl (mw_ac rfl mw_an))))) mw_an) rfl rfl (m_rc R rfl) ((H _ R).mono (fun o hp1 H => ?_))
        obtain ⟨σ10, R, F1, rfl, H⟩ := H
        replace F := F.tr F1
        exact mm_R.pn (pc' := 16) (L' := [some ((.ref 86)), some (.int i1), some (.int i2), some (.int i3), some (.int i4), some (.int (i5 + (1 : Int32))), some (.int x3)]) (st' := []) 2 rfl (H.use R F)
      · replace H := H.2 (Decidable.of_not_not (of_decide_eq_false c))
        refine mm_R.cS (pc' := 83) (L' := [some ((.ref 86)), some (.int i1), some (.int i2), some (.int i3), some (.int i4), some (.int i5), some (.int x3)]) (st1 := [.int ((129 : Int32) + i5), (.ref 86)]) (as := [.int ((129 : Int32) + i5)]) (rest := [(.ref 86)]) 4 rfl rfl (mw_sp rfl rfl (Nat.le_of_ble_eq_true rfl) (mw_ac rfl mw_an) (mw_ac rfl mw_an)) rfl rfl ((H _ R).mono (fun o hp1 H => ?_))
        obtain ⟨σ11, R, F1, x12, rfl, H⟩ := H
        replace F := F.tr F1
        refine mm_R.cV (pc' := 95) (L' := [some ((.ref 86)), some (.int i1), some (.int i2), some (.int i3), some (.int i4), some (.int i5), some (.int x3)]) (st1 := [.int (0 : Int32), .int ((133 : Int32) + i5), .int x3, .int x12, (.ref 86)]) (as := [.int x12, .int x3, .int ((133 : Int32) + i5), .int (0 : Int32)]) (rest := []) 5 rfl rfl (mw_sp rfl rfl (Nat.le_of_ble_eq_true rfl) (mw_ac rfl (mw_ac rfl (mw_ac rfl (mw_ac rfl (mw_ac rfl mw_an))))) mw_an) rfl rfl (m_rc R rfl) ((H _ R).mono (fun o hp1 H => ?_))
        obtain ⟨σ13, R, F1, rfl, H⟩ := H
        replace F := F.tr F1
        exact mm_R.pn (pc' := 16) (L' := [some ((.ref 86)), some (.int i1), some (.int i2), some (.int i3), some (.int i4), some (.int (i5 + (1 : Int32))), some (.int x3)]) (st' := []) 3 rfl (H.use R F)
    · replace H := H.2 (of_decide_eq_false c)
      refine mm_R.cV (pc' := 61) (L' := [some ((.ref 86)), some (.int i1), some (.int i2), some (.int i3), some (.int i4), some (.int i5), some (.int x3)]) (st1 := [.int (0 : Int32), .int (0 : Int32), .int (0 : Int32), .int ((133 : Int32) + i5), (.ref 86)]) (as := [.int ((133 : Int32) + i5), .int (0 : Int32), .int (0 : Int32), .int (0 : Int32)]) (rest := []) 7 rfl rfl (mw_sp rfl rfl (Nat.le_of_ble_eq_true rfl) (mw_ac rfl (mw_ac rfl (mw_ac rfl (mw_ac rfl (mw_ac rfl mw_an))))) mw_an) rfl rfl (m_rc R rfl) ((H _ R).mono (fun o hp1 H => ?_))
      obtain ⟨σ14, R, F1, rfl, H⟩ := H
      replace F := F.tr F1
      exact mm_R.pn (pc' := 16) (L' := [some ((.ref 86)), some (.int i1), some (.int i2), some (.int i3), some (.int i4), some (.int (i5 + (1 : Int32))), some (.int x3)]) (st' := []) 3 rfl (H.use R F)
-- StepRunnerModel.prepared, from 147
set_option maxRecDepth 10000 in
theorem u176_147 {X : List Int32} {d : Nat} {i1 : Int32} {i2 : Int32} {i3 : Int32} {i4 : Int32} {i5 : Int32} {o6 : Option Value} {σ : mS} {Q : Option Value → mS → Prop} (H : (((4 : Int32) ≤ i5 → (0 ≤ ((24 : Int32) + i1) ∧ Int32.toNatClampNeg ((24 : Int32) + i1) < 30) ∧ (((mGet σ 105 ((24 : Int32) + i1)) < (0 : Int32) → (0 ≤ (((16 : Int32) * i1) + i2) ∧ Int32.toNatClampNeg (((16 : Int32) * i1) + i2) < 96) ∧ ∀ σ3, σ3 = mPut σ 108 (((16 : Int32) * i1) + i2) (1 : Int32) → mM X d 189 0 (mm_L0 189 [(.ref 86), .int i1, .int (((16 : Int32) * i1) + i2)]) [] σ3 (mi_K (fun x5 σ4 => (x5 = 0 ∨ x5 = 1) ∧ Q (some (.int x5)) σ4))) ∧ (¬ (mGet σ 105 ((24 : Int32) + i1)) < (0 : Int32) → ∀ σ6, σ6 = mSet σ 39 ((600 : Int32) + ((192 : Int32) * (((16 : Int32) * i1) + i2))) → mM X d 179 0 (mm_L0 179 [(.ref 86), .int ((24 : Int32) + i1), .int (137 : Int32), .int (-1 : Int32), .int (141 : Int32)]) [] σ6 (mi_K (fun x8 σ7 => ((¬ x8 = (0 : Int32) → mM X d 123 0 (mm_L0 123 [.int (141 : Int32)]) [] σ7 (mi_K (fun x10 σ9 => mM X d 144 0 (mm_L0 144 [(.ref 86), .int x10]) [] σ9 (mi_K (fun x12 σ11 => ((x12 = (0 : Int32) → mM X d 120 0 (mm_L0 120 [(.ref 86), .int ((27 : Int32) + (((16 : Int32) * i1) + i2))]) [] σ11 (m0_K (fun σ13 => (0 ≤ (((16 : Int32) * i1) + i2) ∧ Int32.toNatClampNeg (((16 : Int32) * i1) + i2) < 96) ∧ ∀ σ15, σ15 = mPut σ13 108 (((16 : Int32) * i1) + i2) (3 : Int32) → Q (some (.int (1 : Int32))) σ15))) ∧ (¬ x12 = (0 : Int32) → mM X d 144 0 (mm_L0 144 [(.ref 86), .int x10]) [] σ11 (mi_K (fun x17 σ16 => ((¬ x17 = (1 : Int32) → (0 ≤ (((16 : Int32) * i1) + i2) ∧ Int32.toNatClampNeg (((16 : Int32) * i1) + i2) < 96) ∧ ∀ σ19, σ19 = mPut σ16 108 (((16 : Int32) * i1) + i2) (1 : Int32) → mM X d 189 0 (mm_L0 189 [(.ref 86), .int i1, .int (((16 : Int32) * i1) + i2)]) [] σ19 (mi_K (fun x21 σ20 => (x21 = 0 ∨ x21 = 1) ∧ Q (some (.int x21)) σ20))) ∧ (x17 = (1 : Int32) → mM X d 151 0 (mm_L0 151 [(.ref 86), .int x10]) [] σ16 (mi_K (fun x23 σ22 => ((¬ x23 = (0 : Int32) → (0 ≤ (((16 : Int32) * i1) + i2) ∧ Int32.toNatClampNeg (((16 : Int32) * i1) + i2) < 96) ∧ ∀ σ25, σ25 = mPut σ22 108 (((16 : Int32) * i1) + i2) (1 : Int32) → mM X d 189 0 (mm_L0 189 [(.ref 86), .int i1, .int (((16 : Int32) * i1) + i2)]) [] σ25 (mi_K (fun x27 σ26 => (x27 = 0 ∨ x27 = 1) ∧ Q (some (.int x27)) σ26))) ∧ (x23 = (0 : Int32) → mM X d 120 0 (mm_L0 120 [(.ref 86), .int ((27 : Int32) + (((16 : Int32) * i1) + i2))]) [] σ22 (m0_K (fun σ28 => (0 ≤ (((16 : Int32) * i1) + i2) ∧ Int32.toNatClampNeg (((16 : Int32) * i1) + i2) < 96) ∧ ∀ σ30, σ30 = mPut σ28 108 (((16 : Int32) * i1) + i2) (3 : Int32) → Q (some (.int (1 : Int32))) σ30))))))))))))))))) ∧ (x8 = (0 : Int32) → Q (some (.int (0 : Int32))) σ7))))))) ∧ (¬ (4 : Int32) ≤ i5 → ∀ σ31, σ31 = mSet σ 39 ((19032 : Int32) + ((24 : Int32) * i5)) → ((i4 ≤ i5 → mM X d 149 0 (mm_L0 149 [(.ref 86), .int ((133 : Int32) + i5), .int ((137 : Int32) + i5)]) [] σ31 (m0_K (fun σ32 => mM X (d + 1) 176 147 [some ((.ref 86)), some (.int i1), some (.int i2), some (.int i3), some (.int i4), some (.int (i5 + (1 : Int32))), o6] [] σ32 Q))) ∧ (¬ i4 ≤ i5 → (0 ≤ (((4 : Int32) * i1) + i5) ∧ Int32.toNatClampNeg (((4 : Int32) * i1) + i5) < 30) ∧ (((0 : Int32) ≤ (mGet σ31 105 (((4 : Int32) * i1) + i5)) → mM X d 179 0 (mm_L0 179 [(.ref 86), .int (((4 : Int32) * i1) + i5), .int (133 : Int32), .int ((133 : Int32) + i5), .int ((137 : Int32) + i5)]) [] σ31 (mi_K (fun x35 σ34 => ((¬ x35 = (0 : Int32) → mM X (d + 1) 176 147 [some ((.ref 86)), some (.int i1), some (.int i2), some (.int i3), some (.int i4), some (.int (i5 + (1 : Int32))), o6] [] σ34 Q) ∧ (x35 = (0 : Int32) → Q (some (.int (0 : Int32))) σ34))))) ∧ (¬ (0 : Int32) ≤ (mGet σ31 105 (((4 : Int32) * i1) + i5)) → mM X d 149 0 (mm_L0 149 [(.ref 86), .int ((133 : Int32) + i5), .int ((137 : Int32) + i5)]) [] σ31 (m0_K (fun σ36 => mM X (d + 1) 176 147 [some ((.ref 86)), some (.int i1), some (.int i2), some (.int i3), some (.int i4), some (.int (i5 + (1 : Int32))), o6] [] σ36 Q))))))))) : mM X (d + 1) 176 147 [some ((.ref 86)), some (.int i1), some (.int i2), some (.int i3), some (.int i4), some (.int i5), o6] [] σ Q := by
  intro hp R
  have F : mF hp hp := mF.rf
  refine mm_R.br (L' := [some ((.ref 86)), some (.int i1), some (.int i2), some (.int i3), some (.int i4), some (.int i5), o6]) (st' := []) (t := 242) (u := 153) (b := mm_cc .ge i5 (4 : Int32)) 3 rfl (fun c => ?_) (fun c => ?_)
  · replace H := H.1 (of_decide_eq_true c)
    refine mm_R.wgv (pc' := 251) (L' := [some ((.ref 86)), some (.int i1), some (.int i2), some (.int i3), some (.int i4), some (.int (((16 : Int32) * i1) + i2)), o6]) (r := []) 7 rfl rfl (m_gv R rfl ?_)
    obtain ⟨hi1, H⟩ := H
    refine mm_R.wai (pc' := 258) (L' := [some ((.ref 86)), some (.int i1), some (.int i2), some (.int i3), some (.int i4), some (.int (((16 : Int32) * i1) + i2)), o6]) (r := []) (t := 1000) 3 rfl rfl rfl rfl (m_ai (i := ((24 : Int32) + i1)) R (n := 30) (by decide) hi1 ?_)
    refine mm_R.br (L' := [some ((.ref 86)), some (.int i1), some (.int i2), some (.int i3), some (.int i4), some (.int (((16 : Int32) * i1) + i2)), o6]) (st' := []) (t := 351) (u := 262) (b := mm_cc .lt (mGet σ 105 ((24 : Int32) + i1)) (0 : Int32)) 1 rfl (fun c => ?_) (fun c => ?_)
    · replace H := H.1 (of_decide_eq_true c)
      refine mm_R.wgv (pc' := 352) (L' := [some ((.ref 86)), some (.int i1), some (.int i2), some (.int i3), some (.int i4), some (.int (((16 : Int32) * i1) + i2)), o6]) (r := []) 1 rfl rfl (m_gv R rfl ?_)
      obtain ⟨hi2, H⟩ := H
      refine mm_R.wsi (pc' := 358) (L' := [some ((.ref 86)), some (.int i1), some (.int i2), some (.int i3), some (.int i4), some (.int (((16 : Int32) * i1) + i2)), o6]) (r := []) (t := 1000) (ty := .int) 2 rfl rfl rfl rfl (m_si (i := (((16 : Int32) * i1) + i2)) (v := (1 : Int32)) R F (n := 96) (by decide) hi2 rfl (fun hp R F => ?_))
      obtain ⟨σ3, es⟩ : ∃ z, z = mPut σ 108 (((16 : Int32) * i1) + i2) (1 : Int32) := ⟨_, rfl⟩
      rw [← es] at R
      replace H := H σ3 es
      refine mm_R.cV (pc' := 363) (L' := [some ((.ref 86)), some (.int i1), some (.int i2), some (.int i3), some (.int i4), some (.int (((16 : Int32) * i1) + i2)), o6]) (st1 := [.int (((16 : Int32) * i1) + i2), .int i1, (.ref 86)]) (as := [.int i1, .int (((16 : Int32) * i1) + i2)]) (rest := []) 3 rfl rfl (mw_sp rfl rfl (Nat.le_of_ble_eq_true rfl) (mw_ac rfl (mw_ac rfl (mw_ac rfl mw_an))) mw_an) rfl rfl (m_rc R rfl) ((H _ R).mono (fun o hp1 H => ?_))
      obtain ⟨σ4, R, F1, x5, rfl, H⟩ := H
      replace F := F.tr F1
      exact mm_R.rt (pc' := 366) (L' := [some ((.ref 86)), some (.int i1), some (.int i2), some (.int i3), some (.int i4), some (.int (((16 : Int32) * i1) + i2)), o6]) (st1 := [.int x5]) 0 rfl rfl rfl rfl rfl (mw_rvi (ty := .boolean) (m_fz H.1)) ⟨_, R, F, H.2⟩
    · replace H := H.2 (of_decide_eq_false c)
      refine mm_R.wpt (pc' := 273) (L' := [some ((.ref 86)), some (.int i1), some (.int i2), some (.int i3), some (.int i4), some (.int (((16 : Int32) * i1) + i2)), o6]) (r := []) 6 rfl rfl (m_pt (v := ((600 : Int32) + ((192 : Int32) * (((16 : Int32) * i1) + i2)))) R F rfl rfl rfl (fun hp R F => ?_))
      obtain ⟨σ6, es⟩ : ∃ z, z = mSet σ 39 ((600 : Int32) + ((192 : Int32) * (((16 : Int32) * i1) + i2))) := ⟨_, rfl⟩
      rw [← es] at R
      replace H := H σ6 es
      refine mm_R.cV (pc' := 288) (L' := [some ((.ref 86)), some (.int i1), some (.int i2), some (.int i3), some (.int i4), some (.int (((16 : Int32) * i1) + i2)), o6]) (st1 := [.int (141 : Int32), .int (-1 : Int32), .int (137 : Int32), .int ((24 : Int32) + i1), (.ref 86)]) (as := [.int ((24 : Int32) + i1), .int (137 : Int32), .int (-1 : Int32), .int (141 : Int32)]) (rest := []) 7 rfl rfl (mw_sp rfl rfl (Nat.le_of_ble_eq_true rfl) (mw_ac rfl (mw_ac rfl (mw_ac rfl (mw_ac rfl (mw_ac rfl mw_an))))) mw_an) rfl rfl (m_rc R rfl) ((H _ R).mono (fun o hp1 H => ?_))
      obtain ⟨σ7, R, F1, x8, rfl, H⟩ := H
      replace F := F.tr F1
      refine mm_R.br (L' := [some ((.ref 86)), some (.int i1), some (.int i2), some (.int i3), some (.int i4), some (.int (((16 : Int32) * i1) + i2)), o6]) (st' := []) (t := 296) (u := 294) (b := mm_cc .ne x8 (0 : Int32)) 1 rfl (fun c => ?_) (fun c => ?_)
      · replace H := H.1 (of_decide_eq_true c)
        refine mm_R.cS (pc' := 299) (L' := [some ((.ref 86)), some (.int i1), some (.int i2), some (.int i3), some (.int i4), some (.int (((16 : Int32) * i1) + i2)), o6]) (st1 := [.int (141 : Int32)]) (as := [.int (141 : Int32)]) (rest := []) 1 rfl rfl (mw_sp rfl rfl (Nat.le_of_ble_eq_true rfl) (mw_ac rfl mw_an) mw_an) rfl rfl ((H _ R).mono (fun o hp1 H => ?_))
        obtain ⟨σ9, R, F1, x10, rfl, H⟩ := H
        replace F := F.tr F1
        refine mm_R.cV (pc' := 307) (L' := [some ((.ref 86)), some (.int i1), some (.int i2), some (.int i3), some (.int i4), some (.int (((16 : Int32) * i1) + i2)), some (.int x10)]) (st1 := [.int x10, (.ref 86)]) (as := [.int x10]) (rest := []) 3 rfl rfl (mw_sp rfl rfl (Nat.le_of_ble_eq_true rfl) (mw_ac rfl (mw_ac rfl mw_an)) mw_an) rfl rfl (m_rc R rfl) ((H _ R).mono (fun o hp1 H => ?_))
        obtain ⟨σ11, R, F1, x12, rfl, H⟩ := H
        replace F := F.tr F1
        refine mm_R.br (L' := [some ((.ref 86)), some (.int i1), some (.int i2), some (.int i3), some (.int i4), some (.int (((16 : Int32) * i1) + i2)), some (.int x10)]) (st' := []) (t := 332) (u := 313) (b := mm_cc .eq x12 (0 : Int32)) 1 rfl (fun c => ?_) (fun c => ?_)
        · replace H := H.1 (of_decide_eq_true c)
          refine mm_R.cV (pc' := 338) (L' := [some ((.ref 86)), some (.int i1), some (.int i2), some (.int i3), some (.int i4), some (.int (((16 : Int32) * i1) + i2)), some (.int x10)]) (st1 := [.int ((27 : Int32) + (((16 : Int32) * i1) + i2)), (.ref 86)]) (as := [.int ((27 : Int32) + (((16 : Int32) * i1) + i2))]) (rest := []) 4 rfl rfl (mw_sp rfl rfl (Nat.le_of_ble_eq_true rfl) (mw_ac rfl (mw_ac rfl mw_an)) mw_an) rfl rfl (m_rc R rfl) ((H _ R).mono (fun o hp1 H => ?_))
          obtain ⟨σ13, R, F1, rfl, H⟩ := H
          replace F := F.tr F1
          refine mm_R.wgv (pc' := 342) (L' := [some ((.ref 86)), some (.int i1), some (.int i2), some (.int i3), some (.int i4), some (.int (((16 : Int32) * i1) + i2)), some (.int x10)]) (r := []) 1 rfl rfl (m_gv R rfl ?_)
          obtain ⟨hi14, H⟩ := H
          refine mm_R.wsi (pc' := 348) (L' := [some ((.ref 86)), some (.int i1), some (.int i2), some (.int i3), some (.int i4), some (.int (((16 : Int32) * i1) + i2)), some (.int x10)]) (r := []) (t := 1000) (ty := .int) 2 rfl rfl rfl rfl (m_si (i := (((16 : Int32) * i1) + i2)) (v := (3 : Int32)) R F (n := 96) (by decide) hi14 rfl (fun hp R F => ?_))
          obtain ⟨σ15, es⟩ : ∃ z, z = mPut σ13 108 (((16 : Int32) * i1) + i2) (3 : Int32) := ⟨_, rfl⟩
          rw [← es] at R
          replace H := H σ15 es
          exact mm_R.rt (pc' := 350) (L' := [some ((.ref 86)), some (.int i1), some (.int i2), some (.int i3), some (.int i4), some (.int (((16 : Int32) * i1) + i2)), some (.int x10)]) (st1 := [.int (1 : Int32)]) 1 rfl rfl rfl rfl rfl rfl ⟨_, R, F, H⟩
        · replace H := H.2 (of_decide_eq_false c)
          refine mm_R.cV (pc' := 316) (L' := [some ((.ref 86)), some (.int i1), some (.int i2), some (.int i3), some (.int i4), some (.int (((16 : Int32) * i1) + i2)), some (.int x10)]) (st1 := [.int x10, (.ref 86)]) (as := [.int x10]) (rest := []) 2 rfl rfl (mw_sp rfl rfl (Nat.le_of_ble_eq_true rfl) (mw_ac rfl (mw_ac rfl mw_an)) mw_an) rfl rfl (m_rc R rfl) ((H _ R).mono (fun o hp1 H => ?_))
          obtain ⟨σ16, R, F1, x17, rfl, H⟩ := H
          replace F := F.tr F1
          refine mm_R.br (L' := [some ((.ref 86)), some (.int i1), some (.int i2), some (.int i3), some (.int i4), some (.int (((16 : Int32) * i1) + i2)), some (.int x10)]) (st' := []) (t := 351) (u := 323) (b := mm_cc .ne x17 (1 : Int32)) 2 rfl (fun c => ?_) (fun c => ?_)
          · replace H := H.1 (of_decide_eq_true c)
            refine mm_R.wgv (pc' := 352) (L' := [some ((.ref 86)), some (.int i1), some (.int i2), some (.int i3), some (.int i4), some (.int (((16 : Int32) * i1) + i2)), some (.int x10)]) (r := []) 1 rfl rfl (m_gv R rfl ?_)
            obtain ⟨hi18, H⟩ := H
            refine mm_R.wsi (pc' := 358) (L' := [some ((.ref 86)), some (.int i1), some (.int i2), some (.int i3), some (.int i4), some (.int (((16 : Int32) * i1) + i2)), some (.int x10)]) (r := []) (t := 1000) (ty := .int) 2 rfl rfl rfl rfl (m_si (i := (((16 : Int32) * i1) + i2)) (v := (1 : Int32)) R F (n := 96) (by decide) hi18 rfl (fun hp R F => ?_))
            obtain ⟨σ19, es⟩ : ∃ z, z = mPut σ16 108 (((16 : Int32) * i1) + i2) (1 : Int32) := ⟨_, rfl⟩
            rw [← es] at R
            replace H := H σ19 es
            refine mm_R.cV (pc' := 363) (L' := [some ((.ref 86)), some (.int i1), some (.int i2), some (.int i3), some (.int i4), some (.int (((16 : Int32) * i1) + i2)), some (.int x10)]) (st1 := [.int (((16 : Int32) * i1) + i2), .int i1, (.ref 86)]) (as := [.int i1, .int (((16 : Int32) * i1) + i2)]) (rest := []) 3 rfl rfl (mw_sp rfl rfl (Nat.le_of_ble_eq_true rfl) (mw_ac rfl (mw_ac rfl (mw_ac rfl mw_an))) mw_an) rfl rfl (m_rc R rfl) ((H _ R).mono (fun o hp1 H => ?_))
            obtain ⟨σ20, R, F1, x21, rfl, H⟩ := H
            replace F := F.tr F1
            exact mm_R.rt (pc' := 366) (L' := [some ((.ref 86)), some (.int i1), some (.int i2), some (.int i3), some (.int i4), some (.int (((16 : Int32) * i1) + i2)), some (.int x10)]) (st1 := [.int x21]) 0 rfl rfl rfl rfl rfl (mw_rvi (ty := .boolean) (m_fz H.1)) ⟨_, R, F, H.2⟩
          · replace H := H.2 (Decidable.of_not_not (of_decide_eq_false c))
            refine mm_R.cV (pc' := 326) (L' := [some ((.ref 86)), some (.int i1), some (.int i2), some (.int i3), some (.int i4), some (.int (((16 : Int32) * i1) + i2)), some (.int x10)]) (st1 := [.int x10, (.ref 86)]) (as := [.int x10]) (rest := []) 2 rfl rfl (mw_sp rfl rfl (Nat.le_of_ble_eq_true rfl) (mw_ac rfl (mw_ac rfl mw_an)) mw_an) rfl rfl (m_rc R rfl) ((H _ R).mono (fun o hp1 H => ?_))
            obtain ⟨σ22, R, F1, x23, rfl, H⟩ := H
            replace F := F.tr F1
            refine mm_R.br (L' := [some ((.ref 86)), some (.int i1), some (.int i2), some (.int i3), some (.int i4), some (.int (((16 : Int32) * i1) + i2)), some (.int x10)]) (st' := []) (t := 351) (u := 332) (b := mm_cc .ne x23 (0 : Int32)) 1 rfl (fun c => ?_) (fun c => ?_)
            · replace H := H.1 (of_decide_eq_true c)
              refine mm_R.wgv (pc' := 352) (L' := [some ((.ref 86)), some (.int i1), some (.int i2), some (.int i3), some (.int i4), some (.int (((16 : Int32) * i1) + i2)), some (.int x10)]) (r := []) 1 rfl rfl (m_gv R rfl ?_)
              obtain ⟨hi24, H⟩ := H
              refine mm_R.wsi (pc' := 358) (L' := [some ((.ref 86)), some (.int i1), some (.int i2), some (.int i3), some (.int i4), some (.int (((16 : Int32) * i1) + i2)), some (.int x10)]) (r := []) (t := 1000) (ty := .int) 2 rfl rfl rfl rfl (m_si (i := (((16 : Int32) * i1) + i2)) (v := (1 : Int32)) R F (n := 96) (by decide) hi24 rfl (fun hp R F => ?_))
              obtain ⟨σ25, es⟩ : ∃ z, z = mPut σ22 108 (((16 : Int32) * i1) + i2) (1 : Int32) := ⟨_, rfl⟩
              rw [← es] at R
              replace H := H σ25 es
              refine mm_R.cV (pc' := 363) (L' := [some ((.ref 86)), some (.int i1), some (.int i2), some (.int i3), some (.int i4), some (.int (((16 : Int32) * i1) + i2)), some (.int x10)]) (st1 := [.int (((16 : Int32) * i1) + i2), .int i1, (.ref 86)]) (as := [.int i1, .int (((16 : Int32) * i1) + i2)]) (rest := []) 3 rfl rfl (mw_sp rfl rfl (Nat.le_of_ble_eq_true rfl) (mw_ac rfl (mw_ac rfl (mw_ac rfl mw_an))) mw_an) rfl rfl (m_rc R rfl) ((H _ R).mono (fun o hp1 H => ?_))
              obtain ⟨σ26, R, F1, x27, rfl, H⟩ := H
              replace F := F.tr F1
              exact mm_R.rt (pc' := 366) (L' := [some ((.ref 86)), some (.int i1), some (.int i2), some (.int i3), some (.int i4), some (.int (((16 : Int32) * i1) + i2)), some (.int x10)]) (st1 := [.int x27]) 0 rfl rfl rfl rfl rfl (mw_rvi (ty := .boolean) (m_fz H.1)) ⟨_, R, F, H.2⟩
            · replace H := H.2 (Decidable.of_not_not (of_decide_eq_false c))
              refine mm_R.cV (pc' := 338) (L' := [some ((.ref 86)), some (.int i1), some (.int i2), some (.int i3), some (.int i4), some (.int (((16 : Int32) * i1) + i2)), some (.int x10)]) (st1 := [.int ((27 : Int32) + (((16 : Int32) * i1) + i2)), (.ref 86)]) (as := [.int ((27 : Int32) + (((16 : Int32) * i1) + i2))]) (rest := []) 4 rfl rfl (mw_sp rfl rfl (Nat.le_of_ble_eq_true rfl) (mw_ac rfl (mw_ac rfl mw_an)) mw_an) rfl rfl (m_rc R rfl) ((H _ R).mono (fun o hp1 H => ?_))
              obtain ⟨σ28, R, F1, rfl, H⟩ := H
              replace F := F.tr F1
              refine mm_R.wgv (pc' := 342) (L' := [some ((.ref 86)), some (.int i1), some (.int i2), some (.int i3), some (.int i4), some (.int (((16 : Int32) * i1) + i2)), some (.int x10)]) (r := []) 1 rfl rfl (m_gv R rfl ?_)
              obtain ⟨hi29, H⟩ := H
              refine mm_R.wsi (pc' := 348) (L' := [some ((.ref 86)), some (.int i1), some (.int i2), some (.int i3), some (.int i4), some (.int (((16 : Int32) * i1) + i2)), some (.int x10)]) (r := []) (t := 1000) (ty := .int) 2 rfl rfl rfl rfl (m_si (i := (((16 : Int32) * i1) + i2)) (v := (3 : Int32)) R F (n := 96) (by decide) hi29 rfl (fun hp R F => ?_))
              obtain ⟨σ30, es⟩ : ∃ z, z = mPut σ28 108 (((16 : Int32) * i1) + i2) (3 : Int32) := ⟨_, rfl⟩
              rw [← es] at R
              replace H := H σ30 es
              exact mm_R.rt (pc' := 350) (L' := [some ((.ref 86)), some (.int i1), some (.int i2), some (.int i3), some (.int i4), some (.int (((16 : Int32) * i1) + i2)), some (.int x10)]) (st1 := [.int (1 : Int32)]) 1 rfl rfl rfl rfl rfl rfl ⟨_, R, F, H⟩
      · replace H := H.2 (Decidable.of_not_not (of_decide_eq_false c))
        exact mm_R.rt (pc' := 295) (L' := [some ((.ref 86)), some (.int i1), some (.int i2), some (.int i3), some (.int i4), some (.int (((16 : Int32) * i1) + i2)), o6]) (st1 := [.int (0 : Int32)]) 1 rfl rfl rfl rfl rfl rfl ⟨_, R, F, H⟩
  · replace H := H.2 (of_decide_eq_false c)
    refine mm_R.wpt (pc' := 163) (L' := [some ((.ref 86)), some (.int i1), some (.int i2), some (.int i3), some (.int i4), some (.int i5), o6]) (r := []) 6 rfl rfl (m_pt (v := ((19032 : Int32) + ((24 : Int32) * i5))) R F rfl rfl rfl (fun hp R F => ?_))
    obtain ⟨σ31, es⟩ : ∃ z, z = mSet σ 39 ((19032 : Int32) + ((24 : Int32) * i5)) := ⟨_, rfl⟩
    rw [← es] at R
    replace H := H σ31 es
    refine mm_R.br (L' := [some ((.ref 86)), some (.int i1), some (.int i2), some (.int i3), some (.int i4), some (.int i5), o6]) (st' := []) (t := 187) (u := 173) (b := mm_cc .ge i5 i4) 3 rfl (fun c => ?_) (fun c => ?_)
    · replace H := H.1 (of_decide_eq_true c)
      refine mm_R.cV (pc' := 200) (L' := [some ((.ref 86)), some (.int i1), some (.int i2), some (.int i3), some (.int i4), some (.int i5), o6]) (st1 := [.int ((137 : Int32) + i5), .int ((133 : Int32) + i5), (.ref 86)]) (as := [.int ((133 : Int32) + i5), .int ((137 : Int32) + i5)]) (rest := []) 7 rfl rfl (mw_sp rfl rfl (Nat.le_of_ble_eq_true rfl) (mw_ac rfl (mw_ac rfl (mw_ac rfl mw_an))) mw_an) rfl rfl (m_rc R rfl) ((H _ R).mono (fun o hp1 H => ?_))
      obtain ⟨σ32, R, F1, rfl, H⟩ := H
      replace F := F.tr F1
      exact mm_R.pn (pc' := 147) (L' := [some ((.ref 86)), some (.int i1), some (.int i2), some (.int i3), some (.int i4), some (.int (i5 + (1 : Int32))), o6]) (st' := []) 3 rfl (H.use R F)
    · replace H := H.2 (of_decide_eq_false c)
      refine mm_R.wgv (pc' := 174) (L' := [some ((.ref 86)), some (.int i1), some (.int i2), some (.int i3), some (.int i4), some (.int i5), o6]) (r := []) 1 rfl rfl (m_gv R rfl ?_)
      obtain ⟨hi33, H⟩ := H
      refine mm_R.wai (pc' := 183) (L' := [some ((.ref 86)), some (.int i1), some (.int i2), some (.int i3), some (.int i4), some (.int i5), o6]) (r := []) (t := 1000) 5 rfl rfl rfl rfl (m_ai (i := (((4 : Int32) * i1) + i5)) R (n := 30) (by decide) hi33 ?_)
      refine mm_R.br (L' := [some ((.ref 86)), some (.int i1), some (.int i2), some (.int i3), some (.int i4), some (.int i5), o6]) (st' := []) (t := 206) (u := 187) (b := mm_cc .ge (mGet σ31 105 (((4 : Int32) * i1) + i5)) (0 : Int32)) 1 rfl (fun c => ?_) (fun c => ?_)
      · replace H := H.1 (of_decide_eq_true c)
        refine mm_R.cV (pc' := 228) (L' := [some ((.ref 86)), some (.int i1), some (.int i2), some (.int i3), some (.int i4), some (.int i5), o6]) (st1 := [.int ((137 : Int32) + i5), .int ((133 : Int32) + i5), .int (133 : Int32), .int (((4 : Int32) * i1) + i5), (.ref 86)]) (as := [.int (((4 : Int32) * i1) + i5), .int (133 : Int32), .int ((133 : Int32) + i5), .int ((137 : Int32) + i5)]) (rest := []) 13 rfl rfl (mw_sp rfl rfl (Nat.le_of_ble_eq_true rfl) (mw_ac rfl (mw_ac rfl (mw_ac rfl (mw_ac rfl (mw_ac rfl mw_an))))) mw_an) rfl rfl (m_rc R rfl) ((H _ R).mono (fun o hp1 H => ?_))
        obtain ⟨σ34, R, F1, x35, rfl, H⟩ := H
        replace F := F.tr F1
        refine mm_R.br (L' := [some ((.ref 86)), some (.int i1), some (.int i2), some (.int i3), some (.int i4), some (.int i5), o6]) (st' := []) (t := 236) (u := 234) (b := mm_cc .ne x35 (0 : Int32)) 1 rfl (fun c => ?_) (fun c => ?_)
        · replace H := H.1 (of_decide_eq_true c)
          exact mm_R.pn (pc' := 147) (L' := [some ((.ref 86)), some (.int i1), some (.int i2), some (.int i3), some (.int i4), some (.int (i5 + (1 : Int32))), o6]) (st' := []) 2 rfl (H.use R F)
        · replace H := H.2 (Decidable.of_not_not (of_decide_eq_false c))
          exact mm_R.rt (pc' := 235) (L' := [some ((.ref 86)), some (.int i1), some (.int i2), some (.int i3), some (.int i4), some (.int i5), o6]) (st1 := [.int (0 : Int32)]) 1 rfl rfl rfl rfl rfl rfl ⟨_, R, F, H⟩
      · replace H := H.2 (of_decide_eq_false c)
        refine mm_R.cV (pc' := 200) (L' := [some ((.ref 86)), some (.int i1), some (.int i2), some (.int i3), some (.int i4), some (.int i5), o6]) (st1 := [.int ((137 : Int32) + i5), .int ((133 : Int32) + i5), (.ref 86)]) (as := [.int ((133 : Int32) + i5), .int ((137 : Int32) + i5)]) (rest := []) 7 rfl rfl (mw_sp rfl rfl (Nat.le_of_ble_eq_true rfl) (mw_ac rfl (mw_ac rfl (mw_ac rfl mw_an))) mw_an) rfl rfl (m_rc R rfl) ((H _ R).mono (fun o hp1 H => ?_))
        obtain ⟨σ36, R, F1, rfl, H⟩ := H
        replace F := F.tr F1
        exact mm_R.pn (pc' := 147) (L' := [some ((.ref 86)), some (.int i1), some (.int i2), some (.int i3), some (.int i4), some (.int (i5 + (1 : Int32))), o6]) (st' := []) 3 rfl (H.use R F)
