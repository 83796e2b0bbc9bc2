-- StepRunnerModel.choice, from 0
set_option maxRecDepth 10000 in
theorem u177_0 {X : List Int32} {d : Nat} {i1 : Int32} {i2 : Int32} {i3 : Int32} {i4 : Int32} {σ : mS} {Q : Option Value → mS → Prop} (H : (0 ≤ i1 ∧ Int32.toNatClampNeg i1 < 6) ∧ ((¬ (mGet σ 98 i1) = (0 : Int32) → mM X (d + 1) 177 17 [some ((.ref 86)), some (.int i1), some (.int i2), some (.int i3), some (.int i4), some (.int i2), some (.int (3 : Int32))] [] σ Q) ∧ ((mGet σ 98 i1) = (0 : Int32) → Q (some (.int i2)) σ))) : mM X (d + 1) 177 0 (mm_L0 177 [(.ref 86), .int i1, .int i2, .int i3, .int i4]) [] σ Q := by
  intro hp R
  have F : mF hp hp := mF.rf
  show mm_R X (d + 1) 177 0 [some ((.ref 86)), some (.int i1), some (.int i2), some (.int i3), some (.int i4), none, none] [] hp (mQ hp Q)
  refine mm_R.wgv (pc' := 1) (L' := [some ((.ref 86)), some (.int i1), some (.int i2), some (.int i3), some (.int i4), none, none]) (r := []) 1 rfl rfl (m_gv R rfl ?_)
  obtain ⟨hi1, H⟩ := H
  refine mm_R.wai (pc' := 5) (L' := [some ((.ref 86)), some (.int i1), some (.int i2), some (.int i3), some (.int i4), none, none]) (r := []) (t := 1000) 1 rfl rfl rfl rfl (m_ai (i := i1) R (n := 6) (by decide) hi1 ?_)
  refine mm_R.br (L' := [some ((.ref 86)), some (.int i1), some (.int i2), some (.int i3), some (.int i4), none, none]) (st' := []) (t := 11) (u := 9) (b := mm_cc .ne (mGet σ 98 i1) (0 : Int32)) 1 rfl (fun c => ?_) (fun c => ?_)
  · replace H := H.1 (of_decide_eq_true c)
    exact mm_R.pn (pc' := 17) (L' := [some ((.ref 86)), some (.int i1), some (.int i2), some (.int i3), some (.int i4), some (.int i2), some (.int (3 : Int32))]) (st' := []) 4 rfl (H.use R F)
  · replace H := H.2 (Decidable.of_not_not (of_decide_eq_false c))
    exact mm_R.rt (pc' := 10) (L' := [some ((.ref 86)), some (.int i1), some (.int i2), some (.int i3), some (.int i4), none, none]) (st1 := [.int i2]) 1 rfl rfl rfl rfl rfl rfl ⟨_, R, F, H⟩
-- StepRunnerModel.choice, from 17
set_option maxRecDepth 10000 in
theorem u177_17 {X : List Int32} {d : Nat} {i1 : Int32} {i2 : Int32} {i3 : Int32} {i4 : Int32} {i5 : Int32} {i6 : Int32} {σ : mS} {Q : Option Value → mS → Prop} (H : ((i6 ≤ i4 → mM X d 123 0 (mm_L0 123 [.int ((129 : Int32) + i4)]) [] σ (mi_K (fun x2 σ1 => mM X d 143 0 (mm_L0 143 [(.ref 86), .int ((129 : Int32) + i4)]) [] σ1 (mi_K (fun x4 σ3 => mM X d 146 0 (mm_L0 146 [(.ref 86), .int x2, .int x4]) [] σ3 (mi_K (fun x6 σ5 => ¬ x6 = (0 : Int32) ∧ (Q (some (.int (i5 - i5 / x6 * x6))) σ5)))))))) ∧ (¬ i6 ≤ i4 → ((¬ ((i3 >>> (i6 &&& 31)) &&& (1 : Int32)) = (1 : Int32) → mM X (d + 1) 177 17 [some ((.ref 86)), some (.int i1), some (.int i2), some (.int i3), some (.int i4), some (.int i5), some (.int (i6 + (-1 : Int32)))] [] σ Q) ∧ (((i3 >>> (i6 &&& 31)) &&& (1 : Int32)) = (1 : Int32) → mM X d 123 0 (mm_L0 123 [.int ((129 : Int32) + i6)]) [] σ (mi_K (fun x9 σ8 => mM X d 143 0 (mm_L0 143 [(.ref 86), .int ((129 : Int32) + i6)]) [] σ8 (mi_K (fun x11 σ10 => mM X d 146 0 (mm_L0 146 [(.ref 86), .int x9, .int x11]) [] σ10 (mi_K (fun x13 σ12 => ¬ x13 = (0 : Int32) ∧ (mM X (d + 1) 177 17 [some ((.ref 86)), some (.int i1), some (.int i2), some (.int i3), some (.int i4), some (.int (i5 / x13)), some (.int (i6 + (-1 : Int32)))] [] σ12 Q)))))))))))) : mM X (d + 1) 177 17 [some ((.ref 86)), some (.int i1), some (.int i2), some (.int i3), some (.int i4), some (.int i5), some (.int i6)] [] σ Q := by
  intro hp R
  have F : mF hp hp := mF.rf
  refine mm_R.br (L' := [some ((.ref 86)), some (.int i1), some (.int i2), some (.int i3), some (.int i4), some (.int i5), some (.int i6)]) (st' := []) (t := 68) (u := 24) (b := mm_cc .le i6 i4) 3 rfl (fun c => ?_) (fun c => ?_)
  · replace H := H.1 (of_decide_eq_true c)
    refine mm_R.cS (pc' := 77) (L' := [some ((.ref 86)), some (.int i1), some (.int i2), some (.int i3), some (.int i4), some (.int i5), some (.int i6)]) (st1 := [.int ((129 : Int32) + i4), (.ref 86), .int i5]) (as := [.int ((129 : Int32) + i4)]) (rest := [(.ref 86), .int i5]) 5 rfl rfl (mw_sp rfl rfl (Nat.le_of_ble_eq_true rfl) (mw_ac rfl mw_an) (mw_ac rfl (mw_ac rfl mw_an))) rfl rfl ((H _ R).mono (fun o hp1 H => ?_))
    obtain ⟨σ1, R, F1, x2, rfl, H⟩ := H
    replace F := F.tr F1
    refine mm_R.cV (pc' := 87) (L' := [some ((.ref 86)), some (.int i1), some (.int i2), some (.int i3), some (.int i4), some (.int i5), some (.int i6)]) (st1 := [.int ((129 : Int32) + i4), (.ref 86), .int x2, (.ref 86), .int i5]) (as := [.int ((129 : Int32) + i4)]) (rest := [.int x2, (.ref 86), .int i5]) 4 rfl rfl (mw_sp rfl rfl (Nat.le_of_ble_eq_true rfl) (mw_ac rfl (mw_ac rfl mw_an)) (mw_ac rfl (mw_ac rfl (mw_ac rfl mw_an)))) rfl rfl (m_rc R rfl) ((H _ R).mono (fun o hp1 H => ?_))
    obtain ⟨σ3, R, F1, x4, rfl, H⟩ := H
    replace F := F.tr F1
    refine mm_R.cV (pc' := 90) (L' := [some ((.ref 86)), some (.int i1), some (.int i2), some (.int i3), some (.int i4), some (.int i5), some (.int i6)]) (st1 := [.int x4, .int x2, (.ref 86), .int i5]) (as := [.int x2, .int x4]) (rest := [.int i5]) 0 rfl rfl (mw_sp rfl rfl (Nat.le_of_ble_eq_true rfl) (mw_ac rfl (mw_ac rfl (mw_ac rfl mw_an))) (mw_ac rfl mw_an)) rfl rfl (m_rc R rfl) ((H _ R).mono (fun o hp1 H => ?_))
    obtain ⟨σ5, R, F1, x6, rfl, H⟩ := H
    replace F := F.tr F1
    obtain ⟨hz7, H⟩ := H
    refine mm_R.dv (pc' := 93) (L' := [some ((.ref 86)), some (.int i1), some (.int i2), some (.int i3), some (.int i4), some (.int i5), some (.int i6)]) (r := []) (x := i5) (y := x6) (f := fun x y => x - x / y * y) 0 rfl rfl rfl hz7 ?_
    exact mm_R.rt (pc' := 94) (L' := [some ((.ref 86)), some (.int i1), some (.int i2), some (.int i3), some (.int i4), some (.int i5), some (.int i6)]) (st1 := [.int (i5 - i5 / x6 * x6)]) 0 rfl rfl rfl rfl rfl rfl ⟨_, R, F, H⟩
  · replace H := H.2 (of_decide_eq_false c)
    refine mm_R.br (L' := [some ((.ref 86)), some (.int i1), some (.int i2), some (.int i3), some (.int i4), some (.int i5), some (.int i6)]) (st' := []) (t := 62) (u := 34) (b := mm_cc .ne ((i3 >>> (i6 &&& 31)) &&& (1 : Int32)) (1 : Int32)) 7 rfl (fun c => ?_) (fun c => ?_)
    · replace H := H.1 (of_decide_eq_true c)
      exact mm_R.pn (pc' := 17) (L' := [some ((.ref 86)), some (.int i1), some (.int i2), some (.int i3), some (.int i4), some (.int i5), some (.int (i6 + (-1 : Int32)))]) (st' := []) 2 rfl (H.use R F)
    · replace H := H.2 (Decidable.of_not_not (of_decide_eq_false c))
      refine mm_R.cS (pc' := 43) (L' := [some ((.ref 86)), some (.int i1), some (.int i2), some (.int i3), some (.int i4), some (.int i5), some (.int i6)]) (st1 := [.int ((129 : Int32) + i6), (.ref 86), .int i5]) (as := [.int ((129 : Int32) + i6)]) (rest := [(.ref 86), .int i5]) 5 rfl rfl (mw_sp rfl rfl (Nat.le_of_ble_eq_true rfl) (mw_ac rfl mw_an) (mw_ac rfl (mw_ac rfl mw_an))) rfl rfl ((H _ R).mono (fun o hp1 H => ?_))
      obtain ⟨σ8, R, F1, x9, rfl, H⟩ := H
      replace F := F.tr F1
      refine mm_R.cV (pc' := 53) (L' := [some ((.ref 86)), some (.int i1), some (.int i2), some (.int i3), some (.int i4), some (.int i5), some (.int i6)]) (st1 := [.int ((129 : Int32) + i6), (.ref 86), .int x9, (.ref 86), .int i5]) (as := [.int ((129 : Int32) + i6)]) (rest := [.int x9, (.ref 86), .int i5]) 4 rfl rfl (mw_sp rfl rfl (Nat.le_of_ble_eq_true rfl) (mw_ac rfl (mw_ac rfl mw_an)) (mw_ac rfl (mw_ac rfl (mw_ac rfl mw_an)))) rfl rfl (m_rc R rfl) ((H _ R).mono (fun o hp1 H => ?_))
      obtain ⟨σ10, R, F1, x11, rfl, H⟩ := H
      replace F := F.tr F1
      refine mm_R.cV (pc' := 56) (L' := [some ((.ref 86)), some (.int i1), some (.int i2), some (.int i3), some (.int i4), some (.int i5), some (.int i6)]) (st1 := [.int x11, .int x9, (.ref 86), .int i5]) (as := [.int x9, .int x11]) (rest := [.int i5]) 0 rfl rfl (mw_sp rfl rfl (Nat.le_of_ble_eq_true rfl) (mw_ac rfl (mw_ac rfl (mw_ac rfl mw_an))) (mw_ac rfl mw_an)) rfl rfl (m_rc R rfl) ((H _ R).mono (fun o hp1 H => ?_))
      obtain ⟨σ12, R, F1, x13, rfl, H⟩ := H
      replace F := F.tr F1
      obtain ⟨hz14, H⟩ := H
      refine mm_R.dv (pc' := 59) (L' := [some ((.ref 86)), some (.int i1), some (.int i2), some (.int i3), some (.int i4), some (.int i5), some (.int i6)]) (r := []) (x := i5) (y := x13) (f := fun x y => x / y) 0 rfl rfl rfl hz14 ?_
      exact mm_R.pn (pc' := 17) (L' := [some ((.ref 86)), some (.int i1), some (.int i2), some (.int i3), some (.int i4), some (.int (i5 / x13)), some (.int (i6 + (-1 : Int32)))]) (st' := []) 3 rfl (H.use R F)
-- StepRunnerModel.element, from 0
set_option maxRecDepth 10000 in
theorem u178_0 {X : List Int32} {d : Nat} {i1 : Int32} {i2 : Int32} {i3 : Int32} {σ : mS} {Q : Option Value → mS → Prop} (H : mM X (d + 1) 178 8 [some ((.ref 86)), some (.int i1), some (.int i2), some (.int i3), some (.int (i1 + (1 : Int32))), some (.int (0 : Int32))] [] σ Q) : mM X (d + 1) 178 0 (mm_L0 178 [(.ref 86), .int i1, .int i2, .int i3]) [] σ Q := by
  intro hp R
  have F : mF hp hp := mF.rf
  show mm_R X (d + 1) 178 0 [some ((.ref 86)), some (.int i1), some (.int i2), some (.int i3), none, none] [] hp (mQ hp Q)
  exact mm_R.pn (pc' := 8) (L' := [some ((.ref 86)), some (.int i1), some (.int i2), some (.int i3), some (.int (i1 + (1 : Int32))), some (.int (0 : Int32))]) (st' := []) 6 rfl (H.use R F)
-- StepRunnerModel.element, from 8
set_option maxRecDepth 10000 in
theorem u178_8 {X : List Int32} {d : Nat} {i1 : Int32} {i2 : Int32} {i3 : Int32} {i4 : Int32} {i5 : Int32} {σ : mS} {Q : Option Value → mS → Prop} (H : ((i3 ≤ i5 → Q (some (.int i4)) σ) ∧ (¬ i3 ≤ i5 → mM X d 147 0 (mm_L0 147 [(.ref 86), .int i4, .int i2]) [] σ (mi_K (fun x2 σ1 => mM X (d + 1) 178 8 [some ((.ref 86)), some (.int i1), some (.int i2), some (.int i3), some (.int x2), some (.int (i5 + (1 : Int32)))] [] σ1 Q))))) : mM X (d + 1) 178 8 [some ((.ref 86)), some (.int i1), some (.int i2), some (.int i3), some (.int i4), some (.int i5)] [] σ Q := by
  intro hp R
  have F : mF hp hp := mF.rf
  refine mm_R.br (L' := [some ((.ref 86)), some (.int i1), some (.int i2), some (.int i3), some (.int i4), some (.int i5)]) (st' := []) (t := 29) (u := 14) (b := mm_cc .ge i5 i3) 3 rfl (fun c => ?_) (fun c => ?_)
  · replace H := H.1 (of_decide_eq_true c)
    exact mm_R.rt (pc' := 31) (L' := [some ((.ref 86)), some (.int i1), some (.int i2), some (.int i3), some (.int i4), some (.int i5)]) (st1 := [.int i4]) 1 rfl rfl rfl rfl rfl rfl ⟨_, R, F, H⟩
  · replace H := H.2 (of_decide_eq_false c)
    refine mm_R.cV (pc' := 18) (L' := [some ((.ref 86)), some (.int i1), some (.int i2), some (.int i3), some (.int i4), some (.int i5)]) (st1 := [.int i2, .int i4, (.ref 86)]) (as := [.int i4, .int i2]) (rest := []) 3 rfl rfl (mw_sp rfl rfl (Nat.le_of_ble_eq_true rfl) (mw_ac rfl (mw_ac rfl (mw_ac rfl mw_an))) mw_an) rfl rfl (m_rc R rfl) ((H _ R).mono (fun o hp1 H => ?_))
    obtain ⟨σ1, R, F1, x2, rfl, H⟩ := H
    replace F := F.tr F1
    exact mm_R.pn (pc' := 8) (L' := [some ((.ref 86)), some (.int i1), some (.int i2), some (.int i3), some (.int x2), some (.int (i5 + (1 : Int32)))]) (st' := []) 3 rfl (H.use R F)
-- StepRunnerModel.ruled, from 0
set_option maxRecDepth 10000 in
theorem u179_0 {X : List Int32} {d : Nat} {i1 : Int32} {i2 : Int32} {i3 : Int32} {i4 : Int32} {σ : mS} {Q : Option Value → mS → Prop} (H : (0 ≤ i1 ∧ Int32.toNatClampNeg i1 < 30) ∧ mM X d 121 0 (mm_L0 121 [(.ref 86), .int i4]) [] σ (m0_K (fun σ2 => mM X d 180 0 (mm_L0 180 [(.ref 86), .int i1, .int (0 : Int32)]) [] σ2 (mi_K (fun x4 σ3 => ((¬ x4 = (36 : Int32) → mM X (d + 1) 179 48 [some ((.ref 86)), some (.int i1), some (.int i2), some (.int i3), some (.int i4), some (.int (mGet σ 105 i1)), none, none] [.int (0 : Int32)] σ3 Q) ∧ (x4 = (36 : Int32) → mM X d 180 0 (mm_L0 180 [(.ref 86), .int i1, .int (1 : Int32)]) [] σ3 (mi_K (fun x6 σ5 => ((¬ x6 = (40 : Int32) → mM X (d + 1) 179 48 [some ((.ref 86)), some (.int i1), some (.int i2), some (.int i3), some (.int i4), some (.int (mGet σ 105 i1)), none, none] [.int (0 : Int32)] σ5 Q) ∧ (x6 = (40 : Int32) → mM X d 181 0 (mm_L0 181 [(.ref 86), .int i1, .int (0 : Int32), .int i2, .int i3]) [] σ5 (mi_K (fun x8 σ7 => mM X (d + 1) 179 48 [some ((.ref 86)), some (.int i1), some (.int i2), some (.int i3), some (.int i4), some (.int (mGet σ 105 i1)), none, none] [.int x8] σ7 Q))))))))))))) : mM X (d + 1) 179 0 (mm_L0 179 [(.ref 86), .int i1, .int i2, .int i3, .int i4]) [] σ Q := by
  intro hp R
  have F : mF hp hp := mF.rf
  show mm_R X (d + 1) 179 0 [some ((.ref 86)), some (.int i1), some (.int i2), some (.int i3), some (.int i4), none, none, none] [] hp (mQ hp Q)
  refine mm_R.wgv (pc' := 1) (L' := [some ((.ref 86)), some (.int i1), some (.int i2), some (.int i3), some (.int i4), none, none, none]) (r := []) 1 rfl rfl (m_gv R rfl ?_)
  obtain ⟨hi1, H⟩ := H
  refine mm_R.wai (pc' := 5) (L' := [some ((.ref 86)), some (.int i1), some (.int i2), some (.int i3), some (.int i4), none, none, none]) (r := []) (t := 1000) 1 rfl rfl rfl rfl (m_ai (i := i1) R (n := 30) (by decide) hi1 ?_)
  refine mm_R.cV (pc' := 11) (L' := [some ((.ref 86)), some (.int i1), some (.int i2), some (.int i3), some (.int i4), some (.int (mGet σ 105 i1)), none, none]) (st1 := [.int i4, (.ref 86)]) (as := [.int i4]) (rest := []) 3 rfl rfl (mw_sp rfl rfl (Nat.le_of_ble_eq_true rfl) (mw_ac rfl (mw_ac rfl mw_an)) mw_an) rfl rfl (m_rc R rfl) ((H _ R).mono (fun o hp1 H => ?_))
  obtain ⟨σ2, R, F1, rfl, H⟩ := H
  replace F := F.tr F1
  refine mm_R.cV (pc' := 17) (L' := [some ((.ref 86)), some (.int i1), some (.int i2), some (.int i3), some (.int i4), some (.int (mGet σ 105 i1)), none, none]) (st1 := [.int (0 : Int32), .int i1, (.ref 86)]) (as := [.int i1, .int (0 : Int32)]) (rest := []) 3 rfl rfl (mw_sp rfl rfl (Nat.le_of_ble_eq_true rfl) (mw_ac rfl (mw_ac rfl (mw_ac rfl mw_an))) mw_an) rfl rfl (m_rc R rfl) ((H _ R).mono (fun o hp1 H => ?_))
  obtain ⟨σ3, R, F1, x4, rfl, H⟩ := H
  replace F := F.tr F1
  refine mm_R.br (L' := [some ((.ref 86)), some (.int i1), some (.int i2), some (.int i3), some (.int i4), some (.int (mGet σ 105 i1)), none, none]) (st' := []) (t := 47) (u := 25) (b := mm_cc .ne x4 (36 : Int32)) 2 rfl (fun c => ?_) (fun c => ?_)
  · replace H := H.1 (of_decide_eq_true c)
    exact mm_R.pn (pc' := 48) (L' := [some ((.ref 86)), some (.int i1), some (.int i2), some (.int i3), some (.int i4), some (.int (mGet σ 105 i1)), none, none]) (st' := [.int (0 : Int32)]) 1 rfl (H.use R F)
  · replace H := H.2 (Decidable.of_not_not (of_decide_eq_false c))
    refine mm_R.cV (pc' := 28) (L' := [some ((.ref 86)), some (.int i1), some (.int i2), some (.int i3), some (.int i4), some (.int (mGet σ 105 i1)), none, none]) (st1 := [.int (1 : Int32), .int i1, (.ref 86)]) (as := [.int i1, .int (1 : Int32)]) (rest := []) 3 rfl rfl (mw_sp rfl rfl (Nat.le_of_ble_eq_true rfl) (mw_ac rfl (mw_ac rfl (mw_ac rfl mw_an))) mw_an) rfl rfl (m_rc R rfl) ((H _ R).mono (fun o hp1 H => ?_))
    obtain ⟨σ5, R, F1, x6, rfl, H⟩ := H
    replace F := F.tr F1
    refine mm_R.br (L' := [some ((.ref 86)), some (.int i1), some (.int i2), some (.int i3), some (.int i4), some (.int (mGet σ 105 i1)), none, none]) (st' := []) (t := 47) (u := 36) (b := mm_cc .ne x6 (40 : Int32)) 2 rfl (fun c => ?_) (fun c => ?_)
    · replace H := H.1 (of_decide_eq_true c)
      exact mm_R.pn (pc' := 48) (L' := [some ((.ref 86)), some (.int i1), some (.int i2), some (.int i3), some (.int i4), some (.int (mGet σ 105 i1)), none, none]) (st' := [.int (0 : Int32)]) 1 rfl (H.use R F)
    · replace H := H.2 (Decidable.of_not_not (of_decide_eq_false c))
      refine mm_R.cV (pc' := 41) (L' := [some ((.ref 86)), some (.int i1), some (.int i2), some (.int i3), some (.int i4), some (.int (mGet σ 105 i1)), none, none]) (st1 := [.int i3, .int i2, .int (0 : Int32), .int i1, (.ref 86)]) (as := [.int i1, .int (0 : Int32), .int i2, .int i3]) (rest := []) 5 rfl rfl (mw_sp rfl rfl (Nat.le_of_ble_eq_true rfl) (mw_ac rfl (mw_ac rfl (mw_ac rfl (mw_ac rfl (mw_ac rfl mw_an))))) mw_an) rfl rfl (m_rc R rfl) ((H _ R).mono (fun o hp1 H => ?_))
      obtain ⟨σ7, R, F1, x8, rfl, H⟩ := H
      replace F := F.tr F1
      exact mm_R.pn (pc' := 48) (L' := [some ((.ref 86)), some (.int i1), some (.int i2), some (.int i3), some (.int i4), some (.int (mGet σ 105 i1)), none, none]) (st' := [.int x8]) 1 rfl (H.use R F)
-- StepRunnerModel.ruled, from 48
set_option maxRecDepth 10000 in
theorem u179_48 {X : List Int32} {d : Nat} {i1 : Int32} {i2 : Int32} {i3 : Int32} {i4 : Int32} {i5 : Int32} {o6 : Option Value} {o7 : Option Value} {s0 : Int32} {σ : mS} {Q : Option Value → mS → Prop} (H : ((¬ s0 = i5 → ∀ σ1, σ1 = mSet σ 40 (0 : Int32) → ∀ σ2, σ2 = mSet σ1 43 (1 : Int32) → mM X (d + 1) 179 153 [some ((.ref 86)), some (.int i1), some (.int i2), some (.int i3), some (.int i4), some (.int i5), some (.int s0), some (.int (0 : Int32))] [] σ2 Q) ∧ (s0 = i5 → ((i5 ≤ (0 : Int32) → ∀ σ3, σ3 = mSet σ 40 (0 : Int32) → ∀ σ4, σ4 = mSet σ3 43 (1 : Int32) → mM X (d + 1) 179 153 [some ((.ref 86)), some (.int i1), some (.int i2), some (.int i3), some (.int i4), some (.int i5), some (.int s0), some (.int (0 : Int32))] [] σ4 Q) ∧ (¬ i5 ≤ (0 : Int32) → ((¬ (σ.1 35) = (-2 : Int32) → (((σ.1 35) < (0 : Int32) → ((¬ (σ.1 35) = (-1 : Int32) → mM X (d + 1) 179 118 [some ((.ref 86)), some (.int i1), some (.int i2), some (.int i3), some (.int i4), some (.int i5), some (.int s0), o7] [.int (0 : Int32), .int i4, (.ref 86)] σ Q) ∧ ((σ.1 35) = (-1 : Int32) → mM X (d + 1) 179 118 [some ((.ref 86)), some (.int i1), some (.int i2), some (.int i3), some (.int i4), some (.int i5), some (.int s0), o7] [.int (1 : Int32), .int i4, (.ref 86)] σ Q))) ∧ (¬ (σ.1 35) < (0 : Int32) → mM X d 143 0 (mm_L0 143 [(.ref 86), .int (σ.1 38)]) [] σ (mi_K (fun x6 σ5 => mM X d 150 0 (mm_L0 150 [(.ref 86), .int (σ.1 35), .int x6, .int i4, .int (0 : Int32)]) [] σ5 (m0_K (fun σ7 => Q (some (.int (1 : Int32))) σ7))))))) ∧ ((σ.1 35) = (-2 : Int32) → Q (some (.int (0 : Int32))) σ))))))) : mM X (d + 1) 179 48 [some ((.ref 86)), some (.int i1), some (.int i2), some (.int i3), some (.int i4), some (.int i5), o6, o7] [.int s0] σ Q := by
  intro hp R
  have F : mF hp hp := mF.rf
  refine mm_R.br (L' := [some ((.ref 86)), some (.int i1), some (.int i2), some (.int i3), some (.int i4), some (.int i5), some (.int s0), o7]) (st' := []) (t := 140) (u := 57) (b := mm_cc .ne s0 i5) 4 rfl (fun c => ?_) (fun c => ?_)
  · replace H := H.1 (of_decide_eq_true c)
    refine mm_R.wpt (pc' := 142) (L' := [some ((.ref 86)), some (.int i1), some (.int i2), some (.int i3), some (.int i4), some (.int i5), some (.int s0), o7]) (r := []) 2 rfl rfl (m_pt (v := (0 : Int32)) R F rfl rfl rfl (fun hp R F => ?_))
    obtain ⟨σ1, es⟩ : ∃ z, z = mSet σ 40 (0 : Int32) := ⟨_, rfl⟩
    rw [← es] at R
    replace H := H σ1 es
    refine mm_R.wpt (pc' := 147) (L' := [some ((.ref 86)), some (.int i1), some (.int i2), some (.int i3), some (.int i4), some (.int i5), some (.int s0), o7]) (r := []) 2 rfl rfl (m_pt (v := (1 : Int32)) R F rfl rfl rfl (fun hp R F => ?_))
    obtain ⟨σ2, es⟩ : ∃ z, z = mSet σ1 43 (1 : Int32) := ⟨_, rfl⟩
    rw [← es] at R
    replace H := H σ2 es
    exact mm_R.pn (pc' := 153) (L' := [some ((.ref 86)), some (.int i1), some (.int i2), some (.int i3), some (.int i4), some (.int i5), some (.int s0), some (.int (0 : Int32))]) (st' := []) 2 rfl (H.use R F)
  · replace H := H.2 (Decidable.of_not_not (of_decide_eq_false c))
    refine mm_R.br (L' := [some ((.ref 86)), some (.int i1), some (.int i2), some (.int i3), some (.int i4), some (.int i5), some (.int s0), o7]) (st' := []) (t := 140) (u := 62) (b := mm_cc .le i5 (0 : Int32)) 2 rfl (fun c => ?_) (fun c => ?_)
    · replace H := H.1 (of_decide_eq_true c)
      refine mm_R.wpt (pc' := 142) (L' := [some ((.ref 86)), some (.int i1), some (.int i2), some (.int i3), some (.int i4), some (.int i5), some (.int s0), o7]) (r := []) 2 rfl rfl (m_pt (v := (0 : Int32)) R F rfl rfl rfl (fun hp R F => ?_))
      obtain ⟨σ3, es⟩ : ∃ z, z = mSet σ 40 (0 : Int32) := ⟨_, rfl⟩
      rw [← es] at R
      replace H := H σ3 es
      refine mm_R.wpt (pc' := 147) (L' := [some ((.ref 86)), some (.int i1), some (.int i2), some (.int i3), some (.int i4), some (.int i5), some (.int s0), o7]) (r := []) 2 rfl rfl (m_pt (v := (1 : Int32)) R F rfl rfl rfl (fun hp R F => ?_))
      obtain ⟨σ4, es⟩ : ∃ z, z = mSet σ3 43 (1 : Int32) := ⟨_, rfl⟩
      rw [← es] at R
      replace H := H σ4 es
      exact mm_R.pn (pc' := 153) (L' := [some ((.ref 86)), some (.int i1), some (.int i2), some (.int i3), some (.int i4), some (.int i5), some (.int s0), some (.int (0 : Int32))]) (st' := []) 2 rfl (H.use R F)
    · replace H := H.2 (of_decide_eq_false c)
      refine mm_R.wgi (pc' := 63) (L' := [some ((.ref 86)), some (.int i1), some (.int i2), some (.int i3), some (.int i4), some (.int i5), some (.int s0), o7]) (r := []) 1 rfl rfl (m_gi R rfl ?_)
      refine mm_R.br (L' := [some ((.ref 86)), some (.int i1), some (.int i2), some (.int i3), some (.int i4), some (.int i5), some (.int s0), o7]) (st' := []) (t := 73) (u := 71) (b := mm_cc .ne (σ.1 35) (-2 : Int32)) 2 rfl (fun c => ?_) (fun c => ?_)
      · replace H := H.1 (of_decide_eq_true c)
        refine mm_R.wgi (pc' := 74) (L' := [some ((.ref 86)), some (.int i1), some (.int i2), some (.int i3), some (.int i4), some (.int i5), some (.int s0), o7]) (r := []) 1 rfl rfl (m_gi R rfl ?_)
        refine mm_R.br (L' := [some ((.ref 86)), some (.int i1), some (.int i2), some (.int i3), some (.int i4), some (.int i5), some (.int s0), o7]) (st' := []) (t := 102) (u := 80) (b := mm_cc .lt (σ.1 35) (0 : Int32)) 1 rfl (fun c => ?_) (fun c => ?_)
        · replace H := H.1 (of_decide_eq_true c)
          refine mm_R.wgi (pc' := 106) (L' := [some ((.ref 86)), some (.int i1), some (.int i2), some (.int i3), some (.int i4), some (.int i5), some (.int s0), o7]) (r := [.int i4, (.ref 86)]) 3 rfl rfl (m_gi R rfl ?_)
          refine mm_R.br (L' := [some ((.ref 86)), some (.int i1), some (.int i2), some (.int i3), some (.int i4), some (.int i5), some (.int s0), o7]) (st' := [.int i4, (.ref 86)]) (t := 117) (u := 113) (b := mm_cc .ne (σ.1 35) (-1 : Int32)) 2 rfl (fun c => ?_) (fun c => ?_)
          · replace H := H.1 (of_decide_eq_true c)
            exact mm_R.pn (pc' := 118) (L' := [some ((.ref 86)), some (.int i1), some (.int i2), some (.int i3), some (.int i4), some (.int i5), some (.int s0), o7]) (st' := [.int (0 : Int32), .int i4, (.ref 86)]) 1 rfl (H.use R F)
          · replace H := H.2 (Decidable.of_not_not (of_decide_eq_false c))
            exact mm_R.pn (pc' := 118) (L' := [some ((.ref 86)), some (.int i1), some (.int i2), some (.int i3), some (.int i4), some (.int i5), some (.int s0), o7]) (st' := [.int (1 : Int32), .int i4, (.ref 86)]) 2 rfl (H.use R F)
        · replace H := H.2 (of_decide_eq_false c)
          refine mm_R.wgi (pc' := 82) (L' := [some ((.ref 86)), some (.int i1), some (.int i2), some (.int i3), some (.int i4), some (.int i5), some (.int s0), o7]) (r := [(.ref 86)]) 2 rfl rfl (m_gi R rfl ?_)
          refine mm_R.wgi (pc' := 87) (L' := [some ((.ref 86)), some (.int i1), some (.int i2), some (.int i3), some (.int i4), some (.int i5), some (.int s0), o7]) (r := [(.ref 86), .int (σ.1 35), (.ref 86)]) 2 rfl rfl (m_gi R rfl ?_)
          refine mm_R.cV (pc' := 90) (L' := [some ((.ref 86)), some (.int i1), some (.int i2), some (.int i3), some (.int i4), some (.int i5), some (.int s0), o7]) (st1 := [.int (σ.1 38), (.ref 86), .int (σ.1 35), (.ref 86)]) (as := [.int (σ.1 38)]) (rest := [.int (σ.1 35), (.ref 86)]) 0 rfl rfl (mw_sp rfl rfl (Nat.le_of_ble_eq_true rfl) (mw_ac rfl (mw_ac rfl mw_an)) (mw_ac rfl (mw_ac rfl mw_an))) rfl rfl (m_rc R rfl) ((H _ R).mono (fun o hp1 H => ?_))
          obtain ⟨σ5, R, F1, x6, rfl, H⟩ := H
          replace F := F.tr F1
          refine mm_R.cV (pc' := 96) (L' := [some ((.ref 86)), some (.int i1), some (.int i2), some (.int i3), some (.int i4), some (.int i5), some (.int s0), o7]) (st1 := [.int (0 : Int32), .int i4, .int x6, .int (σ.1 35), (.ref 86)]) (as := [.int (σ.1 35), .int x6, .int i4, .int (0 : Int32)]) (rest := []) 2 rfl rfl (mw_sp rfl rfl (Nat.le_of_ble_eq_true rfl) (mw_ac rfl (mw_ac rfl (mw_ac rfl (mw_ac rfl (mw_ac rfl mw_an))))) mw_an) rfl rfl (m_rc R rfl) ((H _ R).mono (fun o hp1 H => ?_))
          obtain ⟨σ7, R, F1, rfl, H⟩ := H
          replace F := F.tr F1
          exact mm_R.rt (pc' := 139) (L' := [some ((.ref 86)), some (.int i1), some (.int i2), some (.int i3), some (.int i4), some (.int i5), some (.int s0), o7]) (st1 := [.int (1 : Int32)]) 2 rfl rfl rfl rfl rfl rfl ⟨_, R, F, H⟩
      · replace H := H.2 (Decidable.of_not_not (of_decide_eq_false c))
        exact mm_R.rt (pc' := 72) (L' := [some ((.ref 86)), some (.int i1), some (.int i2), some (.int i3), some (.int i4), some (.int i5), some (.int s0), o7]) (st1 := [.int (0 : Int32)]) 1 rfl rfl rfl rfl rfl rfl ⟨_, R, F, H⟩
-- StepRunnerModel.ruled, from 118
set_option maxRecDepth 10000 in
theorem u179_118 {X : List Int32} {d : Nat} {i1 : Int32} {i2 : Int32} {i3 : Int32} {i4 : Int32} {i5 : Int32} {i6 : Int32} {o7 : Option Value} {s0 : Int32} {s1 : Int32} {σ : mS} {Q : Option Value → mS → Prop} (H : ((¬ (σ.1 35) = (-1 : Int32) → mM X d 122 0 (mm_L0 122 [(.ref 86), .int s1, .int s0, .int (0 : Int32), .int (0 : Int32)]) [] σ (m0_K (fun σ1 => Q (some (.int (1 : Int32))) σ1))) ∧ ((σ.1 35) = (-1 : Int32) → mM X d 122 0 (mm_L0 122 [(.ref 86), .int s1, .int s0, .int (0 : Int32), .int (σ.1 36)]) [] σ (m0_K (fun σ2 => Q (some (.int (1 : Int32))) σ2))))) : mM X (d + 1) 179 118 [some ((.ref 86)), some (.int i1), some (.int i2), some (.int i3), some (.int i4), some (.int i5), some (.int i6), o7] [.int s0, .int s1, (.ref 86)] σ Q := by
  intro hp R
  have F : mF hp hp := mF.rf
  refine mm_R.wgi (pc' := 120) (L' := [some ((.ref 86)), some (.int i1), some (.int i2), some (.int i3), some (.int i4), some (.int i5), some (.int i6), o7]) (r := [.int (0 : Int32), .int s0, .int s1, (.ref 86)]) 2 rfl rfl (m_gi R rfl ?_)
  refine mm_R.br (L' := [some ((.ref 86)), some (.int i1), some (.int i2), some (.int i3), some (.int i4), some (.int i5), some (.int i6), o7]) (st' := [.int (0 : Int32), .int s0, .int s1, (.ref 86)]) (t := 134) (u := 127) (b := mm_cc .ne (σ.1 35) (-1 : Int32)) 2 rfl (fun c => ?_) (fun c => ?_)
  · replace H := H.1 (of_decide_eq_true c)
    refine mm_R.cV (pc' := 135) (L' := [some ((.ref 86)), some (.int i1), some (.int i2), some (.int i3), some (.int i4), some (.int i5), some (.int i6), o7]) (st1 := [.int (0 : Int32), .int (0 : Int32), .int s0, .int s1, (.ref 86)]) (as := [.int s1, .int s0, .int (0 : Int32), .int (0 : Int32)]) (rest := []) 1 rfl rfl (mw_sp rfl rfl (Nat.le_of_ble_eq_true rfl) (mw_ac rfl (mw_ac rfl (mw_ac rfl (mw_ac rfl (mw_ac rfl mw_an))))) mw_an) rfl rfl (m_rc R rfl) ((H _ R).mono (fun o hp1 H => ?_))
    obtain ⟨σ1, R, F1, rfl, H⟩ := H
    replace F := F.tr F1
    exact mm_R.rt (pc' := 139) (L' := [some ((.ref 86)), some (.int i1), some (.int i2), some (.int i3), some (.int i4), some (.int i5), some (.int i6), o7]) (st1 := [.int (1 : Int32)]) 1 rfl rfl rfl rfl rfl rfl ⟨_, R, F, H⟩
  · replace H := H.2 (Decidable.of_not_not (of_decide_eq_false c))
    refine mm_R.wgi (pc' := 128) (L' := [some ((.ref 86)), some (.int i1), some (.int i2), some (.int i3), some (.int i4), some (.int i5), some (.int i6), o7]) (r := [.int (0 : Int32), .int s0, .int s1, (.ref 86)]) 1 rfl rfl (m_gi R rfl ?_)
    refine mm_R.cV (pc' := 135) (L' := [some ((.ref 86)), some (.int i1), some (.int i2), some (.int i3), some (.int i4), some (.int i5), some (.int i6), o7]) (st1 := [.int (σ.1 36), .int (0 : Int32), .int s0, .int s1, (.ref 86)]) (as := [.int s1, .int s0, .int (0 : Int32), .int (σ.1 36)]) (rest := []) 1 rfl rfl (mw_sp rfl rfl (Nat.le_of_ble_eq_true rfl) (mw_ac rfl (mw_ac rfl (mw_ac rfl (mw_ac rfl (mw_ac rfl mw_an))))) mw_an) rfl rfl (m_rc R rfl) ((H _ R).mono (fun o hp1 H => ?_))
    obtain ⟨σ2, R, F1, rfl, H⟩ := H
    replace F := F.tr F1
    exact mm_R.rt (pc' := 139) (L' := [some ((.ref 86)), some (.int i1), some (.int i2), some (.int i3), some (.int i4), some (.int i5), some (.int i6), o7]) (st1 := [.int (1 : Int32)]) 1 rfl rfl rfl rfl rfl rfl ⟨_, R, F, H⟩
-- StepRunnerModel.ruled, from 153
set_option maxRecDepth 10000 in
theorem u179_153 {X : List Int32} {d : Nat} {i1 : Int32} {i2 : Int32} {i3 : Int32} {i4 : Int32} {i5 : Int32} {i6 : Int32} {i7 : Int32} {σ : mS} {Q : Option Value → mS → Prop} (H : ((i5 ≤ i7 → mM X d 139 0 (mm_L0 139 [(.ref 86), .int i4, .int (0 : Int32), .int (σ.1 39), .int (σ.1 40)]) [] σ (m0_K (fun σ1 => (((σ1.1 43) = (0 : Int32) → Q (some (.int (0 : Int32))) σ1) ∧ (¬ (σ1.1 43) = (0 : Int32) → mM X d 188 0 (mm_L0 188 [(.ref 86), .int (σ1.1 39), .int (σ1.1 40)]) [] σ1 (mi_K (fun x3 σ2 => ((x3 = (0 : Int32) → Q (some (.int (0 : Int32))) σ2) ∧ (¬ x3 = (0 : Int32) → Q (some (.int (1 : Int32))) σ2))))))))) ∧ (¬ i5 ≤ i7 → mM X d 180 0 (mm_L0 180 [(.ref 86), .int i1, .int i7]) [] σ (mi_K (fun x5 σ4 => ((¬ x5 = (36 : Int32) → mM X d 180 0 (mm_L0 180 [(.ref 86), .int i1, .int i7]) [] σ4 (mi_K (fun x7 σ6 => mM X d 184 0 (mm_L0 184 [(.ref 86), .int x7]) [] σ6 (m0_K (fun σ8 => mM X (d + 1) 179 153 [some ((.ref 86)), some (.int i1), some (.int i2), some (.int i3), some (.int i4), some (.int i5), some (.int i6), some (.int (i7 + (1 : Int32)))] [] σ8 Q))))) ∧ (x5 = (36 : Int32) → mM X d 180 0 (mm_L0 180 [(.ref 86), .int i1, .int (i7 + (1 : Int32))]) [] σ4 (mi_K (fun x10 σ9 => ((¬ x10 = (40 : Int32) → mM X d 180 0 (mm_L0 180 [(.ref 86), .int i1, .int i7]) [] σ9 (mi_K (fun x12 σ11 => mM X d 184 0 (mm_L0 184 [(.ref 86), .int x12]) [] σ11 (m0_K (fun σ13 => mM X (d + 1) 179 153 [some ((.ref 86)), some (.int i1), some (.int i2), some (.int i3), some (.int i4), some (.int i5), some (.int i6), some (.int (i7 + (1 : Int32)))] [] σ13 Q))))) ∧ (x10 = (40 : Int32) → mM X d 181 0 (mm_L0 181 [(.ref 86), .int i1, .int i7, .int i2, .int i3]) [] σ9 (mi_K (fun x15 σ14 => ((¬ (σ14.1 35) = (-2 : Int32) → (((σ14.1 35) < (0 : Int32) → ((¬ (σ14.1 35) = (-1 : Int32) → mM X d 187 0 (mm_L0 187 [(.ref 86)]) [] σ14 (m0_K (fun σ16 => mM X (d + 1) 179 153 [some ((.ref 86)), some (.int i1), some (.int i2), some (.int i3), some (.int i4), some (.int i5), some (.int i6), some (.int x15)] [] σ16 Q))) ∧ ((σ14.1 35) = (-1 : Int32) → mM X d 186 0 (mm_L0 186 [(.ref 86), .int (σ14.1 36)]) [] σ14 (m0_K (fun σ17 => mM X (d + 1) 179 153 [some ((.ref 86)), some (.int i1), some (.int i2), some (.int i3), some (.int i4), some (.int i5), some (.int i6), some (.int x15)] [] σ17 Q))))) ∧ (¬ (σ14.1 35) < (0 : Int32) → mM X d 143 0 (mm_L0 143 [(.ref 86), .int (σ14.1 38)]) [] σ14 (mi_K (fun x19 σ18 => mM X d 182 0 (mm_L0 182 [(.ref 86), .int (σ14.1 35), .int x19]) [] σ18 (m0_K (fun σ20 => mM X (d + 1) 179 153 [some ((.ref 86)), some (.int i1), some (.int i2), some (.int i3), some (.int i4), some (.int i5), some (.int i6), some (.int x15)] [] σ20 Q))))))) ∧ ((σ14.1 35) = (-2 : Int32) → Q (some (.int (0 : Int32))) σ14))))))))))))))) : mM X (d + 1) 179 153 [some ((.ref 86)), some (.int i1), some (.int i2), some (.int i3), some (.int i4), some (.int i5), some (.int i6), some (.int i7)] [] σ Q := by
  intro hp R
  have F : mF hp hp := mF.rf
  refine mm_R.br (L' := [some ((.ref 86)), some (.int i1), some (.int i2), some (.int i3), some (.int i4), some (.int i5), some (.int i6), some (.int i7)]) (st' := []) (t := 277) (u := 160) (b := mm_cc .ge i7 i5) 3 rfl (fun c => ?_) (fun c => ?_)
  · replace H := H.1 (of_decide_eq_true c)
    refine mm_R.wgi (pc' := 282) (L' := [some ((.ref 86)), some (.int i1), some (.int i2), some (.int i3), some (.int i4), some (.int i5), some (.int i6), some (.int i7)]) (r := [.int (0 : Int32), .int i4, (.ref 86)]) 4 rfl rfl (m_gi R rfl ?_)
    refine mm_R.wgi (pc' := 286) (L' := [some ((.ref 86)), some (.int i1), some (.int i2), some (.int i3), some (.int i4), some (.int i5), some (.int i6), some (.int i7)]) (r := [.int (σ.1 39), .int (0 : Int32), .int i4, (.ref 86)]) 1 rfl rfl (m_gi R rfl ?_)
    refine mm_R.cV (pc' := 289) (L' := [some ((.ref 86)), some (.int i1), some (.int i2), some (.int i3), some (.int i4), some (.int i5), some (.int i6), some (.int i7)]) (st1 := [.int (σ.1 40), .int (σ.1 39), .int (0 : Int32), .int i4, (.ref 86)]) (as := [.int i4, .int (0 : Int32), .int (σ.1 39), .int (σ.1 40)]) (rest := []) 0 rfl rfl (mw_sp rfl rfl (Nat.le_of_ble_eq_true rfl) (mw_ac rfl (mw_ac rfl (mw_ac rfl (mw_ac rfl (mw_ac rfl mw_an))))) mw_an) rfl rfl (m_rc R rfl) ((H _ R).mono (fun o hp1 H => ?_))
    obtain ⟨σ1, R, F1, rfl, H⟩ := H
    replace F := F.tr F1
    refine mm_R.wgi (pc' := 293) (L' := [some ((.ref 86)), some (.int i1), some (.int i2), some (.int i3), some (.int i4), some (.int i5), some (.int i6), some (.int i7)]) (r := []) 1 rfl rfl (m_gi R rfl ?_)
    refine mm_R.br (L' := [some ((.ref 86)), some (.int i1), some (.int i2), some (.int i3), some (.int i4), some (.int i5), some (.int i6), some (.int i7)]) (st' := []) (t := 318) (u := 299) (b := mm_cc .eq (σ1.1 43) (0 : Int32)) 1 rfl (fun c => ?_) (fun c => ?_)
    · replace H := H.1 (of_decide_eq_true c)
      exact mm_R.rt (pc' := 319) (L' := [some ((.ref 86)), some (.int i1), some (.int i2), some (.int i3), some (.int i4), some (.int i5), some (.int i6), some (.int i7)]) (st1 := [.int (0 : Int32)]) 1 rfl rfl rfl rfl rfl rfl ⟨_, R, F, H⟩
    · replace H := H.2 (of_decide_eq_false c)
      refine mm_R.wgi (pc' := 301) (L' := [some ((.ref 86)), some (.int i1), some (.int i2), some (.int i3), some (.int i4), some (.int i5), some (.int i6), some (.int i7)]) (r := [(.ref 86)]) 2 rfl rfl (m_gi R rfl ?_)
      refine mm_R.wgi (pc' := 305) (L' := [some ((.ref 86)), some (.int i1), some (.int i2), some (.int i3), some (.int i4), some (.int i5), some (.int i6), some (.int i7)]) (r := [.int (σ1.1 39), (.ref 86)]) 1 rfl rfl (m_gi R rfl ?_)
      refine mm_R.cV (pc' := 308) (L' := [some ((.ref 86)), some (.int i1), some (.int i2), some (.int i3), some (.int i4), some (.int i5), some (.int i6), some (.int i7)]) (st1 := [.int (σ1.1 40), .int (σ1.1 39), (.ref 86)]) (as := [.int (σ1.1 39), .int (σ1.1 40)]) (rest := []) 0 rfl rfl (mw_sp rfl rfl (Nat.le_of_ble_eq_true rfl) (mw_ac rfl (mw_ac rfl (mw_ac rfl mw_an))) mw_an) rfl rfl (m_rc R rfl) ((H _ R).mono (fun o hp1 H => ?_))
      obtain ⟨σ2, R, F1, x3, rfl, H⟩ := H
      replace F := F.tr F1
      refine mm_R.br (L' := [some ((.ref 86)), some (.int i1), some (.int i2), some (.int i3), some (.int i4), some (.int i5), some (.int i6), some (.int i7)]) (st' := []) (t := 318) (u := 314) (b := mm_cc .eq x3 (0 : Int32)) 1 rfl (fun c => ?_) (fun c => ?_)
      · replace H := H.1 (of_decide_eq_true c)
        exact mm_R.rt (pc' := 319) (L' := [some ((.ref 86)), some (.int i1), some (.int i2), some (.int i3), some (.int i4), some (.int i5), some (.int i6), some (.int i7)]) (st1 := [.int (0 : Int32)]) 1 rfl rfl rfl rfl rfl rfl ⟨_, R, F, H⟩
      · replace H := H.2 (of_decide_eq_false c)
        exact mm_R.rt (pc' := 319) (L' := [some ((.ref 86)), some (.int i1), some (.int i2), some (.int i3), some (.int i4), some (.int i5), some (.int i6), some (.int i7)]) (st1 := [.int (1 : Int32)]) 2 rfl rfl rfl rfl rfl rfl ⟨_, R, F, H⟩
  · replace H := H.2 (of_decide_eq_false c)
    refine mm_R.cV (pc' := 164) (L' := [some ((.ref 86)), some (.int i1), some (.int i2), some (.int i3), some (.int i4), some (.int i5), some (.int i6), some (.int i7)]) (st1 := [.int i7, .int i1, (.ref 86)]) (as := [.int i1, .int i7]) (rest := []) 3 rfl rfl (mw_sp rfl rfl (Nat.le_of_ble_eq_true rfl) (mw_ac rfl (mw_ac rfl (mw_ac rfl mw_an))) mw_an) rfl rfl (m_rc R rfl) ((H _ R).mono (fun o hp1 H => ?_))
    obtain ⟨σ4, R, F1, x5, rfl, H⟩ := H
    replace F := F.tr F1
    refine mm_R.br (L' := [some ((.ref 86)), some (.int i1), some (.int i2), some (.int i3), some (.int i4), some (.int i5), some (.int i6), some (.int i7)]) (st' := []) (t := 260) (u := 172) (b := mm_cc .ne x5 (36 : Int32)) 2 rfl (fun c => ?_) (fun c => ?_)
    · replace H := H.1 (of_decide_eq_true c)
      refine mm_R.cV (pc' := 265) (L' := [some ((.ref 86)), some (.int i1), some (.int i2), some (.int i3), some (.int i4), some (.int i5), some (.int i6), some (.int i7)]) (st1 := [.int i7, .int i1, (.ref 86), (.ref 86)]) (as := [.int i1, .int i7]) (rest := [(.ref 86)]) 4 rfl rfl (mw_sp rfl rfl (Nat.le_of_ble_eq_true rfl) (mw_ac rfl (mw_ac rfl (mw_ac rfl mw_an))) (mw_ac rfl mw_an)) rfl rfl (m_rc R rfl) ((H _ R).mono (fun o hp1 H => ?_))
      obtain ⟨σ6, R, F1, x7, rfl, H⟩ := H
      replace F := F.tr F1
      refine mm_R.cV (pc' := 268) (L' := [some ((.ref 86)), some (.int i1), some (.int i2), some (.int i3), some (.int i4), some (.int i5), some (.int i6), some (.int i7)]) (st1 := [.int x7, (.ref 86)]) (as := [.int x7]) (rest := []) 0 rfl rfl (mw_sp rfl rfl (Nat.le_of_ble_eq_true rfl) (mw_ac rfl (mw_ac rfl mw_an)) mw_an) rfl rfl (m_rc R rfl) ((H _ R).mono (fun o hp1 H => ?_))
      obtain ⟨σ8, R, F1, rfl, H⟩ := H
      replace F := F.tr F1
      exact mm_R.pn (pc' := 153) (L' := [some ((.ref 86)), some (.int i1), some (.int i2), some (.int i3), some (.int i4), some (.int i5), some (.int i6), some (.int (i7 + (1 : Int32)))]) (st' := []) 2 rfl (H.use R F)
    · replace H := H.2 (Decidable.of_not_not (of_decide_eq_false c))
      refine mm_R.cV (pc' := 178) (L' := [some ((.ref 86)), some (.int i1), some (.int i2), some (.int i3), some (.int i4), some (.int i5), some (.int i6), some (.int i7)]) (st1 := [.int (i7 + (1 : Int32)), .int i1, (.ref 86)]) (as := [.int i1, .int (i7 + (1 : Int32))]) (rest := []) 5 rfl rfl (mw_sp rfl rfl (Nat.le_of_ble_eq_true rfl) (mw_ac rfl (mw_ac rfl (mw_ac rfl mw_an))) mw_an) rfl rfl (m_rc R rfl) ((H _ R).mono (fun o hp1 H => ?_))
      obtain ⟨σ9, R, F1, x10, rfl, H⟩ := H
      replace F := F.tr F1
      refine mm_R.br (L' := [some ((.ref 86)), some (.int i1), some (.int i2), some (.int i3), some (.int i4), some (.int i5), some (.int i6), some (.int i7)]) (st' := []) (t := 260) (u := 186) (b := mm_cc .ne x10 (40 : Int32)) 2 rfl (fun c => ?_) (fun c => ?_)
      · replace H := H.1 (of_decide_eq_true c)
        refine mm_R.cV (pc' := 265) (L' := [some ((.ref 86)), some (.int i1), some (.int i2), some (.int i3), some (.int i4), some (.int i5), some (.int i6), some (.int i7)]) (st1 := [.int i7, .int i1, (.ref 86), (.ref 86)]) (as := [.int i1, .int i7]) (rest := [(.ref 86)]) 4 rfl rfl (mw_sp rfl rfl (Nat.le_of_ble_eq_true rfl) (mw_ac rfl (mw_ac rfl (mw_ac rfl mw_an))) (mw_ac rfl mw_an)) rfl rfl (m_rc R rfl) ((H _ R).mono (fun o hp1 H => ?_))
        obtain ⟨σ11, R, F1, x12, rfl, H⟩ := H
        replace F := F.tr F1
        refine mm_R.cV (pc' := 268) (L' := [some ((.ref 86)), some (.int i1), some (.int i2), some (.int i3), some (.int i4), some (.int i5), some (.int i6), some (.int i7)]) (st1 := [.int x12, (.ref 86)]) (as := [.int x12]) (rest := []) 0 rfl rfl (mw_sp rfl rfl (Nat.le_of_ble_eq_true rfl) (mw_ac rfl (mw_ac rfl mw_an)) mw_an) rfl rfl (m_rc R rfl) ((H _ R).mono (fun o hp1 H => ?_))
        obtain ⟨σ13, R, F1, rfl, H⟩ := H
        replace F := F.tr F1
        exact mm_R.pn (pc' := 153) (L' := [some ((.ref 86)), some (.int i1), some (.int i2), some (.int i3), some (.int i4), some (.int i5), some (.int i6), some (.int (i7 + (1 : Int32)))]) (st' := []) 2 rfl (H.use R F)
      · replace H := H.2 (Decidable.of_not_not (of_decide_eq_false c))
        refine mm_R.cV (pc' := 192) (L' := [some ((.ref 86)), some (.int i1), some (.int i2), some (.int i3), some (.int i4), some (.int i5), some (.int i6), some (.int i7)]) (st1 := [.int i3, .int i2, .int i7, .int i1, (.ref 86)]) (as := [.int i1, .int i7, .int i2, .int i3]) (rest := []) 5 rfl rfl (mw_sp rfl rfl (Nat.le_of_ble_eq_true rfl) (mw_ac rfl (mw_ac rfl (mw_ac rfl (mw_ac rfl (mw_ac rfl mw_an))))) mw_an) rfl rfl (m_rc R rfl) ((H _ R).mono (fun o hp1 H => ?_))
        obtain ⟨σ14, R, F1, x15, rfl, H⟩ := H
        replace F := F.tr F1
        refine mm_R.wgi (pc' := 198) (L' := [some ((.ref 86)), some (.int i1), some (.int i2), some (.int i3), some (.int i4), some (.int i5), some (.int i6), some (.int x15)]) (r := []) 2 rfl rfl (m_gi R rfl ?_)
        refine mm_R.br (L' := [some ((.ref 86)), some (.int i1), some (.int i2), some (.int i3), some (.int i4), some (.int i5), some (.int i6), some (.int x15)]) (st' := []) (t := 208) (u := 206) (b := mm_cc .ne (σ14.1 35) (-2 : Int32)) 2 rfl (fun c => ?_) (fun c => ?_)
        · replace H := H.1 (of_decide_eq_true c)
          refine mm_R.wgi (pc' := 209) (L' := [some ((.ref 86)), some (.int i1), some (.int i2), some (.int i3), some (.int i4), some (.int i5), some (.int i6), some (.int x15)]) (r := []) 1 rfl rfl (m_gi R rfl ?_)
          refine mm_R.br (L' := [some ((.ref 86)), some (.int i1), some (.int i2), some (.int i3), some (.int i4), some (.int i5), some (.int i6), some (.int x15)]) (st' := []) (t := 234) (u := 215) (b := mm_cc .lt (σ14.1 35) (0 : Int32)) 1 rfl (fun c => ?_) (fun c => ?_)
          · replace H := H.1 (of_decide_eq_true c)
            refine mm_R.wgi (pc' := 235) (L' := [some ((.ref 86)), some (.int i1), some (.int i2), some (.int i3), some (.int i4), some (.int i5), some (.int i6), some (.int x15)]) (r := []) 1 rfl rfl (m_gi R rfl ?_)
            refine mm_R.br (L' := [some ((.ref 86)), some (.int i1), some (.int i2), some (.int i3), some (.int i4), some (.int i5), some (.int i6), some (.int x15)]) (st' := []) (t := 253) (u := 242) (b := mm_cc .ne (σ14.1 35) (-1 : Int32)) 2 rfl (fun c => ?_) (fun c => ?_)
            · replace H := H.1 (of_decide_eq_true c)
              refine mm_R.cV (pc' := 254) (L' := [some ((.ref 86)), some (.int i1), some (.int i2), some (.int i3), some (.int i4), some (.int i5), some (.int i6), some (.int x15)]) (st1 := [(.ref 86)]) (as := []) (rest := []) 1 rfl rfl (mw_sp rfl rfl (Nat.le_of_ble_eq_true rfl) (mw_ac rfl mw_an) mw_an) rfl rfl (m_rc R rfl) ((H _ R).mono (fun o hp1 H => ?_))
              obtain ⟨σ16, R, F1, rfl, H⟩ := H
              replace F := F.tr F1
              exact mm_R.pn (pc' := 153) (L' := [some ((.ref 86)), some (.int i1), some (.int i2), some (.int i3), some (.int i4), some (.int i5), some (.int i6), some (.int x15)]) (st' := []) 1 rfl (H.use R F)
            · replace H := H.2 (Decidable.of_not_not (of_decide_eq_false c))
              refine mm_R.wgi (pc' := 244) (L' := [some ((.ref 86)), some (.int i1), some (.int i2), some (.int i3), some (.int i4), some (.int i5), some (.int i6), some (.int x15)]) (r := [(.ref 86)]) 2 rfl rfl (m_gi R rfl ?_)
              refine mm_R.cV (pc' := 247) (L' := [some ((.ref 86)), some (.int i1), some (.int i2), some (.int i3), some (.int i4), some (.int i5), some (.int i6), some (.int x15)]) (st1 := [.int (σ14.1 36), (.ref 86)]) (as := [.int (σ14.1 36)]) (rest := []) 0 rfl rfl (mw_sp rfl rfl (Nat.le_of_ble_eq_true rfl) (mw_ac rfl (mw_ac rfl mw_an)) mw_an) rfl rfl (m_rc R rfl) ((H _ R).mono (fun o hp1 H => ?_))
              obtain ⟨σ17, R, F1, rfl, H⟩ := H
              replace F := F.tr F1
              exact mm_R.pn (pc' := 153) (L' := [some ((.ref 86)), some (.int i1), some (.int i2), some (.int i3), some (.int i4), some (.int i5), some (.int i6), some (.int x15)]) (st' := []) 1 rfl (H.use R F)
          · replace H := H.2 (of_decide_eq_false c)
            refine mm_R.wgi (pc' := 217) (L' := [some ((.ref 86)), some (.int i1), some (.int i2), some (.int i3), some (.int i4), some (.int i5), some (.int i6), some (.int x15)]) (r := [(.ref 86)]) 2 rfl rfl (m_gi R rfl ?_)
            refine mm_R.wgi (pc' := 222) (L' := [some ((.ref 86)), some (.int i1), some (.int i2), some (.int i3), some (.int i4), some (.int i5), some (.int i6), some (.int x15)]) (r := [(.ref 86), .int (σ14.1 35), (.ref 86)]) 2 rfl rfl (m_gi R rfl ?_)
            refine mm_R.cV (pc' := 225) (L' := [some ((.ref 86)), some (.int i1), some (.int i2), some (.int i3), some (.int i4), some (.int i5), some (.int i6), some (.int x15)]) (st1 := [.int (σ14.1 38), (.ref 86), .int (σ14.1 35), (.ref 86)]) (as := [.int (σ14.1 38)]) (rest := [.int (σ14.1 35), (.ref 86)]) 0 rfl rfl (mw_sp rfl rfl (Nat.le_of_ble_eq_true rfl) (mw_ac rfl (mw_ac rfl mw_an)) (mw_ac rfl (mw_ac rfl mw_an))) rfl rfl (m_rc R rfl) ((H _ R).mono (fun o hp1 H => ?_))
            obtain ⟨σ18, R, F1, x19, rfl, H⟩ := H
            replace F := F.tr F1
            refine mm_R.cV (pc' := 228) (L' := [some ((.ref 86)), some (.int i1), some (.int i2), some (.int i3), some (.int i4), some (.int i5), some (.int i6), some (.int x15)]) (st1 := [.int x19, .int (σ14.1 35), (.ref 86)]) (as := [.int (σ14.1 35), .int x19]) (rest := []) 0 rfl rfl (mw_sp rfl rfl (Nat.le_of_ble_eq_true rfl) (mw_ac rfl (mw_ac rfl (mw_ac rfl mw_an))) mw_an) rfl rfl (m_rc R rfl) ((H _ R).mono (fun o hp1 H => ?_))
            obtain ⟨σ20, R, F1, rfl, H⟩ := H
            replace F := F.tr F1
            exact mm_R.pn (pc' := 153) (L' := [some ((.ref 86)), some (.int i1), some (.int i2), some (.int i3), some (.int i4), some (.int i5), some (.int i6), some (.int x15)]) (st' := []) 1 rfl (H.use R F)
        · replace H := H.2 (Decidable.of_not_not (of_decide_eq_false c))
          exact mm_R.rt (pc' := 207) (L' := [some ((.ref 86)), some (.int i1), some (.int i2), some (.int i3), some (.int i4), some (.int i5), some (.int i6), some (.int x15)]) (st1 := [.int (0 : Int32)]) 1 rfl rfl rfl rfl rfl rfl ⟨_, R, F, H⟩
-- StepRunnerModel.ruleAt, from 0
set_option maxRecDepth 10000 in
theorem u180_0 {X : List Int32} {d : Nat} {i1 : Int32} {i2 : Int32} {σ : mS} {Q : Option Value → mS → Prop} (H : (0 ≤ i1 ∧ Int32.toNatClampNeg i1 < 30) ∧ (((mGet σ 105 i1) ≤ i2 → Q (some (.int (0 : Int32))) σ) ∧ (¬ (mGet σ 105 i1) ≤ i2 → (0 ≤ (((60 : Int32) * i1) + i2) ∧ Int32.toNatClampNeg (((60 : Int32) * i1) + i2) < 1800) ∧ (0 ≤ (mGet σ 104 (((60 : Int32) * i1) + i2)) ∧ (mGet σ 104 (((60 : Int32) * i1) + i2)) ≤ 65535) ∧ Q (some (.int (mGet σ 104 (((60 : Int32) * i1) + i2)))) σ))) : mM X (d + 1) 180 0 (mm_L0 180 [(.ref 86), .int i1, .int i2]) [] σ Q := by
  intro hp R
  have F : mF hp hp := mF.rf
  show mm_R X (d + 1) 180 0 [some ((.ref 86)), some (.int i1), some (.int i2)] [] hp (mQ hp Q)
  refine mm_R.wgv (pc' := 2) (L' := [some ((.ref 86)), some (.int i1), some (.int i2)]) (r := [.int i2]) 2 rfl rfl (m_gv R rfl ?_)
  obtain ⟨hi1, H⟩ := H
  refine mm_R.wai (pc' := 6) (L' := [some ((.ref 86)), some (.int i1), some (.int i2)]) (r := [.int i2]) (t := 1000) 1 rfl rfl rfl rfl (m_ai (i := i1) R (n := 30) (by decide) hi1 ?_)
  refine mm_R.br (L' := [some ((.ref 86)), some (.int i1), some (.int i2)]) (st' := []) (t := 24) (u := 10) (b := mm_cc .ge i2 (mGet σ 105 i1)) 1 rfl (fun c => ?_) (fun c => ?_)
  · replace H := H.1 (of_decide_eq_true c)
    exact mm_R.rt (pc' := 25) (L' := [some ((.ref 86)), some (.int i1), some (.int i2)]) (st1 := [.int (0 : Int32)]) 1 rfl rfl rfl rfl rfl rfl ⟨_, R, F, H⟩
  · replace H := H.2 (of_decide_eq_false c)
    refine mm_R.wgv (pc' := 11) (L' := [some ((.ref 86)), some (.int i1), some (.int i2)]) (r := []) 1 rfl rfl (m_gv R rfl ?_)
    obtain ⟨hi2, H⟩ := H
    refine mm_R.wai (pc' := 20) (L' := [some ((.ref 86)), some (.int i1), some (.int i2)]) (r := []) (t := 1001) 5 rfl rfl rfl rfl (m_ai (i := (((60 : Int32) * i1) + i2)) R (n := 1800) (by decide) hi2 ?_)
    exact mm_R.rt (pc' := 25) (L' := [some ((.ref 86)), some (.int i1), some (.int i2)]) (st1 := [.int (mGet σ 104 (((60 : Int32) * i1) + i2))]) 1 rfl rfl rfl rfl rfl (mw_rvi (ty := .char) (m_fc H.1)) ⟨_, R, F, H.2⟩
-- StepRunnerModel.follow, from 0
set_option maxRecDepth 10000 in
theorem u181_0 {X : List Int32} {d : Nat} {i1 : Int32} {i2 : Int32} {i3 : Int32} {i4 : Int32} {σ : mS} {Q : Option Value → mS → Prop} (H : mM X d 180 0 (mm_L0 180 [(.ref 86), .int i1, .int (i2 + (2 : Int32))]) [] σ (mi_K (fun x2 σ1 => ((¬ x2 = (105 : Int32) → mM X (d + 1) 181 18 [some ((.ref 86)), some (.int i1), some (.int i2), some (.int i3), some (.int i4), none, none, none, none, none, none] [.int (0 : Int32)] σ1 Q) ∧ (x2 = (105 : Int32) → mM X (d + 1) 181 18 [some ((.ref 86)), some (.int i1), some (.int i2), some (.int i3), some (.int i4), none, none, none, none, none, none] [.int (1 : Int32)] σ1 Q))))) : mM X (d + 1) 181 0 (mm_L0 181 [(.ref 86), .int i1, .int i2, .int i3, .int i4]) [] σ Q := by
  intro hp R
  have F : mF hp hp := mF.rf
  show mm_R X (d + 1) 181 0 [some ((.ref 86)), some (.int i1), some (.int i2), some (.int i3), some (.int i4), none, none, none, none, none, none] [] hp (mQ hp Q)
  refine mm_R.cV (pc' := 5) (L' := [some ((.ref 86)), some (.int i1), some (.int i2), some (.int i3), some (.int i4), none, none, none, none, none, none]) (st1 := [.int (i2 + (2 : Int32)), .int i1, (.ref 86)]) (as := [.int i1, .int (i2 + (2 : Int32))]) (rest := []) 5 rfl rfl (mw_sp rfl rfl (Nat.le_of_ble_eq_true rfl) (mw_ac rfl (mw_ac rfl (mw_ac rfl mw_an))) mw_an) rfl rfl (m_rc R rfl) ((H _ R).mono (fun o hp1 H => ?_))
  obtain ⟨σ1, R, F1, x2, rfl, H⟩ := H
  replace F := F.tr F1
  refine mm_R.br (L' := [some ((.ref 86)), some (.int i1), some (.int i2), some (.int i3), some (.int i4), none, none, none, none, none, none]) (st' := []) (t := 17) (u := 13) (b := mm_cc .ne x2 (105 : Int32)) 2 rfl (fun c => ?_) (fun c => ?_)
  · replace H := H.1 (of_decide_eq_true c)
    exact mm_R.pn (pc' := 18) (L' := [some ((.ref 86)), some (.int i1), some (.int i2), some (.int i3), some (.int i4), none, none, none, none, none, none]) (st' := [.int (0 : Int32)]) 1 rfl (H.use R F)
  · replace H := H.2 (Decidable.of_not_not (of_decide_eq_false c))
    exact mm_R.pn (pc' := 18) (L' := [some ((.ref 86)), some (.int i1), some (.int i2), some (.int i3), some (.int i4), none, none, none, none, none, none]) (st' := [.int (1 : Int32)]) 2 rfl (H.use R F)
-- StepRunnerModel.follow, from 18
set_option maxRecDepth 10000 in
theorem u181_18 {X : List Int32} {d : Nat} {i1 : Int32} {i2 : Int32} {i3 : Int32} {i4 : Int32} {o5 : Option Value} {o6 : Option Value} {o7 : Option Value} {o8 : Option Value} {o9 : Option Value} {o10 : Option Value} {s0 : Int32} {σ : mS} {Q : Option Value → mS → Prop} (H : ((s0 = (0 : Int32) → mM X (d + 1) 181 44 [some ((.ref 86)), some (.int i1), some (.int i2), some (.int i3), some (.int i4), some (.int s0), o6, o7, o8, o9, o10] [.int i4] σ Q) ∧ (¬ s0 = (0 : Int32) → mM X d 180 0 (mm_L0 180 [(.ref 86), .int i1, .int (i2 + (9 : Int32))]) [] σ (mi_K (fun x2 σ1 => mM X (d + 1) 181 44 [some ((.ref 86)), some (.int i1), some (.int i2), some (.int i3), some (.int i4), some (.int s0), o6, o7, o8, o9, o10] [.int ((i3 + x2) - (97 : Int32))] σ1 Q))))) : mM X (d + 1) 181 18 [some ((.ref 86)), some (.int i1), some (.int i2), some (.int i3), some (.int i4), o5, o6, o7, o8, o9, o10] [.int s0] σ Q := by
  intro hp R
  have F : mF hp hp := mF.rf
  refine mm_R.br (L' := [some ((.ref 86)), some (.int i1), some (.int i2), some (.int i3), some (.int i4), some (.int s0), o6, o7, o8, o9, o10]) (st' := []) (t := 42) (u := 25) (b := mm_cc .eq s0 (0 : Int32)) 3 rfl (fun c => ?_) (fun c => ?_)
  · replace H := H.1 (of_decide_eq_true c)
    exact mm_R.pn (pc' := 44) (L' := [some ((.ref 86)), some (.int i1), some (.int i2), some (.int i3), some (.int i4), some (.int s0), o6, o7, o8, o9, o10]) (st' := [.int i4]) 1 rfl (H.use R F)
  · replace H := H.2 (of_decide_eq_false c)
    refine mm_R.cV (pc' := 32) (L' := [some ((.ref 86)), some (.int i1), some (.int i2), some (.int i3), some (.int i4), some (.int s0), o6, o7, o8, o9, o10]) (st1 := [.int (i2 + (9 : Int32)), .int i1, (.ref 86), .int i3]) (as := [.int i1, .int (i2 + (9 : Int32))]) (rest := [.int i3]) 6 rfl rfl (mw_sp rfl rfl (Nat.le_of_ble_eq_true rfl) (mw_ac rfl (mw_ac rfl (mw_ac rfl mw_an))) (mw_ac rfl mw_an)) rfl rfl (m_rc R rfl) ((H _ R).mono (fun o hp1 H => ?_))
    obtain ⟨σ1, R, F1, x2, rfl, H⟩ := H
    replace F := F.tr F1
    exact mm_R.pn (pc' := 44) (L' := [some ((.ref 86)), some (.int i1), some (.int i2), some (.int i3), some (.int i4), some (.int s0), o6, o7, o8, o9, o10]) (st' := [.int ((i3 + x2) - (97 : Int32))]) 4 rfl (H.use R F)
-- StepRunnerModel.follow, from 44
set_option maxRecDepth 10000 in
theorem u181_44 {X : List Int32} {d : Nat} {i1 : Int32} {i2 : Int32} {i3 : Int32} {i4 : Int32} {i5 : Int32} {o6 : Option Value} {o7 : Option Value} {o8 : Option Value} {o9 : Option Value} {o10 : Option Value} {s0 : Int32} {σ : mS} {Q : Option Value → mS → Prop} (H : ((i5 = (0 : Int32) → (((0 : Int32) ≤ s0 → mM X d 123 0 (mm_L0 123 [.int s0]) [] σ (mi_K (fun x2 σ1 => ∀ σ3, σ3 = mSet σ1 35 x2 → mM X (d + 1) 181 83 [some ((.ref 86)), some (.int i1), some (.int i2), some (.int i3), some (.int i4), some (.int i5), some (.int s0), some (.int (i2 + (6 : Int32))), o8, o9, o10] [] σ3 Q))) ∧ (¬ (0 : Int32) ≤ s0 → ∀ σ4, σ4 = mSet σ 35 (-3 : Int32) → mM X (d + 1) 181 83 [some ((.ref 86)), some (.int i1), some (.int i2), some (.int i3), some (.int i4), some (.int i5), some (.int s0), some (.int (i2 + (6 : Int32))), o8, o9, o10] [] σ4 Q))) ∧ (¬ i5 = (0 : Int32) → (((0 : Int32) ≤ s0 → mM X d 123 0 (mm_L0 123 [.int s0]) [] σ (mi_K (fun x6 σ5 => ∀ σ7, σ7 = mSet σ5 35 x6 → mM X (d + 1) 181 83 [some ((.ref 86)), some (.int i1), some (.int i2), some (.int i3), some (.int i4), some (.int i5), some (.int s0), some (.int (i2 + (10 : Int32))), o8, o9, o10] [] σ7 Q))) ∧ (¬ (0 : Int32) ≤ s0 → ∀ σ8, σ8 = mSet σ 35 (-3 : Int32) → mM X (d + 1) 181 83 [some ((.ref 86)), some (.int i1), some (.int i2), some (.int i3), some (.int i4), some (.int i5), some (.int s0), some (.int (i2 + (10 : Int32))), o8, o9, o10] [] σ8 Q))))) : mM X (d + 1) 181 44 [some ((.ref 86)), some (.int i1), some (.int i2), some (.int i3), some (.int i4), some (.int i5), o6, o7, o8, o9, o10] [.int s0] σ Q := by
  intro hp R
  have F : mF hp hp := mF.rf
  refine mm_R.br (L' := [some ((.ref 86)), some (.int i1), some (.int i2), some (.int i3), some (.int i4), some (.int i5), some (.int s0), o7, o8, o9, o10]) (st' := []) (t := 58) (u := 51) (b := mm_cc .eq i5 (0 : Int32)) 3 rfl (fun c => ?_) (fun c => ?_)
  · replace H := H.1 (of_decide_eq_true c)
    refine mm_R.br (L' := [some ((.ref 86)), some (.int i1), some (.int i2), some (.int i3), some (.int i4), some (.int i5), some (.int s0), some (.int (i2 + (6 : Int32))), o8, o9, o10]) (st' := [(.ref 86)]) (t := 75) (u := 70) (b := mm_cc .ge s0 (0 : Int32)) 7 rfl (fun c => ?_) (fun c => ?_)
    · replace H := H.1 (of_decide_eq_true c)
      refine mm_R.cS (pc' := 77) (L' := [some ((.ref 86)), some (.int i1), some (.int i2), some (.int i3), some (.int i4), some (.int i5), some (.int s0), some (.int (i2 + (6 : Int32))), o8, o9, o10]) (st1 := [.int s0, (.ref 86)]) (as := [.int s0]) (rest := [(.ref 86)]) 1 rfl rfl (mw_sp rfl rfl (Nat.le_of_ble_eq_true rfl) (mw_ac rfl mw_an) (mw_ac rfl mw_an)) rfl rfl ((H _ R).mono (fun o hp1 H => ?_))
      obtain ⟨σ1, R, F1, x2, rfl, H⟩ := H
      replace F := F.tr F1
      refine mm_R.wpt (pc' := 80) (L' := [some ((.ref 86)), some (.int i1), some (.int i2), some (.int i3), some (.int i4), some (.int i5), some (.int s0), some (.int (i2 + (6 : Int32))), o8, o9, o10]) (r := []) 0 rfl rfl (m_pt (v := x2) R F rfl rfl rfl (fun hp R F => ?_))
      obtain ⟨σ3, es⟩ : ∃ z, z = mSet σ1 35 x2 := ⟨_, rfl⟩
      rw [← es] at R
      replace H := H σ3 es
      exact H.use R F
    · replace H := H.2 (of_decide_eq_false c)
      refine mm_R.wpt (pc' := 80) (L' := [some ((.ref 86)), some (.int i1), some (.int i2), some (.int i3), some (.int i4), some (.int i5), some (.int s0), some (.int (i2 + (6 : Int32))), o8, o9, o10]) (r := []) 2 rfl rfl (m_pt (v := (-3 : Int32)) R F rfl rfl rfl (fun hp R F => ?_))
      obtain ⟨σ4, es⟩ : ∃ z, z = mSet σ 35 (-3 : Int32) := ⟨_, rfl⟩
      rw [← es] at R
      replace H := H σ4 es
      exact H.use R F
  · replace H := H.2 (of_decide_eq_false c)
    refine mm_R.br (L' := [some ((.ref 86)), some (.int i1), some (.int i2), some (.int i3), some (.int i4), some (.int i5), some (.int s0), some (.int (i2 + (10 : Int32))), o8, o9, o10]) (st' := [(.ref 86)]) (t := 75) (u := 70) (b := mm_cc .ge s0 (0 : Int32)) 8 rfl (fun c => ?_) (fun c => ?_)
    · replace H := H.1 (of_decide_eq_true c)
      refine mm_R.cS (pc' := 77) (L' := [some ((.ref 86)), some (.int i1), some (.int i2), some (.int i3), some (.int i4), some (.int i5), some (.int s0), some (.int (i2 + (10 : Int32))), o8, o9, o10]) (st1 := [.int s0, (.ref 86)]) (as := [.int s0]) (rest := [(.ref 86)]) 1 rfl rfl (mw_sp rfl rfl (Nat.le_of_ble_eq_true rfl) (mw_ac rfl mw_an) (mw_ac rfl mw_an)) rfl rfl ((H _ R).mono (fun o hp1 H => ?_))
      obtain ⟨σ5, R, F1, x6, rfl, H⟩ := H
      replace F := F.tr F1
      refine mm_R.wpt (pc' := 80) (L' := [some ((.ref 86)), some (.int i1), some (.int i2), some (.int i3), some (.int i4), some (.int i5), some (.int s0), some (.int (i2 + (10 : Int32))), o8, o9, o10]) (r := []) 0 rfl rfl (m_pt (v := x6) R F rfl rfl rfl (fun hp R F => ?_))
      obtain ⟨σ7, es⟩ : ∃ z, z = mSet σ5 35 x6 := ⟨_, rfl⟩
      rw [← es] at R
      replace H := H σ7 es
      exact H.use R F
    · replace H := H.2 (of_decide_eq_false c)
      refine mm_R.wpt (pc' := 80) (L' := [some ((.ref 86)), some (.int i1), some (.int i2), some (.int i3), some (.int i4), some (.int i5), some (.int s0), some (.int (i2 + (10 : Int32))), o8, o9, o10]) (r := []) 2 rfl rfl (m_pt (v := (-3 : Int32)) R F rfl rfl rfl (fun hp R F => ?_))
      obtain ⟨σ8, es⟩ : ∃ z, z = mSet σ 35 (-3 : Int32) := ⟨_, rfl⟩
      rw [← es] at R
      replace H := H σ8 es
      exact H.use R F
-- StepRunnerModel.follow, from 83
set_option maxRecDepth 10000 in
theorem u181_83 {X : List Int32} {d : Nat} {i1 : Int32} {i2 : Int32} {i3 : Int32} {i4 : Int32} {i5 : Int32} {i6 : Int32} {i7 : Int32} {o8 : Option Value} {o9 : Option Value} {o10 : Option Value} {σ : mS} {Q : Option Value → mS → Prop} (H : mM X d 180 0 (mm_L0 180 [(.ref 86), .int i1, .int i7]) [] σ (mi_K (fun x2 σ1 => ((x2 = (41 : Int32) → ∀ σ3, σ3 = mSet σ1 38 i6 → Q (some (.int (i7 + (1 : Int32)))) σ3) ∧ (¬ x2 = (41 : Int32) → mM X d 180 0 (mm_L0 180 [(.ref 86), .int i1, .int i7]) [] σ1 (mi_K (fun x5 σ4 => ((¬ x5 = (91 : Int32) → mM X (d + 1) 181 112 [some ((.ref 86)), some (.int i1), some (.int i2), some (.int i3), some (.int i4), some (.int i5), some (.int i6), some (.int i7), o8, o9, o10] [.int (0 : Int32)] σ4 Q) ∧ (x5 = (91 : Int32) → mM X (d + 1) 181 112 [some ((.ref 86)), some (.int i1), some (.int i2), some (.int i3), some (.int i4), some (.int i5), some (.int i6), some (.int i7), o8, o9, o10] [.int (1 : Int32)] σ4 Q))))))))) : mM X (d + 1) 181 83 [some ((.ref 86)), some (.int i1), some (.int i2), some (.int i3), some (.int i4), some (.int i5), some (.int i6), some (.int i7), o8, o9, o10] [] σ Q := by
  intro hp R
  have F : mF hp hp := mF.rf
  refine mm_R.cV (pc' := 87) (L' := [some ((.ref 86)), some (.int i1), some (.int i2), some (.int i3), some (.int i4), some (.int i5), some (.int i6), some (.int i7), o8, o9, o10]) (st1 := [.int i7, .int i1, (.ref 86)]) (as := [.int i1, .int i7]) (rest := []) 3 rfl rfl (mw_sp rfl rfl (Nat.le_of_ble_eq_true rfl) (mw_ac rfl (mw_ac rfl (mw_ac rfl mw_an))) mw_an) rfl rfl (m_rc R rfl) ((H _ R).mono (fun o hp1 H => ?_))
  obtain ⟨σ1, R, F1, x2, rfl, H⟩ := H
  replace F := F.tr F1
  refine mm_R.br (L' := [some ((.ref 86)), some (.int i1), some (.int i2), some (.int i3), some (.int i4), some (.int i5), some (.int i6), some (.int i7), o8, o9, o10]) (st' := []) (t := 290) (u := 95) (b := mm_cc .eq x2 (41 : Int32)) 2 rfl (fun c => ?_) (fun c => ?_)
  · replace H := H.1 (of_decide_eq_true c)
    refine mm_R.wpt (pc' := 293) (L' := [some ((.ref 86)), some (.int i1), some (.int i2), some (.int i3), some (.int i4), some (.int i5), some (.int i6), some (.int i7), o8, o9, o10]) (r := []) 2 rfl rfl (m_pt (v := i6) R F rfl rfl rfl (fun hp R F => ?_))
    obtain ⟨σ3, es⟩ : ∃ z, z = mSet σ1 38 i6 := ⟨_, rfl⟩
    rw [← es] at R
    replace H := H σ3 es
    exact mm_R.rt (pc' := 300) (L' := [some ((.ref 86)), some (.int i1), some (.int i2), some (.int i3), some (.int i4), some (.int i5), some (.int i6), some (.int i7), o8, o9, o10]) (st1 := [.int (i7 + (1 : Int32))]) 3 rfl rfl rfl rfl rfl rfl ⟨_, R, F, H⟩
  · replace H := H.2 (of_decide_eq_false c)
    refine mm_R.cV (pc' := 99) (L' := [some ((.ref 86)), some (.int i1), some (.int i2), some (.int i3), some (.int i4), some (.int i5), some (.int i6), some (.int i7), o8, o9, o10]) (st1 := [.int i7, .int i1, (.ref 86)]) (as := [.int i1, .int i7]) (rest := []) 3 rfl rfl (mw_sp rfl rfl (Nat.le_of_ble_eq_true rfl) (mw_ac rfl (mw_ac rfl (mw_ac rfl mw_an))) mw_an) rfl rfl (m_rc R rfl) ((H _ R).mono (fun o hp1 H => ?_))
    obtain ⟨σ4, R, F1, x5, rfl, H⟩ := H
    replace F := F.tr F1
    refine mm_R.br (L' := [some ((.ref 86)), some (.int i1), some (.int i2), some (.int i3), some (.int i4), some (.int i5), some (.int i6), some (.int i7), o8, o9, o10]) (st' := []) (t := 111) (u := 107) (b := mm_cc .ne x5 (91 : Int32)) 2 rfl (fun c => ?_) (fun c => ?_)
    · replace H := H.1 (of_decide_eq_true c)
      exact mm_R.pn (pc' := 112) (L' := [some ((.ref 86)), some (.int i1), some (.int i2), some (.int i3), some (.int i4), some (.int i5), some (.int i6), some (.int i7), o8, o9, o10]) (st' := [.int (0 : Int32)]) 1 rfl (H.use R F)
    · replace H := H.2 (Decidable.of_not_not (of_decide_eq_false c))
      exact mm_R.pn (pc' := 112) (L' := [some ((.ref 86)), some (.int i1), some (.int i2), some (.int i3), some (.int i4), some (.int i5), some (.int i6), some (.int i7), o8, o9, o10]) (st' := [.int (1 : Int32)]) 2 rfl (H.use R F)
-- StepRunnerModel.follow, from 112
set_option maxRecDepth 10000 in
theorem u181_112 {X : List Int32} {d : Nat} {i1 : Int32} {i2 : Int32} {i3 : Int32} {i4 : Int32} {i5 : Int32} {i6 : Int32} {i7 : Int32} {o8 : Option Value} {o9 : Option Value} {o10 : Option Value} {s0 : Int32} {σ : mS} {Q : Option Value → mS → Prop} (H : ((s0 = (0 : Int32) → mM X (d + 1) 181 135 [some ((.ref 86)), some (.int i1), some (.int i2), some (.int i3), some (.int i4), some (.int i5), some (.int i6), some (.int i7), some (.int s0), o9, o10] [.int (0 : Int32)] σ Q) ∧ (¬ s0 = (0 : Int32) → mM X d 180 0 (mm_L0 180 [(.ref 86), .int i1, .int (i7 + (1 : Int32))]) [] σ (mi_K (fun x2 σ1 => mM X (d + 1) 181 135 [some ((.ref 86)), some (.int i1), some (.int i2), some (.int i3), some (.int i4), some (.int i5), some (.int i6), some (.int i7), some (.int s0), o9, o10] [.int (x2 - (48 : Int32))] σ1 Q))))) : mM X (d + 1) 181 112 [some ((.ref 86)), some (.int i1), some (.int i2), some (.int i3), some (.int i4), some (.int i5), some (.int i6), some (.int i7), o8, o9, o10] [.int s0] σ Q := by
  intro hp R
  have F : mF hp hp := mF.rf
  refine mm_R.br (L' := [some ((.ref 86)), some (.int i1), some (.int i2), some (.int i3), some (.int i4), some (.int i5), some (.int i6), some (.int i7), some (.int s0), o9, o10]) (st' := []) (t := 134) (u := 119) (b := mm_cc .eq s0 (0 : Int32)) 3 rfl (fun c => ?_) (fun c => ?_)
  · replace H := H.1 (of_decide_eq_true c)
    exact mm_R.pn (pc' := 135) (L' := [some ((.ref 86)), some (.int i1), some (.int i2), some (.int i3), some (.int i4), some (.int i5), some (.int i6), some (.int i7), some (.int s0), o9, o10]) (st' := [.int (0 : Int32)]) 1 rfl (H.use R F)
  · replace H := H.2 (of_decide_eq_false c)
    refine mm_R.cV (pc' := 125) (L' := [some ((.ref 86)), some (.int i1), some (.int i2), some (.int i3), some (.int i4), some (.int i5), some (.int i6), some (.int i7), some (.int s0), o9, o10]) (st1 := [.int (i7 + (1 : Int32)), .int i1, (.ref 86)]) (as := [.int i1, .int (i7 + (1 : Int32))]) (rest := []) 5 rfl rfl (mw_sp rfl rfl (Nat.le_of_ble_eq_true rfl) (mw_ac rfl (mw_ac rfl (mw_ac rfl mw_an))) mw_an) rfl rfl (m_rc R rfl) ((H _ R).mono (fun o hp1 H => ?_))
    obtain ⟨σ1, R, F1, x2, rfl, H⟩ := H
    replace F := F.tr F1
    exact mm_R.pn (pc' := 135) (L' := [some ((.ref 86)), some (.int i1), some (.int i2), some (.int i3), some (.int i4), some (.int i5), some (.int i6), some (.int i7), some (.int s0), o9, o10]) (st' := [.int (x2 - (48 : Int32))]) 3 rfl (H.use R F)
-- StepRunnerModel.follow, from 135
set_option maxRecDepth 10000 in
theorem u181_135 {X : List Int32} {d : Nat} {i1 : Int32} {i2 : Int32} {i3 : Int32} {i4 : Int32} {i5 : Int32} {i6 : Int32} {i7 : Int32} {i8 : Int32} {o9 : Option Value} {o10 : Option Value} {s0 : Int32} {σ : mS} {Q : Option Value → mS → Prop} (H : (((σ.1 35) < (0 : Int32) → ∀ σ1, σ1 = mSet σ 35 (-2 : Int32) → mM X (d + 1) 181 268 [some ((.ref 86)), some (.int i1), some (.int i2), some (.int i3), some (.int i4), some (.int i5), some (.int i6), some (.int i7), some (.int i8), some (.int s0), o10] [] σ1 Q) ∧ (¬ (σ.1 35) < (0 : Int32) → mM X d 144 0 (mm_L0 144 [(.ref 86), .int (σ.1 35)]) [] σ (mi_K (fun x3 σ2 => ((x3 = (3 : Int32) → mM X (d + 1) 181 182 [some ((.ref 86)), some (.int i1), some (.int i2), some (.int i3), some (.int i4), some (.int i5), some (.int i6), some (.int i7), some (.int i8), some (.int s0), o10] [] σ2 Q) ∧ (¬ x3 = (3 : Int32) → ((¬ i8 = (0 : Int32) → ∀ σ4, σ4 = mSet σ2 35 (-2 : Int32) → mM X (d + 1) 181 268 [some ((.ref 86)), some (.int i1), some (.int i2), some (.int i3), some (.int i4), some (.int i5), some (.int i6), some (.int i7), some (.int i8), some (.int s0), o10] [] σ4 Q) ∧ (i8 = (0 : Int32) → mM X d 144 0 (mm_L0 144 [(.ref 86), .int (σ2.1 35)]) [] σ2 (mi_K (fun x6 σ5 => ((x6 = (2 : Int32) → mM X (d + 1) 181 182 [some ((.ref 86)), some (.int i1), some (.int i2), some (.int i3), some (.int i4), some (.int i5), some (.int i6), some (.int i7), some (.int i8), some (.int s0), o10] [] σ5 Q) ∧ (¬ x6 = (2 : Int32) → ∀ σ7, σ7 = mSet σ5 35 (-2 : Int32) → mM X (d + 1) 181 268 [some ((.ref 86)), some (.int i1), some (.int i2), some (.int i3), some (.int i4), some (.int i5), some (.int i6), some (.int i7), some (.int i8), some (.int s0), o10] [] σ7 Q))))))))))))) : mM X (d + 1) 181 135 [some ((.ref 86)), some (.int i1), some (.int i2), some (.int i3), some (.int i4), some (.int i5), some (.int i6), some (.int i7), some (.int i8), o9, o10] [.int s0] σ Q := by
  intro hp R
  have F : mF hp hp := mF.rf
  refine mm_R.wgi (pc' := 138) (L' := [some ((.ref 86)), some (.int i1), some (.int i2), some (.int i3), some (.int i4), some (.int i5), some (.int i6), some (.int i7), some (.int i8), some (.int s0), o10]) (r := []) 2 rfl rfl (m_gi R rfl ?_)
  refine mm_R.br (L' := [some ((.ref 86)), some (.int i1), some (.int i2), some (.int i3), some (.int i4), some (.int i5), some (.int i6), some (.int i7), some (.int i8), some (.int s0), o10]) (st' := []) (t := 173) (u := 144) (b := mm_cc .lt (σ.1 35) (0 : Int32)) 1 rfl (fun c => ?_) (fun c => ?_)
  · replace H := H.1 (of_decide_eq_true c)
    refine mm_R.wpt (pc' := 176) (L' := [some ((.ref 86)), some (.int i1), some (.int i2), some (.int i3), some (.int i4), some (.int i5), some (.int i6), some (.int i7), some (.int i8), some (.int s0), o10]) (r := []) 2 rfl rfl (m_pt (v := (-2 : Int32)) R F rfl rfl rfl (fun hp R F => ?_))
    obtain ⟨σ1, es⟩ : ∃ z, z = mSet σ 35 (-2 : Int32) := ⟨_, rfl⟩
    rw [← es] at R
    replace H := H σ1 es
    exact mm_R.pn (pc' := 268) (L' := [some ((.ref 86)), some (.int i1), some (.int i2), some (.int i3), some (.int i4), some (.int i5), some (.int i6), some (.int i7), some (.int i8), some (.int s0), o10]) (st' := []) 1 rfl (H.use R F)
  · replace H := H.2 (of_decide_eq_false c)
    refine mm_R.wgi (pc' := 146) (L' := [some ((.ref 86)), some (.int i1), some (.int i2), some (.int i3), some (.int i4), some (.int i5), some (.int i6), some (.int i7), some (.int i8), some (.int s0), o10]) (r := [(.ref 86)]) 2 rfl rfl (m_gi R rfl ?_)
    refine mm_R.cV (pc' := 149) (L' := [some ((.ref 86)), some (.int i1), some (.int i2), some (.int i3), some (.int i4), some (.int i5), some (.int i6), some (.int i7), some (.int i8), some (.int s0), o10]) (st1 := [.int (σ.1 35), (.ref 86)]) (as := [.int (σ.1 35)]) (rest := []) 0 rfl rfl (mw_sp rfl rfl (Nat.le_of_ble_eq_true rfl) (mw_ac rfl (mw_ac rfl mw_an)) mw_an) rfl rfl (m_rc R rfl) ((H _ R).mono (fun o hp1 H => ?_))
    obtain ⟨σ2, R, F1, x3, rfl, H⟩ := H
    replace F := F.tr F1
    refine mm_R.br (L' := [some ((.ref 86)), some (.int i1), some (.int i2), some (.int i3), some (.int i4), some (.int i5), some (.int i6), some (.int i7), some (.int i8), some (.int s0), o10]) (st' := []) (t := 182) (u := 156) (b := mm_cc .eq x3 (3 : Int32)) 2 rfl (fun c => ?_) (fun c => ?_)
    · replace H := H.1 (of_decide_eq_true c)
      exact H.use R F
    · replace H := H.2 (of_decide_eq_false c)
      refine mm_R.br (L' := [some ((.ref 86)), some (.int i1), some (.int i2), some (.int i3), some (.int i4), some (.int i5), some (.int i6), some (.int i7), some (.int i8), some (.int s0), o10]) (st' := []) (t := 173) (u := 161) (b := mm_cc .ne i8 (0 : Int32)) 2 rfl (fun c => ?_) (fun c => ?_)
      · replace H := H.1 (of_decide_eq_true c)
        refine mm_R.wpt (pc' := 176) (L' := [some ((.ref 86)), some (.int i1), some (.int i2), some (.int i3), some (.int i4), some (.int i5), some (.int i6), some (.int i7), some (.int i8), some (.int s0), o10]) (r := []) 2 rfl rfl (m_pt (v := (-2 : Int32)) R F rfl rfl rfl (fun hp R F => ?_))
        obtain ⟨σ4, es⟩ : ∃ z, z = mSet σ2 35 (-2 : Int32) := ⟨_, rfl⟩
        rw [← es] at R
        replace H := H σ4 es
        exact mm_R.pn (pc' := 268) (L' := [some ((.ref 86)), some (.int i1), some (.int i2), some (.int i3), some (.int i4), some (.int i5), some (.int i6), some (.int i7), some (.int i8), some (.int s0), o10]) (st' := []) 1 rfl (H.use R F)
      · replace H := H.2 (Decidable.of_not_not (of_decide_eq_false c))
        refine mm_R.wgi (pc' := 163) (L' := [some ((.ref 86)), some (.int i1), some (.int i2), some (.int i3), some (.int i4), some (.int i5), some (.int i6), some (.int i7), some (.int i8), some (.int s0), o10]) (r := [(.ref 86)]) 2 rfl rfl (m_gi R rfl ?_)
        refine mm_R.cV (pc' := 166) (L' := [some ((.ref 86)), some (.int i1), some (.int i2), some (.int i3), some (.int i4), some (.int i5), some (.int i6), some (.int i7), some (.int i8), some (.int s0), o10]) (st1 := [.int (σ2.1 35), (.ref 86)]) (as := [.int (σ2.1 35)]) (rest := []) 0 rfl rfl (mw_sp rfl rfl (Nat.le_of_ble_eq_true rfl) (mw_ac rfl (mw_ac rfl mw_an)) mw_an) rfl rfl (m_rc R rfl) ((H _ R).mono (fun o hp1 H => ?_))
        obtain ⟨σ5, R, F1, x6, rfl, H⟩ := H
        replace F := F.tr F1
        refine mm_R.br (L' := [some ((.ref 86)), some (.int i1), some (.int i2), some (.int i3), some (.int i4), some (.int i5), some (.int i6), some (.int i7), some (.int i8), some (.int s0), o10]) (st' := []) (t := 182) (u := 173) (b := mm_cc .eq x6 (2 : Int32)) 2 rfl (fun c => ?_) (fun c => ?_)
        · replace H := H.1 (of_decide_eq_true c)
          exact H.use R F
        · replace H := H.2 (of_decide_eq_false c)
          refine mm_R.wpt (pc' := 176) (L' := [some ((.ref 86)), some (.int i1), some (.int i2), some (.int i3), some (.int i4), some (.int i5), some (.int i6), some (.int i7), some (.int i8), some (.int s0), o10]) (r := []) 2 rfl rfl (m_pt (v := (-2 : Int32)) R F rfl rfl rfl (fun hp R F => ?_))
          obtain ⟨σ7, es⟩ : ∃ z, z = mSet σ5 35 (-2 : Int32) := ⟨_, rfl⟩
          rw [← es] at R
          replace H := H σ7 es
          exact mm_R.pn (pc' := 268) (L' := [some ((.ref 86)), some (.int i1), some (.int i2), some (.int i3), some (.int i4), some (.int i5), some (.int i6), some (.int i7), some (.int i8), some (.int s0), o10]) (st' := []) 1 rfl (H.use R F)
-- StepRunnerModel.follow, from 182
set_option maxRecDepth 10000 in
theorem u181_182 {X : List Int32} {d : Nat} {i1 : Int32} {i2 : Int32} {i3 : Int32} {i4 : Int32} {i5 : Int32} {i6 : Int32} {i7 : Int32} {i8 : Int32} {i9 : Int32} {o10 : Option Value} {σ : mS} {Q : Option Value → mS → Prop} (H : mM X d 144 0 (mm_L0 144 [(.ref 86), .int (σ.1 35)]) [] σ (mi_K (fun x2 σ1 => ((¬ x2 = (3 : Int32) → mM X d 153 0 (mm_L0 153 [(.ref 86), .int (σ1.1 35)]) [] σ1 (mi_K (fun x4 σ3 => mM X (d + 1) 181 219 [some ((.ref 86)), some (.int i1), some (.int i2), some (.int i3), some (.int i4), some (.int i5), some (.int i6), some (.int i7), some (.int i8), some (.int i9), o10] [.int x4] σ3 Q))) ∧ (x2 = (3 : Int32) → mM X d 143 0 (mm_L0 143 [(.ref 86), .int i6]) [] σ1 (mi_K (fun x6 σ5 => mM X d 146 0 (mm_L0 146 [(.ref 86), .int (σ1.1 35), .int x6]) [] σ5 (mi_K (fun x8 σ7 => mM X (d + 1) 181 219 [some ((.ref 86)), some (.int i1), some (.int i2), some (.int i3), some (.int i4), some (.int i5), some (.int i6), some (.int i7), some (.int i8), some (.int i9), o10] [.int x8] σ7 Q))))))))) : mM X (d + 1) 181 182 [some ((.ref 86)), some (.int i1), some (.int i2), some (.int i3), some (.int i4), some (.int i5), some (.int i6), some (.int i7), some (.int i8), some (.int i9), o10] [] σ Q := by
  intro hp R
  have F : mF hp hp := mF.rf
  refine mm_R.wgi (pc' := 184) (L' := [some ((.ref 86)), some (.int i1), some (.int i2), some (.int i3), some (.int i4), some (.int i5), some (.int i6), some (.int i7), some (.int i8), some (.int i9), o10]) (r := [(.ref 86)]) 2 rfl rfl (m_gi R rfl ?_)
  refine mm_R.cV (pc' := 187) (L' := [some ((.ref 86)), some (.int i1), some (.int i2), some (.int i3), some (.int i4), some (.int i5), some (.int i6), some (.int i7), some (.int i8), some (.int i9), o10]) (st1 := [.int (σ.1 35), (.ref 86)]) (as := [.int (σ.1 35)]) (rest := []) 0 rfl rfl (mw_sp rfl rfl (Nat.le_of_ble_eq_true rfl) (mw_ac rfl (mw_ac rfl mw_an)) mw_an) rfl rfl (m_rc R rfl) ((H _ R).mono (fun o hp1 H => ?_))
  obtain ⟨σ1, R, F1, x2, rfl, H⟩ := H
  replace F := F.tr F1
  refine mm_R.br (L' := [some ((.ref 86)), some (.int i1), some (.int i2), some (.int i3), some (.int i4), some (.int i5), some (.int i6), some (.int i7), some (.int i8), some (.int i9), o10]) (st' := []) (t := 211) (u := 194) (b := mm_cc .ne x2 (3 : Int32)) 2 rfl (fun c => ?_) (fun c => ?_)
  · replace H := H.1 (of_decide_eq_true c)
    refine mm_R.wgi (pc' := 213) (L' := [some ((.ref 86)), some (.int i1), some (.int i2), some (.int i3), some (.int i4), some (.int i5), some (.int i6), some (.int i7), some (.int i8), some (.int i9), o10]) (r := [(.ref 86)]) 2 rfl rfl (m_gi R rfl ?_)
    refine mm_R.cV (pc' := 216) (L' := [some ((.ref 86)), some (.int i1), some (.int i2), some (.int i3), some (.int i4), some (.int i5), some (.int i6), some (.int i7), some (.int i8), some (.int i9), o10]) (st1 := [.int (σ1.1 35), (.ref 86)]) (as := [.int (σ1.1 35)]) (rest := []) 0 rfl rfl (mw_sp rfl rfl (Nat.le_of_ble_eq_true rfl) (mw_ac rfl (mw_ac rfl mw_an)) mw_an) rfl rfl (m_rc R rfl) ((H _ R).mono (fun o hp1 H => ?_))
    obtain ⟨σ3, R, F1, x4, rfl, H⟩ := H
    replace F := F.tr F1
    exact H.use R F
  · replace H := H.2 (Decidable.of_not_not (of_decide_eq_false c))
    refine mm_R.wgi (pc' := 196) (L' := [some ((.ref 86)), some (.int i1), some (.int i2), some (.int i3), some (.int i4), some (.int i5), some (.int i6), some (.int i7), some (.int i8), some (.int i9), o10]) (r := [(.ref 86)]) 2 rfl rfl (m_gi R rfl ?_)
    refine mm_R.cV (pc' := 202) (L' := [some ((.ref 86)), some (.int i1), some (.int i2), some (.int i3), some (.int i4), some (.int i5), some (.int i6), some (.int i7), some (.int i8), some (.int i9), o10]) (st1 := [.int i6, (.ref 86), .int (σ1.1 35), (.ref 86)]) (as := [.int i6]) (rest := [.int (σ1.1 35), (.ref 86)]) 2 rfl rfl (mw_sp rfl rfl (Nat.le_of_ble_eq_true rfl) (mw_ac rfl (mw_ac rfl mw_an)) (mw_ac rfl (mw_ac rfl mw_an))) rfl rfl (m_rc R rfl) ((H _ R).mono (fun o hp1 H => ?_))
    obtain ⟨σ5, R, F1, x6, rfl, H⟩ := H
    replace F := F.tr F1
    refine mm_R.cV (pc' := 205) (L' := [some ((.ref 86)), some (.int i1), some (.int i2), some (.int i3), some (.int i4), some (.int i5), some (.int i6), some (.int i7), some (.int i8), some (.int i9), o10]) (st1 := [.int x6, .int (σ1.1 35), (.ref 86)]) (as := [.int (σ1.1 35), .int x6]) (rest := []) 0 rfl rfl (mw_sp rfl rfl (Nat.le_of_ble_eq_true rfl) (mw_ac rfl (mw_ac rfl (mw_ac rfl mw_an))) mw_an) rfl rfl (m_rc R rfl) ((H _ R).mono (fun o hp1 H => ?_))
    obtain ⟨σ7, R, F1, x8, rfl, H⟩ := H
    replace F := F.tr F1
    exact mm_R.pn (pc' := 219) (L' := [some ((.ref 86)), some (.int i1), some (.int i2), some (.int i3), some (.int i4), some (.int i5), some (.int i6), some (.int i7), some (.int i8), some (.int i9), o10]) (st' := [.int x8]) 1 rfl (H.use R F)
-- StepRunnerModel.follow, from 219
set_option maxRecDepth 10000 in
theorem u181_219 {X : List Int32} {d : Nat} {i1 : Int32} {i2 : Int32} {i3 : Int32} {i4 : Int32} {i5 : Int32} {i6 : Int32} {i7 : Int32} {i8 : Int32} {i9 : Int32} {o10 : Option Value} {s0 : Int32} {σ : mS} {Q : Option Value → mS → Prop} (H : ∀ σ1, σ1 = mSet σ 36 s0 → ((¬ i8 = (0 : Int32) → ((s0 ≤ i9 → ∀ σ2, σ2 = mSet σ1 35 (-2 : Int32) → mM X (d + 1) 181 268 [some ((.ref 86)), some (.int i1), some (.int i2), some (.int i3), some (.int i4), some (.int i5), some (.int i6), some (.int i7), some (.int i8), some (.int i9), some (.int s0)] [] σ2 Q) ∧ (¬ s0 ≤ i9 → mM X d 143 0 (mm_L0 143 [(.ref 86), .int i6]) [] σ1 (mi_K (fun x4 σ3 => mM X d 178 0 (mm_L0 178 [(.ref 86), .int (σ1.1 35), .int x4, .int i9]) [] σ3 (mi_K (fun x6 σ5 => ∀ σ7, σ7 = mSet σ5 35 x6 → mM X (d + 1) 181 268 [some ((.ref 86)), some (.int i1), some (.int i2), some (.int i3), some (.int i4), some (.int i5), some (.int i6), some (.int i7), some (.int i8), some (.int i9), some (.int s0)] [] σ7 Q))))))) ∧ (i8 = (0 : Int32) → ∀ σ8, σ8 = mSet σ1 35 (-1 : Int32) → mM X (d + 1) 181 268 [some ((.ref 86)), some (.int i1), some (.int i2), some (.int i3), some (.int i4), some (.int i5), some (.int i6), some (.int i7), some (.int i8), some (.int i9), some (.int s0)] [] σ8 Q))) : mM X (d + 1) 181 219 [some ((.ref 86)), some (.int i1), some (.int i2), some (.int i3), some (.int i4), some (.int i5), some (.int i6), some (.int i7), some (.int i8), some (.int i9), o10] [.int s0] σ Q := by
  intro hp R
  have F : mF hp hp := mF.rf
  refine mm_R.wpt (pc' := 224) (L' := [some ((.ref 86)), some (.int i1), some (.int i2), some (.int i3), some (.int i4), some (.int i5), some (.int i6), some (.int i7), some (.int i8), some (.int i9), some (.int s0)]) (r := []) 3 rfl rfl (m_pt (v := s0) R F rfl rfl rfl (fun hp R F => ?_))
  obtain ⟨σ1, es⟩ : ∃ z, z = mSet σ 36 s0 := ⟨_, rfl⟩
  rw [← es] at R
  replace H := H σ1 es
  refine mm_R.br (L' := [some ((.ref 86)), some (.int i1), some (.int i2), some (.int i3), some (.int i4), some (.int i5), some (.int i6), some (.int i7), some (.int i8), some (.int i9), some (.int s0)]) (st' := [(.ref 86)]) (t := 237) (u := 233) (b := mm_cc .ne i8 (0 : Int32)) 3 rfl (fun c => ?_) (fun c => ?_)
  · replace H := H.1 (of_decide_eq_true c)
    refine mm_R.br (L' := [some ((.ref 86)), some (.int i1), some (.int i2), some (.int i3), some (.int i4), some (.int i5), some (.int i6), some (.int i7), some (.int i8), some (.int i9), some (.int s0)]) (st' := [(.ref 86)]) (t := 263) (u := 244) (b := mm_cc .ge i9 s0) 3 rfl (fun c => ?_) (fun c => ?_)
    · replace H := H.1 (of_decide_eq_true c)
      refine mm_R.wpt (pc' := 265) (L' := [some ((.ref 86)), some (.int i1), some (.int i2), some (.int i3), some (.int i4), some (.int i5), some (.int i6), some (.int i7), some (.int i8), some (.int i9), some (.int s0)]) (r := []) 1 rfl rfl (m_pt (v := (-2 : Int32)) R F rfl rfl rfl (fun hp R F => ?_))
      obtain ⟨σ2, es⟩ : ∃ z, z = mSet σ1 35 (-2 : Int32) := ⟨_, rfl⟩
      rw [← es] at R
      replace H := H σ2 es
      exact H.use R F
    · replace H := H.2 (of_decide_eq_false c)
      refine mm_R.wgi (pc' := 246) (L' := [some ((.ref 86)), some (.int i1), some (.int i2), some (.int i3), some (.int i4), some (.int i5), some (.int i6), some (.int i7), some (.int i8), some (.int i9), some (.int s0)]) (r := [(.ref 86), (.ref 86)]) 2 rfl rfl (m_gi R rfl ?_)
      refine mm_R.cV (pc' := 252) (L' := [some ((.ref 86)), some (.int i1), some (.int i2), some (.int i3), some (.int i4), some (.int i5), some (.int i6), some (.int i7), some (.int i8), some (.int i9), some (.int s0)]) (st1 := [.int i6, (.ref 86), .int (σ1.1 35), (.ref 86), (.ref 86)]) (as := [.int i6]) (rest := [.int (σ1.1 35), (.ref 86), (.ref 86)]) 2 rfl rfl (mw_sp rfl rfl (Nat.le_of_ble_eq_true rfl) (mw_ac rfl (mw_ac rfl mw_an)) (mw_ac rfl (mw_ac rfl (mw_ac rfl mw_an)))) rfl rfl (m_rc R rfl) ((H _ R).mono (fun o hp1 H => ?_))
      obtain ⟨σ3, R, F1, x4, rfl, H⟩ := H
      replace F := F.tr F1
      refine mm_R.cV (pc' := 257) (L' := [some ((.ref 86)), some (.int i1), some (.int i2), some (.int i3), some (.int i4), some (.int i5), some (.int i6), some (.int i7), some (.int i8), some (.int i9), some (.int s0)]) (st1 := [.int i9, .int x4, .int (σ1.1 35), (.ref 86), (.ref 86)]) (as := [.int (σ1.1 35), .int x4, .int i9]) (rest := [(.ref 86)]) 1 rfl rfl (mw_sp rfl rfl (Nat.le_of_ble_eq_true rfl) (mw_ac rfl (mw_ac rfl (mw_ac rfl (mw_ac rfl mw_an)))) (mw_ac rfl mw_an)) rfl rfl (m_rc R rfl) ((H _ R).mono (fun o hp1 H => ?_))
      obtain ⟨σ5, R, F1, x6, rfl, H⟩ := H
      replace F := F.tr F1
      refine mm_R.wpt (pc' := 265) (L' := [some ((.ref 86)), some (.int i1), some (.int i2), some (.int i3), some (.int i4), some (.int i5), some (.int i6), some (.int i7), some (.int i8), some (.int i9), some (.int s0)]) (r := []) 1 rfl rfl (m_pt (v := x6) R F rfl rfl rfl (fun hp R F => ?_))
      obtain ⟨σ7, es⟩ : ∃ z, z = mSet σ5 35 x6 := ⟨_, rfl⟩
      rw [← es] at R
      replace H := H σ7 es
      exact H.use R F
  · replace H := H.2 (Decidable.of_not_not (of_decide_eq_false c))
    refine mm_R.wpt (pc' := 265) (L' := [some ((.ref 86)), some (.int i1), some (.int i2), some (.int i3), some (.int i4), some (.int i5), some (.int i6), some (.int i7), some (.int i8), some (.int i9), some (.int s0)]) (r := []) 2 rfl rfl (m_pt (v := (-1 : Int32)) R F rfl rfl rfl (fun hp R F => ?_))
    obtain ⟨σ8, es⟩ : ∃ z, z = mSet σ1 35 (-1 : Int32) := ⟨_, rfl⟩
    rw [← es] at R
    replace H := H σ8 es
    exact H.use R F
-- StepRunnerModel.follow, from 268
set_option maxRecDepth 10000 in
theorem u181_268 {X : List Int32} {d : Nat} {i1 : Int32} {i2 : Int32} {i3 : Int32} {i4 : Int32} {i5 : Int32} {i6 : Int32} {i7 : Int32} {i8 : Int32} {i9 : Int32} {o10 : Option Value} {σ : mS} {Q : Option Value → mS → Prop} (H : ((i8 = (0 : Int32) → mM X (d + 1) 181 83 [some ((.ref 86)), some (.int i1), some (.int i2), some (.int i3), some (.int i4), some (.int i5), some (.int i6), some (.int (i7 + (7 : Int32))), some (.int i8), some (.int i9), o10] [] σ Q) ∧ (¬ i8 = (0 : Int32) → mM X (d + 1) 181 83 [some ((.ref 86)), some (.int i1), some (.int i2), some (.int i3), some (.int i4), some (.int i5), some (.int i6), some (.int (i7 + (3 : Int32))), some (.int i8), some (.int i9), o10] [] σ Q))) : mM X (d + 1) 181 268 [some ((.ref 86)), some (.int i1), some (.int i2), some (.int i3), some (.int i4), some (.int i5), some (.int i6), some (.int i7), some (.int i8), some (.int i9), o10] [] σ Q := by
  intro hp R
  have F : mF hp hp := mF.rf
  refine mm_R.br (L' := [some ((.ref 86)), some (.int i1), some (.int i2), some (.int i3), some (.int i4), some (.int i5), some (.int i6), some (.int i7), some (.int i8), some (.int i9), o10]) (st' := []) (t := 280) (u := 273) (b := mm_cc .eq i8 (0 : Int32)) 2 rfl (fun c => ?_) (fun c => ?_)
  · replace H := H.1 (of_decide_eq_true c)
    exact mm_R.pn (pc' := 83) (L' := [some ((.ref 86)), some (.int i1), some (.int i2), some (.int i3), some (.int i4), some (.int i5), some (.int i6), some (.int (i7 + (7 : Int32))), some (.int i8), some (.int i9), o10]) (st' := []) 5 rfl (H.use R F)
  · replace H := H.2 (of_decide_eq_false c)
    exact mm_R.pn (pc' := 83) (L' := [some ((.ref 86)), some (.int i1), some (.int i2), some (.int i3), some (.int i4), some (.int i5), some (.int i6), some (.int (i7 + (3 : Int32))), some (.int i8), some (.int i9), o10]) (st' := []) 6 rfl (H.use R F)
