-- StepRunnerModel.next, from 0
set_option maxRecDepth 10000 in
theorem u167_0 {X : List Int32} {d : Nat}  {σ : mS} {Q : Option Value → mS → Prop} (H : mM X (d + 1) 167 2 [some ((.ref 86)), some (.int (0 : Int32)), none, none] [] σ Q) : mM X (d + 1) 167 0 (mm_L0 167 [(.ref 86)]) [] σ Q := by
  intro hp R
  have F : mF hp hp := mF.rf
  show mm_R X (d + 1) 167 0 [some ((.ref 86)), none, none, none] [] hp (mQ hp Q)
  exact mm_R.pn (pc' := 2) (L' := [some ((.ref 86)), some (.int (0 : Int32)), none, none]) (st' := []) 2 rfl (H.use R F)
-- StepRunnerModel.next, from 2
set_option maxRecDepth 10000 in
theorem u167_2 {X : List Int32} {d : Nat} {i1 : Int32} {o2 : Option Value} {o3 : Option Value} {σ : mS} {Q : Option Value → mS → Prop} (H : (((σ.1 25) ≤ i1 → Q (some (.int (-1 : Int32))) σ) ∧ (¬ (σ.1 25) ≤ i1 → (0 ≤ i1 ∧ Int32.toNatClampNeg i1 < 6) ∧ ((¬ (mGet σ 106 i1) = (0 : Int32) → mM X (d + 1) 167 27 [some ((.ref 86)), some (.int i1), some (.int (0 : Int32)), some (.int (0 : Int32))] [] σ Q) ∧ ((mGet σ 106 i1) = (0 : Int32) → mM X (d + 1) 167 27 [some ((.ref 86)), some (.int i1), some (.int (1 : Int32)), some (.int (0 : Int32))] [] σ Q))))) : mM X (d + 1) 167 2 [some ((.ref 86)), some (.int i1), o2, o3] [] σ Q := by
  intro hp R
  have F : mF hp hp := mF.rf
  refine mm_R.wgi (pc' := 4) (L' := [some ((.ref 86)), some (.int i1), o2, o3]) (r := [.int i1]) 2 rfl rfl (m_gi R rfl ?_)
  refine mm_R.br (L' := [some ((.ref 86)), some (.int i1), o2, o3]) (st' := []) (t := 82) (u := 10) (b := mm_cc .ge i1 (σ.1 25)) 1 rfl (fun c => ?_) (fun c => ?_)
  · replace H := H.1 (of_decide_eq_true c)
    exact mm_R.rt (pc' := 83) (L' := [some ((.ref 86)), some (.int i1), o2, o3]) (st1 := [.int (-1 : Int32)]) 1 rfl rfl rfl rfl rfl rfl ⟨_, R, F, H⟩
  · replace H := H.2 (of_decide_eq_false c)
    refine mm_R.wgv (pc' := 11) (L' := [some ((.ref 86)), some (.int i1), o2, o3]) (r := []) 1 rfl rfl (m_gv R rfl ?_)
    obtain ⟨hi1, H⟩ := H
    refine mm_R.wai (pc' := 15) (L' := [some ((.ref 86)), some (.int i1), o2, o3]) (r := []) (t := 1000) 1 rfl rfl rfl rfl (m_ai (i := i1) R (n := 6) (by decide) hi1 ?_)
    refine mm_R.br (L' := [some ((.ref 86)), some (.int i1), o2, o3]) (st' := []) (t := 23) (u := 19) (b := mm_cc .ne (mGet σ 106 i1) (0 : Int32)) 1 rfl (fun c => ?_) (fun c => ?_)
    · replace H := H.1 (of_decide_eq_true c)
      exact mm_R.pn (pc' := 27) (L' := [some ((.ref 86)), some (.int i1), some (.int (0 : Int32)), some (.int (0 : Int32))]) (st' := []) 4 rfl (H.use R F)
    · replace H := H.2 (Decidable.of_not_not (of_decide_eq_false c))
      exact mm_R.pn (pc' := 27) (L' := [some ((.ref 86)), some (.int i1), some (.int (1 : Int32)), some (.int (0 : Int32))]) (st' := []) 5 rfl (H.use R F)
-- StepRunnerModel.next, from 27
set_option maxRecDepth 10000 in
theorem u167_27 {X : List Int32} {d : Nat} {i1 : Int32} {i2 : Int32} {i3 : Int32} {σ : mS} {Q : Option Value → mS → Prop} (H : (((σ.1 25) ≤ i3 → ((i2 = (0 : Int32) → mM X (d + 1) 167 2 [some ((.ref 86)), some (.int (i1 + (1 : Int32))), some (.int i2), some (.int i3)] [] σ Q) ∧ (¬ i2 = (0 : Int32) → Q (some (.int i1)) σ))) ∧ (¬ (σ.1 25) ≤ i3 → ((i2 = (0 : Int32) → mM X (d + 1) 167 27 [some ((.ref 86)), some (.int i1), some (.int (0 : Int32)), some (.int (i3 + (1 : Int32)))] [] σ Q) ∧ (¬ i2 = (0 : Int32) → mM X d 164 0 (mm_L0 164 [(.ref 86), .int i1, .int i3]) [] σ (mi_K (fun x2 σ1 => ((x2 = (0 : Int32) → mM X (d + 1) 167 27 [some ((.ref 86)), some (.int i1), some (.int (1 : Int32)), some (.int (i3 + (1 : Int32)))] [] σ1 Q) ∧ (¬ x2 = (0 : Int32) → (0 ≤ i3 ∧ Int32.toNatClampNeg i3 < 6) ∧ ((¬ (mGet σ1 106 i3) = (2 : Int32) → mM X (d + 1) 167 27 [some ((.ref 86)), some (.int i1), some (.int (0 : Int32)), some (.int (i3 + (1 : Int32)))] [] σ1 Q) ∧ ((mGet σ1 106 i3) = (2 : Int32) → mM X (d + 1) 167 27 [some ((.ref 86)), some (.int i1), some (.int (1 : Int32)), some (.int (i3 + (1 : Int32)))] [] σ1 Q))))))))))) : mM X (d + 1) 167 27 [some ((.ref 86)), some (.int i1), some (.int i2), some (.int i3)] [] σ Q := by
  intro hp R
  have F : mF hp hp := mF.rf
  refine mm_R.wgi (pc' := 29) (L' := [some ((.ref 86)), some (.int i1), some (.int i2), some (.int i3)]) (r := [.int i3]) 2 rfl rfl (m_gi R rfl ?_)
  refine mm_R.br (L' := [some ((.ref 86)), some (.int i1), some (.int i2), some (.int i3)]) (st' := []) (t := 70) (u := 35) (b := mm_cc .ge i3 (σ.1 25)) 1 rfl (fun c => ?_) (fun c => ?_)
  · replace H := H.1 (of_decide_eq_true c)
    refine mm_R.br (L' := [some ((.ref 86)), some (.int i1), some (.int i2), some (.int i3)]) (st' := []) (t := 76) (u := 74) (b := mm_cc .eq i2 (0 : Int32)) 2 rfl (fun c => ?_) (fun c => ?_)
    · replace H := H.1 (of_decide_eq_true c)
      exact mm_R.pn (pc' := 2) (L' := [some ((.ref 86)), some (.int (i1 + (1 : Int32))), some (.int i2), some (.int i3)]) (st' := []) 2 rfl (H.use R F)
    · replace H := H.2 (of_decide_eq_false c)
      exact mm_R.rt (pc' := 75) (L' := [some ((.ref 86)), some (.int i1), some (.int i2), some (.int i3)]) (st1 := [.int i1]) 1 rfl rfl rfl rfl rfl rfl ⟨_, R, F, H⟩
  · replace H := H.2 (of_decide_eq_false c)
    refine mm_R.br (L' := [some ((.ref 86)), some (.int i1), some (.int i2), some (.int i3)]) (st' := []) (t := 62) (u := 39) (b := mm_cc .eq i2 (0 : Int32)) 2 rfl (fun c => ?_) (fun c => ?_)
    · replace H := H.1 (of_decide_eq_true c)
      exact mm_R.pn (pc' := 27) (L' := [some ((.ref 86)), some (.int i1), some (.int (0 : Int32)), some (.int (i3 + (1 : Int32)))]) (st' := []) 4 rfl (H.use R F)
    · replace H := H.2 (of_decide_eq_false c)
      refine mm_R.cV (pc' := 42) (L' := [some ((.ref 86)), some (.int i1), some (.int i2), some (.int i3)]) (st1 := [.int i3, .int i1, (.ref 86)]) (as := [.int i1, .int i3]) (rest := []) 3 rfl rfl (mw_sp rfl rfl (Nat.le_of_ble_eq_true rfl) (mw_ac rfl (mw_ac rfl (mw_ac rfl mw_an))) mw_an) rfl rfl (m_rc R rfl) ((H _ R).mono (fun o hp1 H => ?_))
      obtain ⟨σ1, R, F1, x2, rfl, H⟩ := H
      replace F := F.tr F1
      refine mm_R.br (L' := [some ((.ref 86)), some (.int i1), some (.int i2), some (.int i3)]) (st' := []) (t := 58) (u := 48) (b := mm_cc .eq x2 (0 : Int32)) 1 rfl (fun c => ?_) (fun c => ?_)
      · replace H := H.1 (of_decide_eq_true c)
        exact mm_R.pn (pc' := 27) (L' := [some ((.ref 86)), some (.int i1), some (.int (1 : Int32)), some (.int (i3 + (1 : Int32)))]) (st' := []) 5 rfl (H.use R F)
      · replace H := H.2 (of_decide_eq_false c)
        refine mm_R.wgv (pc' := 49) (L' := [some ((.ref 86)), some (.int i1), some (.int i2), some (.int i3)]) (r := []) 1 rfl rfl (m_gv R rfl ?_)
        obtain ⟨hi3, H⟩ := H
        refine mm_R.wai (pc' := 53) (L' := [some ((.ref 86)), some (.int i1), some (.int i2), some (.int i3)]) (r := []) (t := 1000) 1 rfl rfl rfl rfl (m_ai (i := i3) R (n := 6) (by decide) hi3 ?_)
        refine mm_R.br (L' := [some ((.ref 86)), some (.int i1), some (.int i2), some (.int i3)]) (st' := []) (t := 62) (u := 58) (b := mm_cc .ne (mGet σ1 106 i3) (2 : Int32)) 2 rfl (fun c => ?_) (fun c => ?_)
        · replace H := H.1 (of_decide_eq_true c)
          exact mm_R.pn (pc' := 27) (L' := [some ((.ref 86)), some (.int i1), some (.int (0 : Int32)), some (.int (i3 + (1 : Int32)))]) (st' := []) 4 rfl (H.use R F)
        · replace H := H.2 (Decidable.of_not_not (of_decide_eq_false c))
          exact mm_R.pn (pc' := 27) (L' := [some ((.ref 86)), some (.int i1), some (.int (1 : Int32)), some (.int (i3 + (1 : Int32)))]) (st' := []) 5 rfl (H.use R F)
-- StepRunnerModel.expand, from 0
set_option maxRecDepth 10000 in
theorem u168_0 {X : List Int32} {d : Nat} {i1 : Int32} {σ : mS} {Q : Option Value → mS → Prop} (H : (0 ≤ i1 ∧ Int32.toNatClampNeg i1 < 6) ∧ (0 ≤ (mGet σ 96 i1) ∧ Int32.toNatClampNeg (mGet σ 96 i1) < 4) ∧ mM X (d + 1) 168 14 [some ((.ref 86)), some (.int i1), some (.int (mGet σ 92 (mGet σ 96 i1))), some (.int (0 : Int32)), none, none] [] σ Q) : mM X (d + 1) 168 0 (mm_L0 168 [(.ref 86), .int i1]) [] σ Q := by
  intro hp R
  have F : mF hp hp := mF.rf
  show mm_R X (d + 1) 168 0 [some ((.ref 86)), some (.int i1), none, none, none, none] [] hp (mQ hp Q)
  refine mm_R.wgv (pc' := 1) (L' := [some ((.ref 86)), some (.int i1), none, none, none, none]) (r := []) 1 rfl rfl (m_gv R rfl ?_)
  refine mm_R.wgv (pc' := 5) (L' := [some ((.ref 86)), some (.int i1), none, none, none, none]) (r := [(.ref 92)]) 1 rfl rfl (m_gv R rfl ?_)
  obtain ⟨hi1, H⟩ := H
  refine mm_R.wai (pc' := 9) (L' := [some ((.ref 86)), some (.int i1), none, none, none, none]) (r := [(.ref 92)]) (t := 1000) 1 rfl rfl rfl rfl (m_ai (i := i1) R (n := 6) (by decide) hi1 ?_)
  obtain ⟨hi2, H⟩ := H
  refine mm_R.wai (pc' := 10) (L' := [some ((.ref 86)), some (.int i1), none, none, none, none]) (r := []) (t := 1000) 0 rfl rfl rfl rfl (m_ai (i := (mGet σ 96 i1)) R (n := 4) (by decide) hi2 ?_)
  exact mm_R.pn (pc' := 14) (L' := [some ((.ref 86)), some (.int i1), some (.int (mGet σ 92 (mGet σ 96 i1))), some (.int (0 : Int32)), none, none]) (st' := []) 3 rfl (H.use R F)
-- StepRunnerModel.expand, from 14
set_option maxRecDepth 10000 in
theorem u168_14 {X : List Int32} {d : Nat} {i1 : Int32} {i2 : Int32} {i3 : Int32} {o4 : Option Value} {o5 : Option Value} {σ : mS} {Q : Option Value → mS → Prop} (H : ((i2 ≤ i3 → mM X d 174 0 (mm_L0 174 [(.ref 86), .int i1]) [] σ (mi_K (fun x2 σ1 => ((¬ x2 = (0 : Int32) → mM X d 175 0 (mm_L0 175 [(.ref 86), .int i1, .int x2]) [] σ1 (mi_K (fun x4 σ3 => (((0 : Int32) ≤ x4 → mM X (d + 1) 168 76 [some ((.ref 86)), some (.int i1), some (.int i2), some (.int x2), some (.int x4), some (.int (0 : Int32))] [] σ3 Q) ∧ (¬ (0 : Int32) ≤ x4 → mM X d 173 0 (mm_L0 173 [(.ref 86), .int i1]) [] σ3 (m0_K (fun σ5 => Q none σ5))))))) ∧ (x2 = (0 : Int32) → (((0 : Int32) ≤ (1 : Int32) → mM X (d + 1) 168 76 [some ((.ref 86)), some (.int i1), some (.int i2), some (.int x2), some (.int (1 : Int32)), some (.int (0 : Int32))] [] σ1 Q) ∧ (¬ (0 : Int32) ≤ (1 : Int32) → mM X d 173 0 (mm_L0 173 [(.ref 86), .int i1]) [] σ1 (m0_K (fun σ6 => Q none σ6))))))))) ∧ (¬ i2 ≤ i3 → mM X d 169 0 (mm_L0 169 [(.ref 86), .int i1, .int i3]) [] σ (mi_K (fun x8 σ7 => ((¬ x8 = (0 : Int32) → mM X (d + 1) 168 14 [some ((.ref 86)), some (.int i1), some (.int i2), some (.int (i3 + (1 : Int32))), o4, o5] [] σ7 Q) ∧ (x8 = (0 : Int32) → mM X d 173 0 (mm_L0 173 [(.ref 86), .int i1]) [] σ7 (m0_K (fun σ9 => Q none σ9))))))))) : mM X (d + 1) 168 14 [some ((.ref 86)), some (.int i1), some (.int i2), some (.int i3), o4, o5] [] σ Q := by
  intro hp R
  have F : mF hp hp := mF.rf
  refine mm_R.br (L' := [some ((.ref 86)), some (.int i1), some (.int i2), some (.int i3), o4, o5]) (st' := []) (t := 40) (u := 19) (b := mm_cc .ge i3 i2) 3 rfl (fun c => ?_) (fun c => ?_)
  · replace H := H.1 (of_decide_eq_true c)
    refine mm_R.cV (pc' := 42) (L' := [some ((.ref 86)), some (.int i1), some (.int i2), some (.int i3), o4, o5]) (st1 := [.int i1, (.ref 86)]) (as := [.int i1]) (rest := []) 2 rfl rfl (mw_sp rfl rfl (Nat.le_of_ble_eq_true rfl) (mw_ac rfl (mw_ac rfl mw_an)) mw_an) rfl rfl (m_rc R rfl) ((H _ R).mono (fun o hp1 H => ?_))
    obtain ⟨σ1, R, F1, x2, rfl, H⟩ := H
    replace F := F.tr F1
    refine mm_R.br (L' := [some ((.ref 86)), some (.int i1), some (.int i2), some (.int x2), o4, o5]) (st' := []) (t := 54) (u := 50) (b := mm_cc .ne x2 (0 : Int32)) 3 rfl (fun c => ?_) (fun c => ?_)
    · replace H := H.1 (of_decide_eq_true c)
      refine mm_R.cV (pc' := 57) (L' := [some ((.ref 86)), some (.int i1), some (.int i2), some (.int x2), o4, o5]) (st1 := [.int x2, .int i1, (.ref 86)]) (as := [.int i1, .int x2]) (rest := []) 3 rfl rfl (mw_sp rfl rfl (Nat.le_of_ble_eq_true rfl) (mw_ac rfl (mw_ac rfl (mw_ac rfl mw_an))) mw_an) rfl rfl (m_rc R rfl) ((H _ R).mono (fun o hp1 H => ?_))
      obtain ⟨σ3, R, F1, x4, rfl, H⟩ := H
      replace F := F.tr F1
      refine mm_R.br (L' := [some ((.ref 86)), some (.int i1), some (.int i2), some (.int x2), some (.int x4), o5]) (st' := []) (t := 73) (u := 67) (b := mm_cc .ge x4 (0 : Int32)) 3 rfl (fun c => ?_) (fun c => ?_)
      · replace H := H.1 (of_decide_eq_true c)
        exact mm_R.pn (pc' := 76) (L' := [some ((.ref 86)), some (.int i1), some (.int i2), some (.int x2), some (.int x4), some (.int (0 : Int32))]) (st' := []) 2 rfl (H.use R F)
      · replace H := H.2 (of_decide_eq_false c)
        refine mm_R.cV (pc' := 69) (L' := [some ((.ref 86)), some (.int i1), some (.int i2), some (.int x2), some (.int x4), o5]) (st1 := [.int i1, (.ref 86)]) (as := [.int i1]) (rest := []) 2 rfl rfl (mw_sp rfl rfl (Nat.le_of_ble_eq_true rfl) (mw_ac rfl (mw_ac rfl mw_an)) mw_an) rfl rfl (m_rc R rfl) ((H _ R).mono (fun o hp1 H => ?_))
        obtain ⟨σ5, R, F1, rfl, H⟩ := H
        replace F := F.tr F1
        exact mm_R.rt (pc' := 72) (L' := [some ((.ref 86)), some (.int i1), some (.int i2), some (.int x2), some (.int x4), o5]) (st1 := []) 0 rfl rfl rfl rfl rfl rfl ⟨_, R, F, H⟩
    · replace H := H.2 (Decidable.of_not_not (of_decide_eq_false c))
      refine mm_R.br (L' := [some ((.ref 86)), some (.int i1), some (.int i2), some (.int x2), some (.int (1 : Int32)), o5]) (st' := []) (t := 73) (u := 67) (b := mm_cc .ge (1 : Int32) (0 : Int32)) 5 rfl (fun c => ?_) (fun c => ?_)
      · replace H := H.1 (of_decide_eq_true c)
        exact mm_R.pn (pc' := 76) (L' := [some ((.ref 86)), some (.int i1), some (.int i2), some (.int x2), some (.int (1 : Int32)), some (.int (0 : Int32))]) (st' := []) 2 rfl (H.use R F)
      · replace H := H.2 (of_decide_eq_false c)
        refine mm_R.cV (pc' := 69) (L' := [some ((.ref 86)), some (.int i1), some (.int i2), some (.int x2), some (.int (1 : Int32)), o5]) (st1 := [.int i1, (.ref 86)]) (as := [.int i1]) (rest := []) 2 rfl rfl (mw_sp rfl rfl (Nat.le_of_ble_eq_true rfl) (mw_ac rfl (mw_ac rfl mw_an)) mw_an) rfl rfl (m_rc R rfl) ((H _ R).mono (fun o hp1 H => ?_))
        obtain ⟨σ6, R, F1, rfl, H⟩ := H
        replace F := F.tr F1
        exact mm_R.rt (pc' := 72) (L' := [some ((.ref 86)), some (.int i1), some (.int i2), some (.int x2), some (.int (1 : Int32)), o5]) (st1 := []) 0 rfl rfl rfl rfl rfl rfl ⟨_, R, F, H⟩
  · replace H := H.2 (of_decide_eq_false c)
    refine mm_R.cV (pc' := 22) (L' := [some ((.ref 86)), some (.int i1), some (.int i2), some (.int i3), o4, o5]) (st1 := [.int i3, .int i1, (.ref 86)]) (as := [.int i1, .int i3]) (rest := []) 3 rfl rfl (mw_sp rfl rfl (Nat.le_of_ble_eq_true rfl) (mw_ac rfl (mw_ac rfl (mw_ac rfl mw_an))) mw_an) rfl rfl (m_rc R rfl) ((H _ R).mono (fun o hp1 H => ?_))
    obtain ⟨σ7, R, F1, x8, rfl, H⟩ := H
    replace F := F.tr F1
    refine mm_R.br (L' := [some ((.ref 86)), some (.int i1), some (.int i2), some (.int i3), o4, o5]) (st' := []) (t := 34) (u := 28) (b := mm_cc .ne x8 (0 : Int32)) 1 rfl (fun c => ?_) (fun c => ?_)
    · replace H := H.1 (of_decide_eq_true c)
      exact mm_R.pn (pc' := 14) (L' := [some ((.ref 86)), some (.int i1), some (.int i2), some (.int (i3 + (1 : Int32))), o4, o5]) (st' := []) 2 rfl (H.use R F)
    · replace H := H.2 (Decidable.of_not_not (of_decide_eq_false c))
      refine mm_R.cV (pc' := 30) (L' := [some ((.ref 86)), some (.int i1), some (.int i2), some (.int i3), o4, o5]) (st1 := [.int i1, (.ref 86)]) (as := [.int i1]) (rest := []) 2 rfl rfl (mw_sp rfl rfl (Nat.le_of_ble_eq_true rfl) (mw_ac rfl (mw_ac rfl mw_an)) mw_an) rfl rfl (m_rc R rfl) ((H _ R).mono (fun o hp1 H => ?_))
      obtain ⟨σ9, R, F1, rfl, H⟩ := H
      replace F := F.tr F1
      exact mm_R.rt (pc' := 33) (L' := [some ((.ref 86)), some (.int i1), some (.int i2), some (.int i3), o4, o5]) (st1 := []) 0 rfl rfl rfl rfl rfl rfl ⟨_, R, F, H⟩
-- StepRunnerModel.expand, from 76
set_option maxRecDepth 10000 in
theorem u168_76 {X : List Int32} {d : Nat} {i1 : Int32} {i2 : Int32} {i3 : Int32} {i4 : Int32} {i5 : Int32} {σ : mS} {Q : Option Value → mS → Prop} (H : ((i2 ≤ i5 → (0 ≤ i1 ∧ Int32.toNatClampNeg i1 < 6) ∧ ∀ σ2, σ2 = mPut σ 106 i1 (1 : Int32) → (0 ≤ i1 ∧ Int32.toNatClampNeg i1 < 6) ∧ ∀ σ4, σ4 = mPut σ2 107 i1 i4 → mM X (d + 1) 168 140 [some ((.ref 86)), some (.int i1), some (.int i2), some (.int i3), some (.int i4), some (.int (0 : Int32))] [] σ4 Q) ∧ (¬ i2 ≤ i5 → mM X d 123 0 (mm_L0 123 [.int ((129 : Int32) + i5)]) [] σ (mi_K (fun x6 σ5 => mM X d 143 0 (mm_L0 143 [(.ref 86), .int ((129 : Int32) + i5)]) [] σ5 (mi_K (fun x8 σ7 => mM X d 146 0 (mm_L0 146 [(.ref 86), .int x6, .int x8]) [] σ7 (mi_K (fun x10 σ9 => (0 ≤ (((4 : Int32) * i1) + i5) ∧ Int32.toNatClampNeg (((4 : Int32) * i1) + i5) < 24) ∧ ∀ σ12, σ12 = mPut σ9 112 (((4 : Int32) * i1) + i5) x10 → mM X (d + 1) 168 76 [some ((.ref 86)), some (.int i1), some (.int i2), some (.int i3), some (.int i4), some (.int (i5 + (1 : Int32)))] [] σ12 Q))))))))) : mM X (d + 1) 168 76 [some ((.ref 86)), some (.int i1), some (.int i2), some (.int i3), some (.int i4), some (.int i5)] [] σ Q := by
  intro hp R
  have F : mF hp hp := mF.rf
  refine mm_R.br (L' := [some ((.ref 86)), some (.int i1), some (.int i2), some (.int i3), some (.int i4), some (.int i5)]) (st' := []) (t := 122) (u := 82) (b := mm_cc .ge i5 i2) 3 rfl (fun c => ?_) (fun c => ?_)
  · replace H := H.1 (of_decide_eq_true c)
    refine mm_R.wgv (pc' := 123) (L' := [some ((.ref 86)), some (.int i1), some (.int i2), some (.int i3), some (.int i4), some (.int i5)]) (r := []) 1 rfl rfl (m_gv R rfl ?_)
    obtain ⟨hi1, H⟩ := H
    refine mm_R.wsi (pc' := 128) (L' := [some ((.ref 86)), some (.int i1), some (.int i2), some (.int i3), some (.int i4), some (.int i5)]) (r := []) (t := 1000) (ty := .int) 2 rfl rfl rfl rfl (m_si (i := i1) (v := (1 : Int32)) R F (n := 6) (by decide) hi1 rfl (fun hp R F => ?_))
    obtain ⟨σ2, es⟩ : ∃ z, z = mPut σ 106 i1 (1 : Int32) := ⟨_, rfl⟩
    rw [← es] at R
    replace H := H σ2 es
    refine mm_R.wgv (pc' := 130) (L' := [some ((.ref 86)), some (.int i1), some (.int i2), some (.int i3), some (.int i4), some (.int i5)]) (r := []) 1 rfl rfl (m_gv R rfl ?_)
    obtain ⟨hi3, H⟩ := H
    refine mm_R.wsi (pc' := 136) (L' := [some ((.ref 86)), some (.int i1), some (.int i2), some (.int i3), some (.int i4), some (.int i5)]) (r := []) (t := 1000) (ty := .int) 2 rfl rfl rfl rfl (m_si (i := i1) (v := i4) R F (n := 6) (by decide) hi3 rfl (fun hp R F => ?_))
    obtain ⟨σ4, es⟩ : ∃ z, z = mPut σ2 107 i1 i4 := ⟨_, rfl⟩
    rw [← es] at R
    replace H := H σ4 es
    exact mm_R.pn (pc' := 140) (L' := [some ((.ref 86)), some (.int i1), some (.int i2), some (.int i3), some (.int i4), some (.int (0 : Int32))]) (st' := []) 2 rfl (H.use R F)
  · replace H := H.2 (of_decide_eq_false c)
    refine mm_R.wgv (pc' := 83) (L' := [some ((.ref 86)), some (.int i1), some (.int i2), some (.int i3), some (.int i4), some (.int i5)]) (r := []) 1 rfl rfl (m_gv R rfl ?_)
    refine mm_R.cS (pc' := 99) (L' := [some ((.ref 86)), some (.int i1), some (.int i2), some (.int i3), some (.int i4), some (.int i5)]) (st1 := [.int ((129 : Int32) + i5), (.ref 86), .int (((4 : Int32) * i1) + i5), (.ref 112)]) (as := [.int ((129 : Int32) + i5)]) (rest := [(.ref 86), .int (((4 : Int32) * i1) + i5), (.ref 112)]) 9 rfl rfl (mw_sp rfl rfl (Nat.le_of_ble_eq_true rfl) (mw_ac rfl mw_an) (mw_ac rfl (mw_ac rfl (mw_ac rfl mw_an)))) rfl rfl ((H _ R).mono (fun o hp1 H => ?_))
    obtain ⟨σ5, R, F1, x6, rfl, H⟩ := H
    replace F := F.tr F1
    refine mm_R.cV (pc' := 109) (L' := [some ((.ref 86)), some (.int i1), some (.int i2), some (.int i3), some (.int i4), some (.int i5)]) (st1 := [.int ((129 : Int32) + i5), (.ref 86), .int x6, (.ref 86), .int (((4 : Int32) * i1) + i5), (.ref 112)]) (as := [.int ((129 : Int32) + i5)]) (rest := [.int x6, (.ref 86), .int (((4 : Int32) * i1) + i5), (.ref 112)]) 4 rfl rfl (mw_sp rfl rfl (Nat.le_of_ble_eq_true rfl) (mw_ac rfl (mw_ac rfl mw_an)) (mw_ac rfl (mw_ac rfl (mw_ac rfl (mw_ac rfl mw_an))))) rfl rfl (m_rc R rfl) ((H _ R).mono (fun o hp1 H => ?_))
    obtain ⟨σ7, R, F1, x8, rfl, H⟩ := H
    replace F := F.tr F1
    refine mm_R.cV (pc' := 112) (L' := [some ((.ref 86)), some (.int i1), some (.int i2), some (.int i3), some (.int i4), some (.int i5)]) (st1 := [.int x8, .int x6, (.ref 86), .int (((4 : Int32) * i1) + i5), (.ref 112)]) (as := [.int x6, .int x8]) (rest := [.int (((4 : Int32) * i1) + i5), (.ref 112)]) 0 rfl rfl (mw_sp rfl rfl (Nat.le_of_ble_eq_true rfl) (mw_ac rfl (mw_ac rfl (mw_ac rfl mw_an))) (mw_ac rfl (mw_ac rfl mw_an))) rfl rfl (m_rc R rfl) ((H _ R).mono (fun o hp1 H => ?_))
    obtain ⟨σ9, R, F1, x10, rfl, H⟩ := H
    replace F := F.tr F1
    obtain ⟨hi11, H⟩ := H
    refine mm_R.wsi (pc' := 115) (L' := [some ((.ref 86)), some (.int i1), some (.int i2), some (.int i3), some (.int i4), some (.int i5)]) (r := []) (t := 1000) (ty := .int) 0 rfl rfl rfl rfl (m_si (i := (((4 : Int32) * i1) + i5)) (v := x10) R F (n := 24) (by decide) hi11 rfl (fun hp R F => ?_))
    obtain ⟨σ12, es⟩ : ∃ z, z = mPut σ9 112 (((4 : Int32) * i1) + i5) x10 := ⟨_, rfl⟩
    rw [← es] at R
    replace H := H σ12 es
    exact mm_R.pn (pc' := 76) (L' := [some ((.ref 86)), some (.int i1), some (.int i2), some (.int i3), some (.int i4), some (.int (i5 + (1 : Int32)))]) (st' := []) 2 rfl (H.use R F)
-- StepRunnerModel.expand, from 140
set_option maxRecDepth 10000 in
theorem u168_140 {X : List Int32} {d : Nat} {i1 : Int32} {i2 : Int32} {i3 : Int32} {i4 : Int32} {i5 : Int32} {σ : mS} {Q : Option Value → mS → Prop} (H : ((i4 ≤ i5 → mM X d 193 0 (mm_L0 193 [(.ref 86), .int i1]) [] σ (mi_K (fun x2 σ1 => ((x2 = (0 : Int32) → Q none σ1) ∧ (¬ x2 = (0 : Int32) → mM X d 194 0 (mm_L0 194 [(.ref 86), .int i1]) [] σ1 (m0_K (fun σ3 => Q none σ3))))))) ∧ (¬ i4 ≤ i5 → mM X d 176 0 (mm_L0 176 [(.ref 86), .int i1, .int i5, .int i3]) [] σ (mi_K (fun x5 σ4 => ((¬ x5 = (0 : Int32) → mM X (d + 1) 168 140 [some ((.ref 86)), some (.int i1), some (.int i2), some (.int i3), some (.int i4), some (.int (i5 + (1 : Int32)))] [] σ4 Q) ∧ (x5 = (0 : Int32) → mM X d 173 0 (mm_L0 173 [(.ref 86), .int i1]) [] σ4 (m0_K (fun σ6 => Q none σ6))))))))) : mM X (d + 1) 168 140 [some ((.ref 86)), some (.int i1), some (.int i2), some (.int i3), some (.int i4), some (.int i5)] [] σ Q := by
  intro hp R
  have F : mF hp hp := mF.rf
  refine mm_R.br (L' := [some ((.ref 86)), some (.int i1), some (.int i2), some (.int i3), some (.int i4), some (.int i5)]) (st' := []) (t := 170) (u := 147) (b := mm_cc .ge i5 i4) 3 rfl (fun c => ?_) (fun c => ?_)
  · replace H := H.1 (of_decide_eq_true c)
    refine mm_R.cV (pc' := 172) (L' := [some ((.ref 86)), some (.int i1), some (.int i2), some (.int i3), some (.int i4), some (.int i5)]) (st1 := [.int i1, (.ref 86)]) (as := [.int i1]) (rest := []) 2 rfl rfl (mw_sp rfl rfl (Nat.le_of_ble_eq_true rfl) (mw_ac rfl (mw_ac rfl mw_an)) mw_an) rfl rfl (m_rc R rfl) ((H _ R).mono (fun o hp1 H => ?_))
    obtain ⟨σ1, R, F1, x2, rfl, H⟩ := H
    replace F := F.tr F1
    refine mm_R.br (L' := [some ((.ref 86)), some (.int i1), some (.int i2), some (.int i3), some (.int i4), some (.int i5)]) (st' := []) (t := 183) (u := 178) (b := mm_cc .eq x2 (0 : Int32)) 1 rfl (fun c => ?_) (fun c => ?_)
    · replace H := H.1 (of_decide_eq_true c)
      exact mm_R.rt (pc' := 183) (L' := [some ((.ref 86)), some (.int i1), some (.int i2), some (.int i3), some (.int i4), some (.int i5)]) (st1 := []) 0 rfl rfl rfl rfl rfl rfl ⟨_, R, F, H⟩
    · replace H := H.2 (of_decide_eq_false c)
      refine mm_R.cV (pc' := 180) (L' := [some ((.ref 86)), some (.int i1), some (.int i2), some (.int i3), some (.int i4), some (.int i5)]) (st1 := [.int i1, (.ref 86)]) (as := [.int i1]) (rest := []) 2 rfl rfl (mw_sp rfl rfl (Nat.le_of_ble_eq_true rfl) (mw_ac rfl (mw_ac rfl mw_an)) mw_an) rfl rfl (m_rc R rfl) ((H _ R).mono (fun o hp1 H => ?_))
      obtain ⟨σ3, R, F1, rfl, H⟩ := H
      replace F := F.tr F1
      exact mm_R.rt (pc' := 183) (L' := [some ((.ref 86)), some (.int i1), some (.int i2), some (.int i3), some (.int i4), some (.int i5)]) (st1 := []) 0 rfl rfl rfl rfl rfl rfl ⟨_, R, F, H⟩
  · replace H := H.2 (of_decide_eq_false c)
    refine mm_R.cV (pc' := 152) (L' := [some ((.ref 86)), some (.int i1), some (.int i2), some (.int i3), some (.int i4), some (.int i5)]) (st1 := [.int i3, .int i5, .int i1, (.ref 86)]) (as := [.int i1, .int i5, .int i3]) (rest := []) 4 rfl rfl (mw_sp rfl rfl (Nat.le_of_ble_eq_true rfl) (mw_ac rfl (mw_ac rfl (mw_ac rfl (mw_ac rfl mw_an)))) mw_an) rfl rfl (m_rc R rfl) ((H _ R).mono (fun o hp1 H => ?_))
    obtain ⟨σ4, R, F1, x5, rfl, H⟩ := H
    replace F := F.tr F1
    refine mm_R.br (L' := [some ((.ref 86)), some (.int i1), some (.int i2), some (.int i3), some (.int i4), some (.int i5)]) (st' := []) (t := 164) (u := 158) (b := mm_cc .ne x5 (0 : Int32)) 1 rfl (fun c => ?_) (fun c => ?_)
    · replace H := H.1 (of_decide_eq_true c)
      exact mm_R.pn (pc' := 140) (L' := [some ((.ref 86)), some (.int i1), some (.int i2), some (.int i3), some (.int i4), some (.int (i5 + (1 : Int32)))]) (st' := []) 2 rfl (H.use R F)
    · replace H := H.2 (Decidable.of_not_not (of_decide_eq_false c))
      refine mm_R.cV (pc' := 160) (L' := [some ((.ref 86)), some (.int i1), some (.int i2), some (.int i3), some (.int i4), some (.int i5)]) (st1 := [.int i1, (.ref 86)]) (as := [.int i1]) (rest := []) 2 rfl rfl (mw_sp rfl rfl (Nat.le_of_ble_eq_true rfl) (mw_ac rfl (mw_ac rfl mw_an)) mw_an) rfl rfl (m_rc R rfl) ((H _ R).mono (fun o hp1 H => ?_))
      obtain ⟨σ6, R, F1, rfl, H⟩ := H
      replace F := F.tr F1
      exact mm_R.rt (pc' := 163) (L' := [some ((.ref 86)), some (.int i1), some (.int i2), some (.int i3), some (.int i4), some (.int i5)]) (st1 := []) 0 rfl rfl rfl rfl rfl rfl ⟨_, R, F, H⟩
-- StepRunnerModel.gathered, from 0
set_option maxRecDepth 10000 in
theorem u169_0 {X : List Int32} {d : Nat} {i1 : Int32} {i2 : Int32} {σ : mS} {Q : Option Value → mS → Prop} (H : mM X d 121 0 (mm_L0 121 [(.ref 86), .int ((129 : Int32) + i2)]) [] σ (m0_K (fun σ1 => (0 ≤ (((4 : Int32) * i1) + i2) ∧ Int32.toNatClampNeg (((4 : Int32) * i1) + i2) < 24) ∧ ((¬ (mGet σ1 99 (((4 : Int32) * i1) + i2)) = (0 : Int32) → (0 ≤ (((4 : Int32) * i1) + i2) ∧ Int32.toNatClampNeg (((4 : Int32) * i1) + i2) < 24) ∧ ((¬ (mGet σ1 99 (((4 : Int32) * i1) + i2)) = (1 : Int32) → mM X d 171 0 (mm_L0 171 [(.ref 86), .int (((4 : Int32) * i1) + i2), .int ((129 : Int32) + i2)]) [] σ1 (m0_K (fun σ4 => mM X (d + 1) 169 84 [some ((.ref 86)), some (.int i1), some (.int i2), some (.int (((4 : Int32) * i1) + i2)), some (.int ((129 : Int32) + i2))] [] σ4 Q))) ∧ ((mGet σ1 99 (((4 : Int32) * i1) + i2)) = (1 : Int32) → (0 ≤ (((4 : Int32) * i1) + i2) ∧ Int32.toNatClampNeg (((4 : Int32) * i1) + i2) < 24) ∧ ((¬ (mGet σ1 101 (((4 : Int32) * i1) + i2)) = (0 : Int32) → mM X d 171 0 (mm_L0 171 [(.ref 86), .int (((4 : Int32) * i1) + i2), .int ((129 : Int32) + i2)]) [] σ1 (m0_K (fun σ6 => mM X (d + 1) 169 84 [some ((.ref 86)), some (.int i1), some (.int i2), some (.int (((4 : Int32) * i1) + i2)), some (.int ((129 : Int32) + i2))] [] σ6 Q))) ∧ ((mGet σ1 101 (((4 : Int32) * i1) + i2)) = (0 : Int32) → (0 ≤ ((3 : Int32) * (((4 : Int32) * i1) + i2)) ∧ Int32.toNatClampNeg ((3 : Int32) * (((4 : Int32) * i1) + i2)) < 72) ∧ mM X d 170 0 (mm_L0 170 [(.ref 86), .int (mGet σ1 100 ((3 : Int32) * (((4 : Int32) * i1) + i2))), .int ((129 : Int32) + i2), .int (0 : Int32)]) [] σ1 (m0_K (fun σ8 => mM X (d + 1) 169 84 [some ((.ref 86)), some (.int i1), some (.int i2), some (.int (((4 : Int32) * i1) + i2)), some (.int ((129 : Int32) + i2))] [] σ8 Q))))))) ∧ ((mGet σ1 99 (((4 : Int32) * i1) + i2)) = (0 : Int32) → mM X d 122 0 (mm_L0 122 [(.ref 86), .int ((129 : Int32) + i2), .int (0 : Int32), .int (0 : Int32), .int (0 : Int32)]) [] σ1 (m0_K (fun σ9 => mM X (d + 1) 169 84 [some ((.ref 86)), some (.int i1), some (.int i2), some (.int (((4 : Int32) * i1) + i2)), some (.int ((129 : Int32) + i2))] [] σ9 Q))))))) : mM X (d + 1) 169 0 (mm_L0 169 [(.ref 86), .int i1, .int i2]) [] σ Q := by
  intro hp R
  have F : mF hp hp := mF.rf
  show mm_R X (d + 1) 169 0 [some ((.ref 86)), some (.int i1), some (.int i2), none, none] [] hp (mQ hp Q)
  refine mm_R.cV (pc' := 16) (L' := [some ((.ref 86)), some (.int i1), some (.int i2), some (.int (((4 : Int32) * i1) + i2)), some (.int ((129 : Int32) + i2))]) (st1 := [.int ((129 : Int32) + i2), (.ref 86)]) (as := [.int ((129 : Int32) + i2)]) (rest := []) 12 rfl rfl (mw_sp rfl rfl (Nat.le_of_ble_eq_true rfl) (mw_ac rfl (mw_ac rfl mw_an)) mw_an) rfl rfl (m_rc R rfl) ((H _ R).mono (fun o hp1 H => ?_))
  obtain ⟨σ1, R, F1, rfl, H⟩ := H
  replace F := F.tr F1
  refine mm_R.wgv (pc' := 20) (L' := [some ((.ref 86)), some (.int i1), some (.int i2), some (.int (((4 : Int32) * i1) + i2)), some (.int ((129 : Int32) + i2))]) (r := []) 1 rfl rfl (m_gv R rfl ?_)
  obtain ⟨hi2, H⟩ := H
  refine mm_R.wai (pc' := 24) (L' := [some ((.ref 86)), some (.int i1), some (.int i2), some (.int (((4 : Int32) * i1) + i2)), some (.int ((129 : Int32) + i2))]) (r := []) (t := 1000) 1 rfl rfl rfl rfl (m_ai (i := (((4 : Int32) * i1) + i2)) R (n := 24) (by decide) hi2 ?_)
  refine mm_R.br (L' := [some ((.ref 86)), some (.int i1), some (.int i2), some (.int (((4 : Int32) * i1) + i2)), some (.int ((129 : Int32) + i2))]) (st' := []) (t := 40) (u := 28) (b := mm_cc .ne (mGet σ1 99 (((4 : Int32) * i1) + i2)) (0 : Int32)) 1 rfl (fun c => ?_) (fun c => ?_)
  · replace H := H.1 (of_decide_eq_true c)
    refine mm_R.wgv (pc' := 41) (L' := [some ((.ref 86)), some (.int i1), some (.int i2), some (.int (((4 : Int32) * i1) + i2)), some (.int ((129 : Int32) + i2))]) (r := []) 1 rfl rfl (m_gv R rfl ?_)
    obtain ⟨hi3, H⟩ := H
    refine mm_R.wai (pc' := 45) (L' := [some ((.ref 86)), some (.int i1), some (.int i2), some (.int (((4 : Int32) * i1) + i2)), some (.int ((129 : Int32) + i2))]) (r := []) (t := 1000) 1 rfl rfl rfl rfl (m_ai (i := (((4 : Int32) * i1) + i2)) R (n := 24) (by decide) hi3 ?_)
    refine mm_R.br (L' := [some ((.ref 86)), some (.int i1), some (.int i2), some (.int (((4 : Int32) * i1) + i2)), some (.int ((129 : Int32) + i2))]) (st' := []) (t := 77) (u := 50) (b := mm_cc .ne (mGet σ1 99 (((4 : Int32) * i1) + i2)) (1 : Int32)) 2 rfl (fun c => ?_) (fun c => ?_)
    · replace H := H.1 (of_decide_eq_true c)
      refine mm_R.cV (pc' := 81) (L' := [some ((.ref 86)), some (.int i1), some (.int i2), some (.int (((4 : Int32) * i1) + i2)), some (.int ((129 : Int32) + i2))]) (st1 := [.int ((129 : Int32) + i2), .int (((4 : Int32) * i1) + i2), (.ref 86)]) (as := [.int (((4 : Int32) * i1) + i2), .int ((129 : Int32) + i2)]) (rest := []) 3 rfl rfl (mw_sp rfl rfl (Nat.le_of_ble_eq_true rfl) (mw_ac rfl (mw_ac rfl (mw_ac rfl mw_an))) mw_an) rfl rfl (m_rc R rfl) ((H _ R).mono (fun o hp1 H => ?_))
      obtain ⟨σ4, R, F1, rfl, H⟩ := H
      replace F := F.tr F1
      exact H.use R F
    · replace H := H.2 (Decidable.of_not_not (of_decide_eq_false c))
      refine mm_R.wgv (pc' := 51) (L' := [some ((.ref 86)), some (.int i1), some (.int i2), some (.int (((4 : Int32) * i1) + i2)), some (.int ((129 : Int32) + i2))]) (r := []) 1 rfl rfl (m_gv R rfl ?_)
      obtain ⟨hi5, H⟩ := H
      refine mm_R.wai (pc' := 55) (L' := [some ((.ref 86)), some (.int i1), some (.int i2), some (.int (((4 : Int32) * i1) + i2)), some (.int ((129 : Int32) + i2))]) (r := []) (t := 1000) 1 rfl rfl rfl rfl (m_ai (i := (((4 : Int32) * i1) + i2)) R (n := 24) (by decide) hi5 ?_)
      refine mm_R.br (L' := [some ((.ref 86)), some (.int i1), some (.int i2), some (.int (((4 : Int32) * i1) + i2)), some (.int ((129 : Int32) + i2))]) (st' := []) (t := 77) (u := 59) (b := mm_cc .ne (mGet σ1 101 (((4 : Int32) * i1) + i2)) (0 : Int32)) 1 rfl (fun c => ?_) (fun c => ?_)
      · replace H := H.1 (of_decide_eq_true c)
        refine mm_R.cV (pc' := 81) (L' := [some ((.ref 86)), some (.int i1), some (.int i2), some (.int (((4 : Int32) * i1) + i2)), some (.int ((129 : Int32) + i2))]) (st1 := [.int ((129 : Int32) + i2), .int (((4 : Int32) * i1) + i2), (.ref 86)]) (as := [.int (((4 : Int32) * i1) + i2), .int ((129 : Int32) + i2)]) (rest := []) 3 rfl rfl (mw_sp rfl rfl (Nat.le_of_ble_eq_true rfl) (mw_ac rfl (mw_ac rfl (mw_ac rfl mw_an))) mw_an) rfl rfl (m_rc R rfl) ((H _ R).mono (fun o hp1 H => ?_))
        obtain ⟨σ6, R, F1, rfl, H⟩ := H
        replace F := F.tr F1
        exact H.use R F
      · replace H := H.2 (Decidable.of_not_not (of_decide_eq_false c))
        refine mm_R.wgv (pc' := 61) (L' := [some ((.ref 86)), some (.int i1), some (.int i2), some (.int (((4 : Int32) * i1) + i2)), some (.int ((129 : Int32) + i2))]) (r := [(.ref 86)]) 2 rfl rfl (m_gv R rfl ?_)
        obtain ⟨hi7, H⟩ := H
        refine mm_R.wai (pc' := 67) (L' := [some ((.ref 86)), some (.int i1), some (.int i2), some (.int (((4 : Int32) * i1) + i2)), some (.int ((129 : Int32) + i2))]) (r := [(.ref 86)]) (t := 1000) 3 rfl rfl rfl rfl (m_ai (i := ((3 : Int32) * (((4 : Int32) * i1) + i2))) R (n := 72) (by decide) hi7 ?_)
        refine mm_R.cV (pc' := 71) (L' := [some ((.ref 86)), some (.int i1), some (.int i2), some (.int (((4 : Int32) * i1) + i2)), some (.int ((129 : Int32) + i2))]) (st1 := [.int (0 : Int32), .int ((129 : Int32) + i2), .int (mGet σ1 100 ((3 : Int32) * (((4 : Int32) * i1) + i2))), (.ref 86)]) (as := [.int (mGet σ1 100 ((3 : Int32) * (((4 : Int32) * i1) + i2))), .int ((129 : Int32) + i2), .int (0 : Int32)]) (rest := []) 2 rfl rfl (mw_sp rfl rfl (Nat.le_of_ble_eq_true rfl) (mw_ac rfl (mw_ac rfl (mw_ac rfl (mw_ac rfl mw_an)))) mw_an) rfl rfl (m_rc R rfl) ((H _ R).mono (fun o hp1 H => ?_))
        obtain ⟨σ8, R, F1, rfl, H⟩ := H
        replace F := F.tr F1
        exact mm_R.pn (pc' := 84) (L' := [some ((.ref 86)), some (.int i1), some (.int i2), some (.int (((4 : Int32) * i1) + i2)), some (.int ((129 : Int32) + i2))]) (st' := []) 1 rfl (H.use R F)
  · replace H := H.2 (Decidable.of_not_not (of_decide_eq_false c))
    refine mm_R.cV (pc' := 34) (L' := [some ((.ref 86)), some (.int i1), some (.int i2), some (.int (((4 : Int32) * i1) + i2)), some (.int ((129 : Int32) + i2))]) (st1 := [.int (0 : Int32), .int (0 : Int32), .int (0 : Int32), .int ((129 : Int32) + i2), (.ref 86)]) (as := [.int ((129 : Int32) + i2), .int (0 : Int32), .int (0 : Int32), .int (0 : Int32)]) (rest := []) 5 rfl rfl (mw_sp rfl rfl (Nat.le_of_ble_eq_true rfl) (mw_ac rfl (mw_ac rfl (mw_ac rfl (mw_ac rfl (mw_ac rfl mw_an))))) mw_an) rfl rfl (m_rc R rfl) ((H _ R).mono (fun o hp1 H => ?_))
    obtain ⟨σ9, R, F1, rfl, H⟩ := H
    replace F := F.tr F1
    exact mm_R.pn (pc' := 84) (L' := [some ((.ref 86)), some (.int i1), some (.int i2), some (.int (((4 : Int32) * i1) + i2)), some (.int ((129 : Int32) + i2))]) (st' := []) 1 rfl (H.use R F)
-- StepRunnerModel.gathered, from 84
set_option maxRecDepth 10000 in
theorem u169_84 {X : List Int32} {d : Nat} {i1 : Int32} {i2 : Int32} {i3 : Int32} {i4 : Int32} {σ : mS} {Q : Option Value → mS → Prop} (H : mM X d 142 0 (mm_L0 142 [(.ref 86), .int i4]) [] σ (mi_K (fun x2 σ1 => ((¬ x2 = (0 : Int32) → (0 ≤ i3 ∧ Int32.toNatClampNeg i3 < 24) ∧ (((mGet σ1 102 i3) ≤ (0 : Int32) → mM X (d + 1) 169 121 [some ((.ref 86)), some (.int i1), some (.int i2), some (.int i3), some (.int i4)] [] σ1 Q) ∧ (¬ (mGet σ1 102 i3) ≤ (0 : Int32) → (0 ≤ i3 ∧ Int32.toNatClampNeg i3 < 24) ∧ mM X d 172 0 (mm_L0 172 [(.ref 86), .int (mGet σ1 102 i3), .int i4]) [] σ1 (mi_K (fun x6 σ5 => ((¬ x6 = (0 : Int32) → mM X (d + 1) 169 121 [some ((.ref 86)), some (.int i1), some (.int i2), some (.int i3), some (.int i4)] [] σ5 Q) ∧ (x6 = (0 : Int32) → Q (some (.int (0 : Int32))) σ5))))))) ∧ (x2 = (0 : Int32) → Q (some (.int (0 : Int32))) σ1))))) : mM X (d + 1) 169 84 [some ((.ref 86)), some (.int i1), some (.int i2), some (.int i3), some (.int i4)] [] σ Q := by
  intro hp R
  have F : mF hp hp := mF.rf
  refine mm_R.cV (pc' := 87) (L' := [some ((.ref 86)), some (.int i1), some (.int i2), some (.int i3), some (.int i4)]) (st1 := [.int i4, (.ref 86)]) (as := [.int i4]) (rest := []) 2 rfl rfl (mw_sp rfl rfl (Nat.le_of_ble_eq_true rfl) (mw_ac rfl (mw_ac rfl mw_an)) mw_an) rfl rfl (m_rc R rfl) ((H _ R).mono (fun o hp1 H => ?_))
  obtain ⟨σ1, R, F1, x2, rfl, H⟩ := H
  replace F := F.tr F1
  refine mm_R.br (L' := [some ((.ref 86)), some (.int i1), some (.int i2), some (.int i3), some (.int i4)]) (st' := []) (t := 95) (u := 93) (b := mm_cc .ne x2 (0 : Int32)) 1 rfl (fun c => ?_) (fun c => ?_)
  · replace H := H.1 (of_decide_eq_true c)
    refine mm_R.wgv (pc' := 96) (L' := [some ((.ref 86)), some (.int i1), some (.int i2), some (.int i3), some (.int i4)]) (r := []) 1 rfl rfl (m_gv R rfl ?_)
    obtain ⟨hi3, H⟩ := H
    refine mm_R.wai (pc' := 100) (L' := [some ((.ref 86)), some (.int i1), some (.int i2), some (.int i3), some (.int i4)]) (r := []) (t := 1000) 1 rfl rfl rfl rfl (m_ai (i := i3) R (n := 24) (by decide) hi3 ?_)
    refine mm_R.br (L' := [some ((.ref 86)), some (.int i1), some (.int i2), some (.int i3), some (.int i4)]) (st' := []) (t := 121) (u := 104) (b := mm_cc .le (mGet σ1 102 i3) (0 : Int32)) 1 rfl (fun c => ?_) (fun c => ?_)
    · replace H := H.1 (of_decide_eq_true c)
      exact H.use R F
    · replace H := H.2 (of_decide_eq_false c)
      refine mm_R.wgv (pc' := 106) (L' := [some ((.ref 86)), some (.int i1), some (.int i2), some (.int i3), some (.int i4)]) (r := [(.ref 86)]) 2 rfl rfl (m_gv R rfl ?_)
      obtain ⟨hi4, H⟩ := H
      refine mm_R.wai (pc' := 110) (L' := [some ((.ref 86)), some (.int i1), some (.int i2), some (.int i3), some (.int i4)]) (r := [(.ref 86)]) (t := 1000) 1 rfl rfl rfl rfl (m_ai (i := i3) R (n := 24) (by decide) hi4 ?_)
      refine mm_R.cV (pc' := 113) (L' := [some ((.ref 86)), some (.int i1), some (.int i2), some (.int i3), some (.int i4)]) (st1 := [.int i4, .int (mGet σ1 102 i3), (.ref 86)]) (as := [.int (mGet σ1 102 i3), .int i4]) (rest := []) 1 rfl rfl (mw_sp rfl rfl (Nat.le_of_ble_eq_true rfl) (mw_ac rfl (mw_ac rfl (mw_ac rfl mw_an))) mw_an) rfl rfl (m_rc R rfl) ((H _ R).mono (fun o hp1 H => ?_))
      obtain ⟨σ5, R, F1, x6, rfl, H⟩ := H
      replace F := F.tr F1
      refine mm_R.br (L' := [some ((.ref 86)), some (.int i1), some (.int i2), some (.int i3), some (.int i4)]) (st' := []) (t := 121) (u := 119) (b := mm_cc .ne x6 (0 : Int32)) 1 rfl (fun c => ?_) (fun c => ?_)
      · replace H := H.1 (of_decide_eq_true c)
        exact H.use R F
      · replace H := H.2 (Decidable.of_not_not (of_decide_eq_false c))
        exact mm_R.rt (pc' := 120) (L' := [some ((.ref 86)), some (.int i1), some (.int i2), some (.int i3), some (.int i4)]) (st1 := [.int (0 : Int32)]) 1 rfl rfl rfl rfl rfl rfl ⟨_, R, F, H⟩
  · replace H := H.2 (Decidable.of_not_not (of_decide_eq_false c))
    exact mm_R.rt (pc' := 94) (L' := [some ((.ref 86)), some (.int i1), some (.int i2), some (.int i3), some (.int i4)]) (st1 := [.int (0 : Int32)]) 1 rfl rfl rfl rfl rfl rfl ⟨_, R, F, H⟩
-- StepRunnerModel.gathered, from 121
set_option maxRecDepth 10000 in
theorem u169_121 {X : List Int32} {d : Nat} {i1 : Int32} {i2 : Int32} {i3 : Int32} {i4 : Int32} {σ : mS} {Q : Option Value → mS → Prop} (H : mM X d 123 0 (mm_L0 123 [.int i4]) [] σ (mi_K (fun x2 σ1 => mM X d 144 0 (mm_L0 144 [(.ref 86), .int x2]) [] σ1 (mi_K (fun x4 σ3 => ((¬ x4 = (0 : Int32) → Q (some (.int (1 : Int32))) σ3) ∧ (x4 = (0 : Int32) → (0 ≤ i3 ∧ Int32.toNatClampNeg i3 < 24) ∧ (((mGet σ3 103 i3) = (0 : Int32) → Q (some (.int (1 : Int32))) σ3) ∧ (¬ (mGet σ3 103 i3) = (0 : Int32) → mM X d 149 0 (mm_L0 149 [(.ref 86), .int ((3 : Int32) + i3), .int i4]) [] σ3 (m0_K (fun σ6 => Q (some (.int (1 : Int32))) σ6))))))))))) : mM X (d + 1) 169 121 [some ((.ref 86)), some (.int i1), some (.int i2), some (.int i3), some (.int i4)] [] σ Q := by
  intro hp R
  have F : mF hp hp := mF.rf
  refine mm_R.cS (pc' := 124) (L' := [some ((.ref 86)), some (.int i1), some (.int i2), some (.int i3), some (.int i4)]) (st1 := [.int i4, (.ref 86)]) (as := [.int i4]) (rest := [(.ref 86)]) 2 rfl rfl (mw_sp rfl rfl (Nat.le_of_ble_eq_true rfl) (mw_ac rfl mw_an) (mw_ac rfl mw_an)) rfl rfl ((H _ R).mono (fun o hp1 H => ?_))
  obtain ⟨σ1, R, F1, x2, rfl, H⟩ := H
  replace F := F.tr F1
  refine mm_R.cV (pc' := 127) (L' := [some ((.ref 86)), some (.int i1), some (.int i2), some (.int i3), some (.int i4)]) (st1 := [.int x2, (.ref 86)]) (as := [.int x2]) (rest := []) 0 rfl rfl (mw_sp rfl rfl (Nat.le_of_ble_eq_true rfl) (mw_ac rfl (mw_ac rfl mw_an)) mw_an) rfl rfl (m_rc R rfl) ((H _ R).mono (fun o hp1 H => ?_))
  obtain ⟨σ3, R, F1, x4, rfl, H⟩ := H
  replace F := F.tr F1
  refine mm_R.br (L' := [some ((.ref 86)), some (.int i1), some (.int i2), some (.int i3), some (.int i4)]) (st' := []) (t := 151) (u := 133) (b := mm_cc .ne x4 (0 : Int32)) 1 rfl (fun c => ?_) (fun c => ?_)
  · replace H := H.1 (of_decide_eq_true c)
    exact mm_R.rt (pc' := 152) (L' := [some ((.ref 86)), some (.int i1), some (.int i2), some (.int i3), some (.int i4)]) (st1 := [.int (1 : Int32)]) 1 rfl rfl rfl rfl rfl rfl ⟨_, R, F, H⟩
  · replace H := H.2 (Decidable.of_not_not (of_decide_eq_false c))
    refine mm_R.wgv (pc' := 134) (L' := [some ((.ref 86)), some (.int i1), some (.int i2), some (.int i3), some (.int i4)]) (r := []) 1 rfl rfl (m_gv R rfl ?_)
    obtain ⟨hi5, H⟩ := H
    refine mm_R.wai (pc' := 138) (L' := [some ((.ref 86)), some (.int i1), some (.int i2), some (.int i3), some (.int i4)]) (r := []) (t := 1002) 1 rfl rfl rfl rfl (m_ai (i := i3) R (n := 24) (by decide) hi5 ?_)
    refine mm_R.br (L' := [some ((.ref 86)), some (.int i1), some (.int i2), some (.int i3), some (.int i4)]) (st' := []) (t := 151) (u := 142) (b := mm_cc .eq (mGet σ3 103 i3) (0 : Int32)) 1 rfl (fun c => ?_) (fun c => ?_)
    · replace H := H.1 (of_decide_eq_true c)
      exact mm_R.rt (pc' := 152) (L' := [some ((.ref 86)), some (.int i1), some (.int i2), some (.int i3), some (.int i4)]) (st1 := [.int (1 : Int32)]) 1 rfl rfl rfl rfl rfl rfl ⟨_, R, F, H⟩
    · replace H := H.2 (of_decide_eq_false c)
      refine mm_R.cV (pc' := 148) (L' := [some ((.ref 86)), some (.int i1), some (.int i2), some (.int i3), some (.int i4)]) (st1 := [.int i4, .int ((3 : Int32) + i3), (.ref 86)]) (as := [.int ((3 : Int32) + i3), .int i4]) (rest := []) 5 rfl rfl (mw_sp rfl rfl (Nat.le_of_ble_eq_true rfl) (mw_ac rfl (mw_ac rfl (mw_ac rfl mw_an))) mw_an) rfl rfl (m_rc R rfl) ((H _ R).mono (fun o hp1 H => ?_))
      obtain ⟨σ6, R, F1, rfl, H⟩ := H
      replace F := F.tr F1
      exact mm_R.rt (pc' := 152) (L' := [some ((.ref 86)), some (.int i1), some (.int i2), some (.int i3), some (.int i4)]) (st1 := [.int (1 : Int32)]) 1 rfl rfl rfl rfl rfl rfl ⟨_, R, F, H⟩
-- StepRunnerModel.take, from 0
set_option maxRecDepth 10000 in
theorem u170_0 {X : List Int32} {d : Nat} {i1 : Int32} {i2 : Int32} {i3 : Int32} {σ : mS} {Q : Option Value → mS → Prop} (H : (((3 : Int32) ≤ i1 → mM X d 123 0 (mm_L0 123 [.int (((123 : Int32) + i1) - (10 : Int32))]) [] σ (mi_K (fun x2 σ1 => mM X d 143 0 (mm_L0 143 [(.ref 86), .int (((123 : Int32) + i1) - (10 : Int32))]) [] σ1 (mi_K (fun x4 σ3 => mM X d 150 0 (mm_L0 150 [(.ref 86), .int x2, .int x4, .int i2, .int i3]) [] σ3 (m0_K (fun σ5 => Q none σ5))))))) ∧ (¬ (3 : Int32) ≤ i1 → mM X d 123 0 (mm_L0 123 [.int i1]) [] σ (mi_K (fun x7 σ6 => mM X d 143 0 (mm_L0 143 [(.ref 86), .int i1]) [] σ6 (mi_K (fun x9 σ8 => mM X d 150 0 (mm_L0 150 [(.ref 86), .int x7, .int x9, .int i2, .int i3]) [] σ8 (m0_K (fun σ10 => Q none σ10))))))))) : mM X (d + 1) 170 0 (mm_L0 170 [(.ref 86), .int i1, .int i2, .int i3]) [] σ Q := by
  intro hp R
  have F : mF hp hp := mF.rf
  show mm_R X (d + 1) 170 0 [some ((.ref 86)), some (.int i1), some (.int i2), some (.int i3), none] [] hp (mQ hp Q)
  refine mm_R.br (L' := [some ((.ref 86)), some (.int i1), some (.int i2), some (.int i3), none]) (st' := []) (t := 9) (u := 5) (b := mm_cc .ge i1 (3 : Int32)) 3 rfl (fun c => ?_) (fun c => ?_)
  · replace H := H.1 (of_decide_eq_true c)
    refine mm_R.cS (pc' := 21) (L' := [some ((.ref 86)), some (.int i1), some (.int i2), some (.int i3), some (.int (((123 : Int32) + i1) - (10 : Int32)))]) (st1 := [.int (((123 : Int32) + i1) - (10 : Int32)), (.ref 86)]) (as := [.int (((123 : Int32) + i1) - (10 : Int32))]) (rest := [(.ref 86)]) 8 rfl rfl (mw_sp rfl rfl (Nat.le_of_ble_eq_true rfl) (mw_ac rfl mw_an) (mw_ac rfl mw_an)) rfl rfl ((H _ R).mono (fun o hp1 H => ?_))
    obtain ⟨σ1, R, F1, x2, rfl, H⟩ := H
    replace F := F.tr F1
    refine mm_R.cV (pc' := 27) (L' := [some ((.ref 86)), some (.int i1), some (.int i2), some (.int i3), some (.int (((123 : Int32) + i1) - (10 : Int32)))]) (st1 := [.int (((123 : Int32) + i1) - (10 : Int32)), (.ref 86), .int x2, (.ref 86)]) (as := [.int (((123 : Int32) + i1) - (10 : Int32))]) (rest := [.int x2, (.ref 86)]) 2 rfl rfl (mw_sp rfl rfl (Nat.le_of_ble_eq_true rfl) (mw_ac rfl (mw_ac rfl mw_an)) (mw_ac rfl (mw_ac rfl mw_an))) rfl rfl (m_rc R rfl) ((H _ R).mono (fun o hp1 H => ?_))
    obtain ⟨σ3, R, F1, x4, rfl, H⟩ := H
    replace F := F.tr F1
    refine mm_R.cV (pc' := 32) (L' := [some ((.ref 86)), some (.int i1), some (.int i2), some (.int i3), some (.int (((123 : Int32) + i1) - (10 : Int32)))]) (st1 := [.int i3, .int i2, .int x4, .int x2, (.ref 86)]) (as := [.int x2, .int x4, .int i2, .int i3]) (rest := []) 2 rfl rfl (mw_sp rfl rfl (Nat.le_of_ble_eq_true rfl) (mw_ac rfl (mw_ac rfl (mw_ac rfl (mw_ac rfl (mw_ac rfl mw_an))))) mw_an) rfl rfl (m_rc R rfl) ((H _ R).mono (fun o hp1 H => ?_))
    obtain ⟨σ5, R, F1, rfl, H⟩ := H
    replace F := F.tr F1
    exact mm_R.rt (pc' := 35) (L' := [some ((.ref 86)), some (.int i1), some (.int i2), some (.int i3), some (.int (((123 : Int32) + i1) - (10 : Int32)))]) (st1 := []) 0 rfl rfl rfl rfl rfl rfl ⟨_, R, F, H⟩
  · replace H := H.2 (of_decide_eq_false c)
    refine mm_R.cS (pc' := 21) (L' := [some ((.ref 86)), some (.int i1), some (.int i2), some (.int i3), some (.int i1)]) (st1 := [.int i1, (.ref 86)]) (as := [.int i1]) (rest := [(.ref 86)]) 5 rfl rfl (mw_sp rfl rfl (Nat.le_of_ble_eq_true rfl) (mw_ac rfl mw_an) (mw_ac rfl mw_an)) rfl rfl ((H _ R).mono (fun o hp1 H => ?_))
    obtain ⟨σ6, R, F1, x7, rfl, H⟩ := H
    replace F := F.tr F1
    refine mm_R.cV (pc' := 27) (L' := [some ((.ref 86)), some (.int i1), some (.int i2), some (.int i3), some (.int i1)]) (st1 := [.int i1, (.ref 86), .int x7, (.ref 86)]) (as := [.int i1]) (rest := [.int x7, (.ref 86)]) 2 rfl rfl (mw_sp rfl rfl (Nat.le_of_ble_eq_true rfl) (mw_ac rfl (mw_ac rfl mw_an)) (mw_ac rfl (mw_ac rfl mw_an))) rfl rfl (m_rc R rfl) ((H _ R).mono (fun o hp1 H => ?_))
    obtain ⟨σ8, R, F1, x9, rfl, H⟩ := H
    replace F := F.tr F1
    refine mm_R.cV (pc' := 32) (L' := [some ((.ref 86)), some (.int i1), some (.int i2), some (.int i3), some (.int i1)]) (st1 := [.int i3, .int i2, .int x9, .int x7, (.ref 86)]) (as := [.int x7, .int x9, .int i2, .int i3]) (rest := []) 2 rfl rfl (mw_sp rfl rfl (Nat.le_of_ble_eq_true rfl) (mw_ac rfl (mw_ac rfl (mw_ac rfl (mw_ac rfl (mw_ac rfl mw_an))))) mw_an) rfl rfl (m_rc R rfl) ((H _ R).mono (fun o hp1 H => ?_))
    obtain ⟨σ10, R, F1, rfl, H⟩ := H
    replace F := F.tr F1
    exact mm_R.rt (pc' := 35) (L' := [some ((.ref 86)), some (.int i1), some (.int i2), some (.int i3), some (.int i1)]) (st1 := []) 0 rfl rfl rfl rfl rfl rfl ⟨_, R, F, H⟩
-- StepRunnerModel.all, from 0
set_option maxRecDepth 10000 in
theorem u171_0 {X : List Int32} {d : Nat} {i1 : Int32} {i2 : Int32} {σ : mS} {Q : Option Value → mS → Prop} (H : mM X d 122 0 (mm_L0 122 [(.ref 86), .int i2, .int (3 : Int32), .int (0 : Int32), .int (0 : Int32)]) [] σ (m0_K (fun σ1 => mM X (d + 1) 171 10 [some ((.ref 86)), some (.int i1), some (.int i2), some (.int (0 : Int32)), none, none, none] [] σ1 Q))) : mM X (d + 1) 171 0 (mm_L0 171 [(.ref 86), .int i1, .int i2]) [] σ Q := by
  intro hp R
  have F : mF hp hp := mF.rf
  show mm_R X (d + 1) 171 0 [some ((.ref 86)), some (.int i1), some (.int i2), none, none, none, none] [] hp (mQ hp Q)
  refine mm_R.cV (pc' := 5) (L' := [some ((.ref 86)), some (.int i1), some (.int i2), none, none, none, none]) (st1 := [.int (0 : Int32), .int (0 : Int32), .int (3 : Int32), .int i2, (.ref 86)]) (as := [.int i2, .int (3 : Int32), .int (0 : Int32), .int (0 : Int32)]) (rest := []) 5 rfl rfl (mw_sp rfl rfl (Nat.le_of_ble_eq_true rfl) (mw_ac rfl (mw_ac rfl (mw_ac rfl (mw_ac rfl (mw_ac rfl mw_an))))) mw_an) rfl rfl (m_rc R rfl) ((H _ R).mono (fun o hp1 H => ?_))
  obtain ⟨σ1, R, F1, rfl, H⟩ := H
  replace F := F.tr F1
  exact mm_R.pn (pc' := 10) (L' := [some ((.ref 86)), some (.int i1), some (.int i2), some (.int (0 : Int32)), none, none, none]) (st' := []) 2 rfl (H.use R F)
-- StepRunnerModel.all, from 10
set_option maxRecDepth 10000 in
theorem u171_10 {X : List Int32} {d : Nat} {i1 : Int32} {i2 : Int32} {i3 : Int32} {o4 : Option Value} {o5 : Option Value} {o6 : Option Value} {σ : mS} {Q : Option Value → mS → Prop} (H : (0 ≤ i1 ∧ Int32.toNatClampNeg i1 < 24) ∧ (((mGet σ 99 i1) ≤ i3 → Q none σ) ∧ (¬ (mGet σ 99 i1) ≤ i3 → (0 ≤ (((3 : Int32) * i1) + i3) ∧ Int32.toNatClampNeg (((3 : Int32) * i1) + i3) < 72) ∧ (((3 : Int32) ≤ (mGet σ 100 (((3 : Int32) * i1) + i3)) → mM X (d + 1) 171 51 [some ((.ref 86)), some (.int i1), some (.int i2), some (.int i3), some (.int (mGet σ 100 (((3 : Int32) * i1) + i3))), o5, o6] [.int (((123 : Int32) + (mGet σ 100 (((3 : Int32) * i1) + i3))) - (10 : Int32))] σ Q) ∧ (¬ (3 : Int32) ≤ (mGet σ 100 (((3 : Int32) * i1) + i3)) → mM X (d + 1) 171 51 [some ((.ref 86)), some (.int i1), some (.int i2), some (.int i3), some (.int (mGet σ 100 (((3 : Int32) * i1) + i3))), o5, o6] [.int (mGet σ 100 (((3 : Int32) * i1) + i3))] σ Q))))) : mM X (d + 1) 171 10 [some ((.ref 86)), some (.int i1), some (.int i2), some (.int i3), o4, o5, o6] [] σ Q := by
  intro hp R
  have F : mF hp hp := mF.rf
  refine mm_R.wgv (pc' := 12) (L' := [some ((.ref 86)), some (.int i1), some (.int i2), some (.int i3), o4, o5, o6]) (r := [.int i3]) 2 rfl rfl (m_gv R rfl ?_)
  obtain ⟨hi1, H⟩ := H
  refine mm_R.wai (pc' := 16) (L' := [some ((.ref 86)), some (.int i1), some (.int i2), some (.int i3), o4, o5, o6]) (r := [.int i3]) (t := 1000) 1 rfl rfl rfl rfl (m_ai (i := i1) R (n := 24) (by decide) hi1 ?_)
  refine mm_R.br (L' := [some ((.ref 86)), some (.int i1), some (.int i2), some (.int i3), o4, o5, o6]) (st' := []) (t := 144) (u := 20) (b := mm_cc .ge i3 (mGet σ 99 i1)) 1 rfl (fun c => ?_) (fun c => ?_)
  · replace H := H.1 (of_decide_eq_true c)
    exact mm_R.rt (pc' := 144) (L' := [some ((.ref 86)), some (.int i1), some (.int i2), some (.int i3), o4, o5, o6]) (st1 := []) 0 rfl rfl rfl rfl rfl rfl ⟨_, R, F, H⟩
  · replace H := H.2 (of_decide_eq_false c)
    refine mm_R.wgv (pc' := 21) (L' := [some ((.ref 86)), some (.int i1), some (.int i2), some (.int i3), o4, o5, o6]) (r := []) 1 rfl rfl (m_gv R rfl ?_)
    obtain ⟨hi2, H⟩ := H
    refine mm_R.wai (pc' := 29) (L' := [some ((.ref 86)), some (.int i1), some (.int i2), some (.int i3), o4, o5, o6]) (r := []) (t := 1000) 5 rfl rfl rfl rfl (m_ai (i := (((3 : Int32) * i1) + i3)) R (n := 72) (by decide) hi2 ?_)
    refine mm_R.br (L' := [some ((.ref 86)), some (.int i1), some (.int i2), some (.int i3), some (.int (mGet σ 100 (((3 : Int32) * i1) + i3))), o5, o6]) (st' := []) (t := 43) (u := 38) (b := mm_cc .ge (mGet σ 100 (((3 : Int32) * i1) + i3)) (3 : Int32)) 4 rfl (fun c => ?_) (fun c => ?_)
    · replace H := H.1 (of_decide_eq_true c)
      exact mm_R.pn (pc' := 51) (L' := [some ((.ref 86)), some (.int i1), some (.int i2), some (.int i3), some (.int (mGet σ 100 (((3 : Int32) * i1) + i3))), o5, o6]) (st' := [.int (((123 : Int32) + (mGet σ 100 (((3 : Int32) * i1) + i3))) - (10 : Int32))]) 5 rfl (H.use R F)
    · replace H := H.2 (of_decide_eq_false c)
      exact mm_R.pn (pc' := 51) (L' := [some ((.ref 86)), some (.int i1), some (.int i2), some (.int i3), some (.int (mGet σ 100 (((3 : Int32) * i1) + i3))), o5, o6]) (st' := [.int (mGet σ 100 (((3 : Int32) * i1) + i3))]) 2 rfl (H.use R F)
-- StepRunnerModel.all, from 51
set_option maxRecDepth 10000 in
theorem u171_51 {X : List Int32} {d : Nat} {i1 : Int32} {i2 : Int32} {i3 : Int32} {i4 : Int32} {o5 : Option Value} {o6 : Option Value} {s0 : Int32} {σ : mS} {Q : Option Value → mS → Prop} (H : (0 ≤ i1 ∧ Int32.toNatClampNeg i1 < 24) ∧ ((¬ (mGet σ 101 i1) = (2 : Int32) → mM X d 170 0 (mm_L0 170 [(.ref 86), .int i4, .int i2, .int (1 : Int32)]) [] σ (m0_K (fun σ2 => mM X (d + 1) 171 10 [some ((.ref 86)), some (.int i1), some (.int i2), some (.int (i3 + (1 : Int32))), some (.int i4), some (.int s0), o6] [] σ2 Q))) ∧ ((mGet σ 101 i1) = (2 : Int32) → mM X d 123 0 (mm_L0 123 [.int s0]) [] σ (mi_K (fun x4 σ3 => mM X d 144 0 (mm_L0 144 [(.ref 86), .int x4]) [] σ3 (mi_K (fun x6 σ5 => ((¬ x6 = (3 : Int32) → mM X d 170 0 (mm_L0 170 [(.ref 86), .int i4, .int i2, .int (1 : Int32)]) [] σ5 (m0_K (fun σ7 => mM X (d + 1) 171 10 [some ((.ref 86)), some (.int i1), some (.int i2), some (.int (i3 + (1 : Int32))), some (.int i4), some (.int s0), o6] [] σ7 Q))) ∧ (x6 = (3 : Int32) → mM X d 123 0 (mm_L0 123 [.int s0]) [] σ5 (mi_K (fun x9 σ8 => mM X (d + 1) 171 85 [some ((.ref 86)), some (.int i1), some (.int i2), some (.int i3), some (.int i4), some (.int s0), some (.int (x9 + (1 : Int32)))] [] σ8 Q))))))))))) : mM X (d + 1) 171 51 [some ((.ref 86)), some (.int i1), some (.int i2), some (.int i3), some (.int i4), o5, o6] [.int s0] σ Q := by
  intro hp R
  have F : mF hp hp := mF.rf
  refine mm_R.wgv (pc' := 54) (L' := [some ((.ref 86)), some (.int i1), some (.int i2), some (.int i3), some (.int i4), some (.int s0), o6]) (r := []) 2 rfl rfl (m_gv R rfl ?_)
  obtain ⟨hi1, H⟩ := H
  refine mm_R.wai (pc' := 58) (L' := [some ((.ref 86)), some (.int i1), some (.int i2), some (.int i3), some (.int i4), some (.int s0), o6]) (r := []) (t := 1000) 1 rfl rfl rfl rfl (m_ai (i := i1) R (n := 24) (by decide) hi1 ?_)
  refine mm_R.br (L' := [some ((.ref 86)), some (.int i1), some (.int i2), some (.int i3), some (.int i4), some (.int s0), o6]) (st' := []) (t := 130) (u := 63) (b := mm_cc .ne (mGet σ 101 i1) (2 : Int32)) 2 rfl (fun c => ?_) (fun c => ?_)
  · replace H := H.1 (of_decide_eq_true c)
    refine mm_R.cV (pc' := 135) (L' := [some ((.ref 86)), some (.int i1), some (.int i2), some (.int i3), some (.int i4), some (.int s0), o6]) (st1 := [.int (1 : Int32), .int i2, .int i4, (.ref 86)]) (as := [.int i4, .int i2, .int (1 : Int32)]) (rest := []) 4 rfl rfl (mw_sp rfl rfl (Nat.le_of_ble_eq_true rfl) (mw_ac rfl (mw_ac rfl (mw_ac rfl (mw_ac rfl mw_an)))) mw_an) rfl rfl (m_rc R rfl) ((H _ R).mono (fun o hp1 H => ?_))
    obtain ⟨σ2, R, F1, rfl, H⟩ := H
    replace F := F.tr F1
    exact mm_R.pn (pc' := 10) (L' := [some ((.ref 86)), some (.int i1), some (.int i2), some (.int (i3 + (1 : Int32))), some (.int i4), some (.int s0), o6]) (st' := []) 2 rfl (H.use R F)
  · replace H := H.2 (Decidable.of_not_not (of_decide_eq_false c))
    refine mm_R.cS (pc' := 66) (L' := [some ((.ref 86)), some (.int i1), some (.int i2), some (.int i3), some (.int i4), some (.int s0), o6]) (st1 := [.int s0, (.ref 86)]) (as := [.int s0]) (rest := [(.ref 86)]) 2 rfl rfl (mw_sp rfl rfl (Nat.le_of_ble_eq_true rfl) (mw_ac rfl mw_an) (mw_ac rfl mw_an)) rfl rfl ((H _ R).mono (fun o hp1 H => ?_))
    obtain ⟨σ3, R, F1, x4, rfl, H⟩ := H
    replace F := F.tr F1
    refine mm_R.cV (pc' := 69) (L' := [some ((.ref 86)), some (.int i1), some (.int i2), some (.int i3), some (.int i4), some (.int s0), o6]) (st1 := [.int x4, (.ref 86)]) (as := [.int x4]) (rest := []) 0 rfl rfl (mw_sp rfl rfl (Nat.le_of_ble_eq_true rfl) (mw_ac rfl (mw_ac rfl mw_an)) mw_an) rfl rfl (m_rc R rfl) ((H _ R).mono (fun o hp1 H => ?_))
    obtain ⟨σ5, R, F1, x6, rfl, H⟩ := H
    replace F := F.tr F1
    refine mm_R.br (L' := [some ((.ref 86)), some (.int i1), some (.int i2), some (.int i3), some (.int i4), some (.int s0), o6]) (st' := []) (t := 130) (u := 76) (b := mm_cc .ne x6 (3 : Int32)) 2 rfl (fun c => ?_) (fun c => ?_)
    · replace H := H.1 (of_decide_eq_true c)
      refine mm_R.cV (pc' := 135) (L' := [some ((.ref 86)), some (.int i1), some (.int i2), some (.int i3), some (.int i4), some (.int s0), o6]) (st1 := [.int (1 : Int32), .int i2, .int i4, (.ref 86)]) (as := [.int i4, .int i2, .int (1 : Int32)]) (rest := []) 4 rfl rfl (mw_sp rfl rfl (Nat.le_of_ble_eq_true rfl) (mw_ac rfl (mw_ac rfl (mw_ac rfl (mw_ac rfl mw_an)))) mw_an) rfl rfl (m_rc R rfl) ((H _ R).mono (fun o hp1 H => ?_))
      obtain ⟨σ7, R, F1, rfl, H⟩ := H
      replace F := F.tr F1
      exact mm_R.pn (pc' := 10) (L' := [some ((.ref 86)), some (.int i1), some (.int i2), some (.int (i3 + (1 : Int32))), some (.int i4), some (.int s0), o6]) (st' := []) 2 rfl (H.use R F)
    · replace H := H.2 (Decidable.of_not_not (of_decide_eq_false c))
      refine mm_R.cS (pc' := 78) (L' := [some ((.ref 86)), some (.int i1), some (.int i2), some (.int i3), some (.int i4), some (.int s0), o6]) (st1 := [.int s0]) (as := [.int s0]) (rest := []) 1 rfl rfl (mw_sp rfl rfl (Nat.le_of_ble_eq_true rfl) (mw_ac rfl mw_an) mw_an) rfl rfl ((H _ R).mono (fun o hp1 H => ?_))
      obtain ⟨σ8, R, F1, x9, rfl, H⟩ := H
      replace F := F.tr F1
      exact mm_R.pn (pc' := 85) (L' := [some ((.ref 86)), some (.int i1), some (.int i2), some (.int i3), some (.int i4), some (.int s0), some (.int (x9 + (1 : Int32)))]) (st' := []) 3 rfl (H.use R F)
-- StepRunnerModel.all, from 85
set_option maxRecDepth 10000 in
theorem u171_85 {X : List Int32} {d : Nat} {i1 : Int32} {i2 : Int32} {i3 : Int32} {i4 : Int32} {i5 : Int32} {i6 : Int32} {σ : mS} {Q : Option Value → mS → Prop} (H : mM X d 143 0 (mm_L0 143 [(.ref 86), .int i5]) [] σ (mi_K (fun x2 σ1 => ((x2 ≤ i6 → mM X (d + 1) 171 10 [some ((.ref 86)), some (.int i1), some (.int i2), some (.int (i3 + (1 : Int32))), some (.int i4), some (.int i5), some (.int i6)] [] σ1 Q) ∧ (¬ x2 ≤ i6 → mM X d 143 0 (mm_L0 143 [(.ref 86), .int i5]) [] σ1 (mi_K (fun x4 σ3 => mM X d 150 0 (mm_L0 150 [(.ref 86), .int i6, .int x4, .int i2, .int (1 : Int32)]) [] σ3 (m0_K (fun σ5 => mM X d 143 0 (mm_L0 143 [(.ref 86), .int i5]) [] σ5 (mi_K (fun x7 σ6 => mM X d 147 0 (mm_L0 147 [(.ref 86), .int i6, .int x7]) [] σ6 (mi_K (fun x9 σ8 => mM X (d + 1) 171 85 [some ((.ref 86)), some (.int i1), some (.int i2), some (.int i3), some (.int i4), some (.int i5), some (.int x9)] [] σ8 Q))))))))))))) : mM X (d + 1) 171 85 [some ((.ref 86)), some (.int i1), some (.int i2), some (.int i3), some (.int i4), some (.int i5), some (.int i6)] [] σ Q := by
  intro hp R
  have F : mF hp hp := mF.rf
  refine mm_R.cV (pc' := 90) (L' := [some ((.ref 86)), some (.int i1), some (.int i2), some (.int i3), some (.int i4), some (.int i5), some (.int i6)]) (st1 := [.int i5, (.ref 86), .int i6]) (as := [.int i5]) (rest := [.int i6]) 3 rfl rfl (mw_sp rfl rfl (Nat.le_of_ble_eq_true rfl) (mw_ac rfl (mw_ac rfl mw_an)) (mw_ac rfl mw_an)) rfl rfl (m_rc R rfl) ((H _ R).mono (fun o hp1 H => ?_))
  obtain ⟨σ1, R, F1, x2, rfl, H⟩ := H
  replace F := F.tr F1
  refine mm_R.br (L' := [some ((.ref 86)), some (.int i1), some (.int i2), some (.int i3), some (.int i4), some (.int i5), some (.int i6)]) (st' := []) (t := 127) (u := 96) (b := mm_cc .ge i6 x2) 1 rfl (fun c => ?_) (fun c => ?_)
  · replace H := H.1 (of_decide_eq_true c)
    exact mm_R.pn (pc' := 10) (L' := [some ((.ref 86)), some (.int i1), some (.int i2), some (.int (i3 + (1 : Int32))), some (.int i4), some (.int i5), some (.int i6)]) (st' := []) 3 rfl (H.use R F)
  · replace H := H.2 (of_decide_eq_false c)
    refine mm_R.cV (pc' := 102) (L' := [some ((.ref 86)), some (.int i1), some (.int i2), some (.int i3), some (.int i4), some (.int i5), some (.int i6)]) (st1 := [.int i5, (.ref 86), .int i6, (.ref 86)]) (as := [.int i5]) (rest := [.int i6, (.ref 86)]) 4 rfl rfl (mw_sp rfl rfl (Nat.le_of_ble_eq_true rfl) (mw_ac rfl (mw_ac rfl mw_an)) (mw_ac rfl (mw_ac rfl mw_an))) rfl rfl (m_rc R rfl) ((H _ R).mono (fun o hp1 H => ?_))
    obtain ⟨σ3, R, F1, x4, rfl, H⟩ := H
    replace F := F.tr F1
    refine mm_R.cV (pc' := 107) (L' := [some ((.ref 86)), some (.int i1), some (.int i2), some (.int i3), some (.int i4), some (.int i5), some (.int i6)]) (st1 := [.int (1 : Int32), .int i2, .int x4, .int i6, (.ref 86)]) (as := [.int i6, .int x4, .int i2, .int (1 : Int32)]) (rest := []) 2 rfl rfl (mw_sp rfl rfl (Nat.le_of_ble_eq_true rfl) (mw_ac rfl (mw_ac rfl (mw_ac rfl (mw_ac rfl (mw_ac rfl mw_an))))) mw_an) rfl rfl (m_rc R rfl) ((H _ R).mono (fun o hp1 H => ?_))
    obtain ⟨σ5, R, F1, rfl, H⟩ := H
    replace F := F.tr F1
    refine mm_R.cV (pc' := 116) (L' := [some ((.ref 86)), some (.int i1), some (.int i2), some (.int i3), some (.int i4), some (.int i5), some (.int i6)]) (st1 := [.int i5, (.ref 86), .int i6, (.ref 86)]) (as := [.int i5]) (rest := [.int i6, (.ref 86)]) 4 rfl rfl (mw_sp rfl rfl (Nat.le_of_ble_eq_true rfl) (mw_ac rfl (mw_ac rfl mw_an)) (mw_ac rfl (mw_ac rfl mw_an))) rfl rfl (m_rc R rfl) ((H _ R).mono (fun o hp1 H => ?_))
    obtain ⟨σ6, R, F1, x7, rfl, H⟩ := H
    replace F := F.tr F1
    refine mm_R.cV (pc' := 119) (L' := [some ((.ref 86)), some (.int i1), some (.int i2), some (.int i3), some (.int i4), some (.int i5), some (.int i6)]) (st1 := [.int x7, .int i6, (.ref 86)]) (as := [.int i6, .int x7]) (rest := []) 0 rfl rfl (mw_sp rfl rfl (Nat.le_of_ble_eq_true rfl) (mw_ac rfl (mw_ac rfl (mw_ac rfl mw_an))) mw_an) rfl rfl (m_rc R rfl) ((H _ R).mono (fun o hp1 H => ?_))
    obtain ⟨σ8, R, F1, x9, rfl, H⟩ := H
    replace F := F.tr F1
    exact mm_R.pn (pc' := 85) (L' := [some ((.ref 86)), some (.int i1), some (.int i2), some (.int i3), some (.int i4), some (.int i5), some (.int x9)]) (st' := []) 2 rfl (H.use R F)
