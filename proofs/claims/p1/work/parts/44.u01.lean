-- StepRunnerModel.keepValue, from 0
set_option maxRecDepth 10000 in
theorem u134_0 {X : List Int32} {d : Nat} {i1 : Int32} {i2 : Int32} {σ : mS} {Q : Option Value → mS → Prop} (H : ((i1 = (0 : Int32) → mM X (d + 1) 134 16 [some ((.ref 86)), some (.int i1), some (.int i2), none] [.int (0 : Int32)] σ Q) ∧ (¬ i1 = (0 : Int32) → mM X d 135 0 (mm_L0 135 [(.ref 86)]) [] σ (mi_K (fun x2 σ1 => ((x2 = (0 : Int32) → mM X (d + 1) 134 16 [some ((.ref 86)), some (.int i1), some (.int i2), none] [.int (0 : Int32)] σ1 Q) ∧ (¬ x2 = (0 : Int32) → mM X (d + 1) 134 16 [some ((.ref 86)), some (.int i1), some (.int i2), none] [.int (1 : Int32)] σ1 Q))))))) : mM X (d + 1) 134 0 (mm_L0 134 [(.ref 86), .int i1, .int i2]) [] σ Q := by
  intro hp R
  have F : mF hp hp := mF.rf
  show mm_R X (d + 1) 134 0 [some ((.ref 86)), some (.int i1), some (.int i2), none] [] hp (mQ hp Q)
  refine mm_R.br (L' := [some ((.ref 86)), some (.int i1), some (.int i2), none]) (st' := []) (t := 15) (u := 4) (b := mm_cc .eq i1 (0 : Int32)) 2 rfl (fun c => ?_) (fun c => ?_)
  · replace H := H.1 (of_decide_eq_true c)
    exact mm_R.pn (pc' := 16) (L' := [some ((.ref 86)), some (.int i1), some (.int i2), none]) (st' := [.int (0 : Int32)]) 1 rfl (H.use R F)
  · replace H := H.2 (of_decide_eq_false c)
    refine mm_R.cV (pc' := 5) (L' := [some ((.ref 86)), some (.int i1), some (.int i2), none]) (st1 := [(.ref 86)]) (as := []) (rest := []) 1 rfl rfl (mw_sp rfl rfl (Nat.le_of_ble_eq_true rfl) (mw_ac rfl mw_an) mw_an) rfl rfl (m_rc R rfl) ((H _ R).mono (fun o hp1 H => ?_))
    obtain ⟨σ1, R, F1, x2, rfl, H⟩ := H
    replace F := F.tr F1
    refine mm_R.br (L' := [some ((.ref 86)), some (.int i1), some (.int i2), none]) (st' := []) (t := 15) (u := 11) (b := mm_cc .eq x2 (0 : Int32)) 1 rfl (fun c => ?_) (fun c => ?_)
    · replace H := H.1 (of_decide_eq_true c)
      exact mm_R.pn (pc' := 16) (L' := [some ((.ref 86)), some (.int i1), some (.int i2), none]) (st' := [.int (0 : Int32)]) 1 rfl (H.use R F)
    · replace H := H.2 (of_decide_eq_false c)
      exact mm_R.pn (pc' := 16) (L' := [some ((.ref 86)), some (.int i1), some (.int i2), none]) (st' := [.int (1 : Int32)]) 2 rfl (H.use R F)
-- StepRunnerModel.keepValue, from 16
set_option maxRecDepth 10000 in
theorem u134_16 {X : List Int32} {d : Nat} {i1 : Int32} {i2 : Int32} {o3 : Option Value} {s0 : Int32} {σ : mS} {Q : Option Value → mS → Prop} (H : ((s0 = (0 : Int32) → ∀ σ1, σ1 = mSet σ 3 (0 : Int32) → (s0 = 0 ∨ s0 = 1) ∧ Q (some (.int s0)) σ1) ∧ (¬ s0 = (0 : Int32) → mM X d 148 0 (mm_L0 148 [(.ref 86), .int i2]) [] σ (m0_K (fun σ2 => ∀ σ3, σ3 = mSet σ2 3 (0 : Int32) → (s0 = 0 ∨ s0 = 1) ∧ Q (some (.int s0)) σ3))))) : mM X (d + 1) 134 16 [some ((.ref 86)), some (.int i1), some (.int i2), o3] [.int s0] σ Q := by
  intro hp R
  have F : mF hp hp := mF.rf
  refine mm_R.br (L' := [some ((.ref 86)), some (.int i1), some (.int i2), some (.int s0)]) (st' := []) (t := 26) (u := 21) (b := mm_cc .eq s0 (0 : Int32)) 3 rfl (fun c => ?_) (fun c => ?_)
  · replace H := H.1 (of_decide_eq_true c)
    refine mm_R.wpt (pc' := 28) (L' := [some ((.ref 86)), some (.int i1), some (.int i2), some (.int s0)]) (r := []) 2 rfl rfl (m_pt (v := (0 : Int32)) R F rfl rfl rfl (fun hp R F => ?_))
    obtain ⟨σ1, es⟩ : ∃ z, z = mSet σ 3 (0 : Int32) := ⟨_, rfl⟩
    rw [← es] at R
    replace H := H σ1 es
    exact mm_R.rt (pc' := 32) (L' := [some ((.ref 86)), some (.int i1), some (.int i2), some (.int s0)]) (st1 := [.int s0]) 1 rfl rfl rfl rfl rfl (mw_rvi (ty := .boolean) (m_fz H.1)) ⟨_, R, F, H.2⟩
  · replace H := H.2 (of_decide_eq_false c)
    refine mm_R.cV (pc' := 23) (L' := [some ((.ref 86)), some (.int i1), some (.int i2), some (.int s0)]) (st1 := [.int i2, (.ref 86)]) (as := [.int i2]) (rest := []) 2 rfl rfl (mw_sp rfl rfl (Nat.le_of_ble_eq_true rfl) (mw_ac rfl (mw_ac rfl mw_an)) mw_an) rfl rfl (m_rc R rfl) ((H _ R).mono (fun o hp1 H => ?_))
    obtain ⟨σ2, R, F1, rfl, H⟩ := H
    replace F := F.tr F1
    refine mm_R.wpt (pc' := 28) (L' := [some ((.ref 86)), some (.int i1), some (.int i2), some (.int s0)]) (r := []) 2 rfl rfl (m_pt (v := (0 : Int32)) R F rfl rfl rfl (fun hp R F => ?_))
    obtain ⟨σ3, es⟩ : ∃ z, z = mSet σ2 3 (0 : Int32) := ⟨_, rfl⟩
    rw [← es] at R
    replace H := H σ3 es
    exact mm_R.rt (pc' := 32) (L' := [some ((.ref 86)), some (.int i1), some (.int i2), some (.int s0)]) (st1 := [.int s0]) 1 rfl rfl rfl rfl rfl (mw_rvi (ty := .boolean) (m_fz H.1)) ⟨_, R, F, H.2⟩
-- StepRunnerModel.isDraftValue, from 0
set_option maxRecDepth 10000 in
theorem u135_0 {X : List Int32} {d : Nat}  {σ : mS} {Q : Option Value → mS → Prop} (H : mM X d 121 0 (mm_L0 121 [(.ref 86), .int (141 : Int32)]) [] σ (m0_K (fun σ1 => mM X (d + 1) 135 13 [some ((.ref 86)), some (.int (0 : Int32)), some (.int (0 : Int32)), some (.int (1 : Int32)), none, none] [] σ1 Q))) : mM X (d + 1) 135 0 (mm_L0 135 [(.ref 86)]) [] σ Q := by
  intro hp R
  have F : mF hp hp := mF.rf
  show mm_R X (d + 1) 135 0 [some ((.ref 86)), none, none, none, none, none] [] hp (mQ hp Q)
  refine mm_R.cV (pc' := 4) (L' := [some ((.ref 86)), none, none, none, none, none]) (st1 := [.int (141 : Int32), (.ref 86)]) (as := [.int (141 : Int32)]) (rest := []) 2 rfl rfl (mw_sp rfl rfl (Nat.le_of_ble_eq_true rfl) (mw_ac rfl (mw_ac rfl mw_an)) mw_an) rfl rfl (m_rc R rfl) ((H _ R).mono (fun o hp1 H => ?_))
  obtain ⟨σ1, R, F1, rfl, H⟩ := H
  replace F := F.tr F1
  exact mm_R.pn (pc' := 13) (L' := [some ((.ref 86)), some (.int (0 : Int32)), some (.int (0 : Int32)), some (.int (1 : Int32)), none, none]) (st' := []) 6 rfl (H.use R F)
-- StepRunnerModel.isDraftValue, from 13
set_option maxRecDepth 10000 in
theorem u135_13 {X : List Int32} {d : Nat} {i1 : Int32} {i2 : Int32} {i3 : Int32} {o4 : Option Value} {o5 : Option Value} {σ : mS} {Q : Option Value → mS → Prop} (H : ((¬ i3 = (0 : Int32) → mM X (d + 1) 135 21 [some ((.ref 86)), some (.int i1), some (.int i2), some (.int i3), o4, o5] [] σ Q) ∧ (i3 = (0 : Int32) → ((i1 ≤ (0 : Int32) → ((¬ i2 = (σ.1 3) → Q (some (.int (0 : Int32))) σ) ∧ (i2 = (σ.1 3) → mM X d 142 0 (mm_L0 142 [(.ref 86), .int (141 : Int32)]) [] σ (mi_K (fun x2 σ1 => ((x2 = (0 : Int32) → Q (some (.int (0 : Int32))) σ1) ∧ (¬ x2 = (0 : Int32) → Q (some (.int (1 : Int32))) σ1))))))) ∧ (¬ i1 ≤ (0 : Int32) → mM X (d + 1) 135 21 [some ((.ref 86)), some (.int i1), some (.int i2), some (.int i3), o4, o5] [] σ Q))))) : mM X (d + 1) 135 13 [some ((.ref 86)), some (.int i1), some (.int i2), some (.int i3), o4, o5] [] σ Q := by
  intro hp R
  have F : mF hp hp := mF.rf
  refine mm_R.br (L' := [some ((.ref 86)), some (.int i1), some (.int i2), some (.int i3), o4, o5]) (st' := []) (t := 21) (u := 17) (b := mm_cc .ne i3 (0 : Int32)) 2 rfl (fun c => ?_) (fun c => ?_)
  · replace H := H.1 (of_decide_eq_true c)
    exact H.use R F
  · replace H := H.2 (Decidable.of_not_not (of_decide_eq_false c))
    refine mm_R.br (L' := [some ((.ref 86)), some (.int i1), some (.int i2), some (.int i3), o4, o5]) (st' := []) (t := 152) (u := 21) (b := mm_cc .le i1 (0 : Int32)) 2 rfl (fun c => ?_) (fun c => ?_)
    · replace H := H.1 (of_decide_eq_true c)
      refine mm_R.wgi (pc' := 154) (L' := [some ((.ref 86)), some (.int i1), some (.int i2), some (.int i3), o4, o5]) (r := [.int i2]) 2 rfl rfl (m_gi R rfl ?_)
      refine mm_R.br (L' := [some ((.ref 86)), some (.int i1), some (.int i2), some (.int i3), o4, o5]) (st' := []) (t := 174) (u := 160) (b := mm_cc .ne i2 (σ.1 3)) 1 rfl (fun c => ?_) (fun c => ?_)
      · replace H := H.1 (of_decide_eq_true c)
        exact mm_R.rt (pc' := 175) (L' := [some ((.ref 86)), some (.int i1), some (.int i2), some (.int i3), o4, o5]) (st1 := [.int (0 : Int32)]) 1 rfl rfl rfl rfl rfl rfl ⟨_, R, F, H⟩
      · replace H := H.2 (Decidable.of_not_not (of_decide_eq_false c))
        refine mm_R.cV (pc' := 164) (L' := [some ((.ref 86)), some (.int i1), some (.int i2), some (.int i3), o4, o5]) (st1 := [.int (141 : Int32), (.ref 86)]) (as := [.int (141 : Int32)]) (rest := []) 2 rfl rfl (mw_sp rfl rfl (Nat.le_of_ble_eq_true rfl) (mw_ac rfl (mw_ac rfl mw_an)) mw_an) rfl rfl (m_rc R rfl) ((H _ R).mono (fun o hp1 H => ?_))
        obtain ⟨σ1, R, F1, x2, rfl, H⟩ := H
        replace F := F.tr F1
        refine mm_R.br (L' := [some ((.ref 86)), some (.int i1), some (.int i2), some (.int i3), o4, o5]) (st' := []) (t := 174) (u := 170) (b := mm_cc .eq x2 (0 : Int32)) 1 rfl (fun c => ?_) (fun c => ?_)
        · replace H := H.1 (of_decide_eq_true c)
          exact mm_R.rt (pc' := 175) (L' := [some ((.ref 86)), some (.int i1), some (.int i2), some (.int i3), o4, o5]) (st1 := [.int (0 : Int32)]) 1 rfl rfl rfl rfl rfl rfl ⟨_, R, F, H⟩
        · replace H := H.2 (of_decide_eq_false c)
          exact mm_R.rt (pc' := 175) (L' := [some ((.ref 86)), some (.int i1), some (.int i2), some (.int i3), o4, o5]) (st1 := [.int (1 : Int32)]) 2 rfl rfl rfl rfl rfl rfl ⟨_, R, F, H⟩
    · replace H := H.2 (of_decide_eq_false c)
      exact H.use R F
-- StepRunnerModel.isDraftValue, from 21
set_option maxRecDepth 10000 in
theorem u135_21 {X : List Int32} {d : Nat} {i1 : Int32} {i2 : Int32} {i3 : Int32} {o4 : Option Value} {o5 : Option Value} {σ : mS} {Q : Option Value → mS → Prop} (H : mM X d 136 0 (mm_L0 136 [(.ref 86), .int i2]) [] σ (mi_K (fun x2 σ1 => ((i3 = (0 : Int32) → mM X (d + 1) 135 76 [some ((.ref 86)), some (.int i1), some (.int i2), some (.int i3), some (.int x2), o5] [] σ1 Q) ∧ (¬ i3 = (0 : Int32) → ((¬ x2 = (91 : Int32) → mM X (d + 1) 135 76 [some ((.ref 86)), some (.int i1), some (.int i2), some (.int i3), some (.int x2), o5] [] σ1 Q) ∧ (x2 = (91 : Int32) → mM X d 122 0 (mm_L0 122 [(.ref 86), .int (141 : Int32), .int (3 : Int32), .int i1, .int (0 : Int32)]) [] σ1 (m0_K (fun σ3 => mM X d 136 0 (mm_L0 136 [(.ref 86), .int (i2 + (1 : Int32))]) [] σ3 (mi_K (fun x5 σ4 => ((¬ x5 = (93 : Int32) → mM X (d + 1) 135 13 [some ((.ref 86)), some (.int (i1 + (1 : Int32))), some (.int (i2 + (1 : Int32))), some (.int i3), some (.int x2), o5] [] σ4 Q) ∧ (x5 = (93 : Int32) → mM X (d + 1) 135 13 [some ((.ref 86)), some (.int ((i1 + (1 : Int32)) + (-1 : Int32))), some (.int ((i2 + (1 : Int32)) + (1 : Int32))), some (.int (0 : Int32)), some (.int x2), o5] [] σ4 Q))))))))))))) : mM X (d + 1) 135 21 [some ((.ref 86)), some (.int i1), some (.int i2), some (.int i3), o4, o5] [] σ Q := by
  intro hp R
  have F : mF hp hp := mF.rf
  refine mm_R.cV (pc' := 23) (L' := [some ((.ref 86)), some (.int i1), some (.int i2), some (.int i3), o4, o5]) (st1 := [.int i2, (.ref 86)]) (as := [.int i2]) (rest := []) 2 rfl rfl (mw_sp rfl rfl (Nat.le_of_ble_eq_true rfl) (mw_ac rfl (mw_ac rfl mw_an)) mw_an) rfl rfl (m_rc R rfl) ((H _ R).mono (fun o hp1 H => ?_))
  obtain ⟨σ1, R, F1, x2, rfl, H⟩ := H
  replace F := F.tr F1
  refine mm_R.br (L' := [some ((.ref 86)), some (.int i1), some (.int i2), some (.int i3), some (.int x2), o5]) (st' := []) (t := 76) (u := 32) (b := mm_cc .eq i3 (0 : Int32)) 3 rfl (fun c => ?_) (fun c => ?_)
  · replace H := H.1 (of_decide_eq_true c)
    exact H.use R F
  · replace H := H.2 (of_decide_eq_false c)
    refine mm_R.br (L' := [some ((.ref 86)), some (.int i1), some (.int i2), some (.int i3), some (.int x2), o5]) (st' := []) (t := 76) (u := 39) (b := mm_cc .ne x2 (91 : Int32)) 3 rfl (fun c => ?_) (fun c => ?_)
    · replace H := H.1 (of_decide_eq_true c)
      exact H.use R F
    · replace H := H.2 (Decidable.of_not_not (of_decide_eq_false c))
      refine mm_R.cV (pc' := 46) (L' := [some ((.ref 86)), some (.int i1), some (.int i2), some (.int i3), some (.int x2), o5]) (st1 := [.int (0 : Int32), .int i1, .int (3 : Int32), .int (141 : Int32), (.ref 86)]) (as := [.int (141 : Int32), .int (3 : Int32), .int i1, .int (0 : Int32)]) (rest := []) 5 rfl rfl (mw_sp rfl rfl (Nat.le_of_ble_eq_true rfl) (mw_ac rfl (mw_ac rfl (mw_ac rfl (mw_ac rfl (mw_ac rfl mw_an))))) mw_an) rfl rfl (m_rc R rfl) ((H _ R).mono (fun o hp1 H => ?_))
      obtain ⟨σ3, R, F1, rfl, H⟩ := H
      replace F := F.tr F1
      refine mm_R.cV (pc' := 57) (L' := [some ((.ref 86)), some (.int (i1 + (1 : Int32))), some (.int (i2 + (1 : Int32))), some (.int i3), some (.int x2), o5]) (st1 := [.int (i2 + (1 : Int32)), (.ref 86)]) (as := [.int (i2 + (1 : Int32))]) (rest := []) 4 rfl rfl (mw_sp rfl rfl (Nat.le_of_ble_eq_true rfl) (mw_ac rfl (mw_ac rfl mw_an)) mw_an) rfl rfl (m_rc R rfl) ((H _ R).mono (fun o hp1 H => ?_))
      obtain ⟨σ4, R, F1, x5, rfl, H⟩ := H
      replace F := F.tr F1
      refine mm_R.br (L' := [some ((.ref 86)), some (.int (i1 + (1 : Int32))), some (.int (i2 + (1 : Int32))), some (.int i3), some (.int x2), o5]) (st' := []) (t := 149) (u := 65) (b := mm_cc .ne x5 (93 : Int32)) 2 rfl (fun c => ?_) (fun c => ?_)
      · replace H := H.1 (of_decide_eq_true c)
        exact mm_R.pn (pc' := 13) (L' := [some ((.ref 86)), some (.int (i1 + (1 : Int32))), some (.int (i2 + (1 : Int32))), some (.int i3), some (.int x2), o5]) (st' := []) 1 rfl (H.use R F)
      · replace H := H.2 (Decidable.of_not_not (of_decide_eq_false c))
        exact mm_R.pn (pc' := 13) (L' := [some ((.ref 86)), some (.int ((i1 + (1 : Int32)) + (-1 : Int32))), some (.int ((i2 + (1 : Int32)) + (1 : Int32))), some (.int (0 : Int32)), some (.int x2), o5]) (st' := []) 6 rfl (H.use R F)
-- StepRunnerModel.isDraftValue, from 76
set_option maxRecDepth 10000 in
theorem u135_76 {X : List Int32} {d : Nat} {i1 : Int32} {i2 : Int32} {i3 : Int32} {i4 : Int32} {o5 : Option Value} {σ : mS} {Q : Option Value → mS → Prop} (H : ((i3 = (0 : Int32) → ((i4 = (44 : Int32) → ((¬ i4 = (44 : Int32) → mM X (d + 1) 135 133 [some ((.ref 86)), some (.int i1), some (.int i2), some (.int i3), some (.int i4), o5] [.int (0 : Int32)] σ Q) ∧ (i4 = (44 : Int32) → mM X (d + 1) 135 133 [some ((.ref 86)), some (.int i1), some (.int i2), some (.int i3), some (.int i4), o5] [.int (1 : Int32)] σ Q))) ∧ (¬ i4 = (44 : Int32) → ((i4 = (93 : Int32) → ((¬ i4 = (44 : Int32) → mM X (d + 1) 135 133 [some ((.ref 86)), some (.int i1), some (.int i2), some (.int i3), some (.int i4), o5] [.int (0 : Int32)] σ Q) ∧ (i4 = (44 : Int32) → mM X (d + 1) 135 133 [some ((.ref 86)), some (.int i1), some (.int i2), some (.int i3), some (.int i4), o5] [.int (1 : Int32)] σ Q))) ∧ (¬ i4 = (93 : Int32) → Q (some (.int (0 : Int32))) σ))))) ∧ (¬ i3 = (0 : Int32) → mM X d 137 0 (mm_L0 137 [(.ref 86), .int i2, .int i1]) [] σ (mi_K (fun x2 σ1 => ((¬ x2 = (0 : Int32) → mM X (d + 1) 135 13 [some ((.ref 86)), some (.int i1), some (.int (i2 + x2)), some (.int (0 : Int32)), some (.int i4), some (.int x2)] [] σ1 Q) ∧ (x2 = (0 : Int32) → Q (some (.int (0 : Int32))) σ1))))))) : mM X (d + 1) 135 76 [some ((.ref 86)), some (.int i1), some (.int i2), some (.int i3), some (.int i4), o5] [] σ Q := by
  intro hp R
  have F : mF hp hp := mF.rf
  refine mm_R.br (L' := [some ((.ref 86)), some (.int i1), some (.int i2), some (.int i3), some (.int i4), o5]) (st' := []) (t := 105) (u := 80) (b := mm_cc .eq i3 (0 : Int32)) 2 rfl (fun c => ?_) (fun c => ?_)
  · replace H := H.1 (of_decide_eq_true c)
    refine mm_R.br (L' := [some ((.ref 86)), some (.int i1), some (.int i2), some (.int i3), some (.int i4), o5]) (st' := []) (t := 121) (u := 112) (b := mm_cc .eq i4 (44 : Int32)) 3 rfl (fun c => ?_) (fun c => ?_)
    · replace H := H.1 (of_decide_eq_true c)
      refine mm_R.br (L' := [some ((.ref 86)), some (.int i1), some (.int i2), some (.int i3), some (.int i4), o5]) (st' := []) (t := 132) (u := 128) (b := mm_cc .ne i4 (44 : Int32)) 3 rfl (fun c => ?_) (fun c => ?_)
      · replace H := H.1 (of_decide_eq_true c)
        exact mm_R.pn (pc' := 133) (L' := [some ((.ref 86)), some (.int i1), some (.int i2), some (.int i3), some (.int i4), o5]) (st' := [.int (0 : Int32)]) 1 rfl (H.use R F)
      · replace H := H.2 (Decidable.of_not_not (of_decide_eq_false c))
        exact mm_R.pn (pc' := 133) (L' := [some ((.ref 86)), some (.int i1), some (.int i2), some (.int i3), some (.int i4), o5]) (st' := [.int (1 : Int32)]) 2 rfl (H.use R F)
    · replace H := H.2 (of_decide_eq_false c)
      refine mm_R.br (L' := [some ((.ref 86)), some (.int i1), some (.int i2), some (.int i3), some (.int i4), o5]) (st' := []) (t := 121) (u := 119) (b := mm_cc .eq i4 (93 : Int32)) 3 rfl (fun c => ?_) (fun c => ?_)
      · replace H := H.1 (of_decide_eq_true c)
        refine mm_R.br (L' := [some ((.ref 86)), some (.int i1), some (.int i2), some (.int i3), some (.int i4), o5]) (st' := []) (t := 132) (u := 128) (b := mm_cc .ne i4 (44 : Int32)) 3 rfl (fun c => ?_) (fun c => ?_)
        · replace H := H.1 (of_decide_eq_true c)
          exact mm_R.pn (pc' := 133) (L' := [some ((.ref 86)), some (.int i1), some (.int i2), some (.int i3), some (.int i4), o5]) (st' := [.int (0 : Int32)]) 1 rfl (H.use R F)
        · replace H := H.2 (Decidable.of_not_not (of_decide_eq_false c))
          exact mm_R.pn (pc' := 133) (L' := [some ((.ref 86)), some (.int i1), some (.int i2), some (.int i3), some (.int i4), o5]) (st' := [.int (1 : Int32)]) 2 rfl (H.use R F)
      · replace H := H.2 (of_decide_eq_false c)
        exact mm_R.rt (pc' := 120) (L' := [some ((.ref 86)), some (.int i1), some (.int i2), some (.int i3), some (.int i4), o5]) (st1 := [.int (0 : Int32)]) 1 rfl rfl rfl rfl rfl rfl ⟨_, R, F, H⟩
  · replace H := H.2 (of_decide_eq_false c)
    refine mm_R.cV (pc' := 83) (L' := [some ((.ref 86)), some (.int i1), some (.int i2), some (.int i3), some (.int i4), o5]) (st1 := [.int i1, .int i2, (.ref 86)]) (as := [.int i2, .int i1]) (rest := []) 3 rfl rfl (mw_sp rfl rfl (Nat.le_of_ble_eq_true rfl) (mw_ac rfl (mw_ac rfl (mw_ac rfl mw_an))) mw_an) rfl rfl (m_rc R rfl) ((H _ R).mono (fun o hp1 H => ?_))
    obtain ⟨σ1, R, F1, x2, rfl, H⟩ := H
    replace F := F.tr F1
    refine mm_R.br (L' := [some ((.ref 86)), some (.int i1), some (.int i2), some (.int i3), some (.int i4), some (.int x2)]) (st' := []) (t := 95) (u := 93) (b := mm_cc .ne x2 (0 : Int32)) 3 rfl (fun c => ?_) (fun c => ?_)
    · replace H := H.1 (of_decide_eq_true c)
      exact mm_R.pn (pc' := 13) (L' := [some ((.ref 86)), some (.int i1), some (.int (i2 + x2)), some (.int (0 : Int32)), some (.int i4), some (.int x2)]) (st' := []) 8 rfl (H.use R F)
    · replace H := H.2 (Decidable.of_not_not (of_decide_eq_false c))
      exact mm_R.rt (pc' := 94) (L' := [some ((.ref 86)), some (.int i1), some (.int i2), some (.int i3), some (.int i4), some (.int x2)]) (st1 := [.int (0 : Int32)]) 1 rfl rfl rfl rfl rfl rfl ⟨_, R, F, H⟩
-- StepRunnerModel.isDraftValue, from 133
set_option maxRecDepth 10000 in
theorem u135_133 {X : List Int32} {d : Nat} {i1 : Int32} {i2 : Int32} {i3 : Int32} {i4 : Int32} {o5 : Option Value} {s0 : Int32} {σ : mS} {Q : Option Value → mS → Prop} (H : ((s0 = (0 : Int32) → mM X (d + 1) 135 13 [some ((.ref 86)), some (.int (i1 - (1 : Int32))), some (.int (i2 + (1 : Int32))), some (.int s0), some (.int i4), o5] [] σ Q) ∧ (¬ s0 = (0 : Int32) → mM X (d + 1) 135 13 [some ((.ref 86)), some (.int i1), some (.int (i2 + (1 : Int32))), some (.int s0), some (.int i4), o5] [] σ Q))) : mM X (d + 1) 135 133 [some ((.ref 86)), some (.int i1), some (.int i2), some (.int i3), some (.int i4), o5] [.int s0] σ Q := by
  intro hp R
  have F : mF hp hp := mF.rf
  refine mm_R.br (L' := [some ((.ref 86)), some (.int i1), some (.int i2), some (.int s0), some (.int i4), o5]) (st' := []) (t := 142) (u := 138) (b := mm_cc .eq s0 (0 : Int32)) 3 rfl (fun c => ?_) (fun c => ?_)
  · replace H := H.1 (of_decide_eq_true c)
    exact mm_R.pn (pc' := 13) (L' := [some ((.ref 86)), some (.int (i1 - (1 : Int32))), some (.int (i2 + (1 : Int32))), some (.int s0), some (.int i4), o5]) (st' := []) 6 rfl (H.use R F)
  · replace H := H.2 (of_decide_eq_false c)
    exact mm_R.pn (pc' := 13) (L' := [some ((.ref 86)), some (.int i1), some (.int (i2 + (1 : Int32))), some (.int s0), some (.int i4), o5]) (st' := []) 5 rfl (H.use R F)
-- StepRunnerModel.seen, from 0
set_option maxRecDepth 10000 in
theorem u136_0 {X : List Int32} {d : Nat} {i1 : Int32} {σ : mS} {Q : Option Value → mS → Prop} (H : (((σ.1 3) ≤ i1 → Q (some (.int (0 : Int32))) σ) ∧ (¬ (σ.1 3) ≤ i1 → (0 ≤ i1 ∧ Int32.toNatClampNeg i1 < 60) ∧ (0 ≤ (mGet σ 88 i1) ∧ (mGet σ 88 i1) ≤ 65535) ∧ Q (some (.int (mGet σ 88 i1))) σ))) : mM X (d + 1) 136 0 (mm_L0 136 [(.ref 86), .int i1]) [] σ Q := by
  intro hp R
  have F : mF hp hp := mF.rf
  show mm_R X (d + 1) 136 0 [some ((.ref 86)), some (.int i1)] [] hp (mQ hp Q)
  refine mm_R.wgi (pc' := 2) (L' := [some ((.ref 86)), some (.int i1)]) (r := [.int i1]) 2 rfl rfl (m_gi R rfl ?_)
  refine mm_R.br (L' := [some ((.ref 86)), some (.int i1)]) (st' := []) (t := 17) (u := 8) (b := mm_cc .ge i1 (σ.1 3)) 1 rfl (fun c => ?_) (fun c => ?_)
  · replace H := H.1 (of_decide_eq_true c)
    exact mm_R.rt (pc' := 18) (L' := [some ((.ref 86)), some (.int i1)]) (st1 := [.int (0 : Int32)]) 1 rfl rfl rfl rfl rfl rfl ⟨_, R, F, H⟩
  · replace H := H.2 (of_decide_eq_false c)
    refine mm_R.wgv (pc' := 9) (L' := [some ((.ref 86)), some (.int i1)]) (r := []) 1 rfl rfl (m_gv R rfl ?_)
    obtain ⟨hi1, H⟩ := H
    refine mm_R.wai (pc' := 13) (L' := [some ((.ref 86)), some (.int i1)]) (r := []) (t := 1001) 1 rfl rfl rfl rfl (m_ai (i := i1) R (n := 60) (by decide) hi1 ?_)
    exact mm_R.rt (pc' := 18) (L' := [some ((.ref 86)), some (.int i1)]) (st1 := [.int (mGet σ 88 i1)]) 1 rfl rfl rfl rfl rfl (mw_rvi (ty := .char) (m_fc H.1)) ⟨_, R, F, H.2⟩
-- StepRunnerModel.scalar, from 0
set_option maxRecDepth 10000 in
theorem u137_0 {X : List Int32} {d : Nat} {i1 : Int32} {i2 : Int32} {σ : mS} {Q : Option Value → mS → Prop} (H : mM X d 136 0 (mm_L0 136 [(.ref 86), .int i1]) [] σ (mi_K (fun x2 σ1 => ((¬ x2 = (110 : Int32) → mM X d 136 0 (mm_L0 136 [(.ref 86), .int i1]) [] σ1 (mi_K (fun x4 σ3 => ((¬ x4 = (34 : Int32) → mM X d 136 0 (mm_L0 136 [(.ref 86), .int i1]) [] σ3 (mi_K (fun x6 σ5 => ((¬ x6 = (45 : Int32) → mM X (d + 1) 137 212 [some ((.ref 86)), some (.int i1), some (.int i2), some (.int i1), some (.int (0 : Int32)), some (.int (0 : Int32))] [] σ5 Q) ∧ (x6 = (45 : Int32) → mM X (d + 1) 137 212 [some ((.ref 86)), some (.int i1), some (.int i2), some (.int (i1 + (1 : Int32))), some (.int (0 : Int32)), some (.int (0 : Int32))] [] σ5 Q))))) ∧ (x4 = (34 : Int32) → mM X (d + 1) 137 74 [some ((.ref 86)), some (.int i1), some (.int i2), some (.int (0 : Int32)), none, none] [] σ3 Q))))) ∧ (x2 = (110 : Int32) → mM X d 122 0 (mm_L0 122 [(.ref 86), .int (141 : Int32), .int (0 : Int32), .int i2, .int (0 : Int32)]) [] σ1 (m0_K (fun σ7 => mM X d 136 0 (mm_L0 136 [(.ref 86), .int (i1 + (1 : Int32))]) [] σ7 (mi_K (fun x9 σ8 => ((¬ x9 = (117 : Int32) → Q (some (.int (0 : Int32))) σ8) ∧ (x9 = (117 : Int32) → mM X d 136 0 (mm_L0 136 [(.ref 86), .int (i1 + (2 : Int32))]) [] σ8 (mi_K (fun x11 σ10 => ((¬ x11 = (108 : Int32) → Q (some (.int (0 : Int32))) σ10) ∧ (x11 = (108 : Int32) → mM X d 136 0 (mm_L0 136 [(.ref 86), .int (i1 + (3 : Int32))]) [] σ10 (mi_K (fun x13 σ12 => ((¬ x13 = (108 : Int32) → Q (some (.int (0 : Int32))) σ12) ∧ (x13 = (108 : Int32) → Q (some (.int (4 : Int32))) σ12))))))))))))))))))) : mM X (d + 1) 137 0 (mm_L0 137 [(.ref 86), .int i1, .int i2]) [] σ Q := by
  intro hp R
  have F : mF hp hp := mF.rf
  show mm_R X (d + 1) 137 0 [some ((.ref 86)), some (.int i1), some (.int i2), none, none, none] [] hp (mQ hp Q)
  refine mm_R.cV (pc' := 2) (L' := [some ((.ref 86)), some (.int i1), some (.int i2), none, none, none]) (st1 := [.int i1, (.ref 86)]) (as := [.int i1]) (rest := []) 2 rfl rfl (mw_sp rfl rfl (Nat.le_of_ble_eq_true rfl) (mw_ac rfl (mw_ac rfl mw_an)) mw_an) rfl rfl (m_rc R rfl) ((H _ R).mono (fun o hp1 H => ?_))
  obtain ⟨σ1, R, F1, x2, rfl, H⟩ := H
  replace F := F.tr F1
  refine mm_R.br (L' := [some ((.ref 86)), some (.int i1), some (.int i2), none, none, none]) (st' := []) (t := 62) (u := 10) (b := mm_cc .ne x2 (110 : Int32)) 2 rfl (fun c => ?_) (fun c => ?_)
  · replace H := H.1 (of_decide_eq_true c)
    refine mm_R.cV (pc' := 64) (L' := [some ((.ref 86)), some (.int i1), some (.int i2), none, none, none]) (st1 := [.int i1, (.ref 86)]) (as := [.int i1]) (rest := []) 2 rfl rfl (mw_sp rfl rfl (Nat.le_of_ble_eq_true rfl) (mw_ac rfl (mw_ac rfl mw_an)) mw_an) rfl rfl (m_rc R rfl) ((H _ R).mono (fun o hp1 H => ?_))
    obtain ⟨σ3, R, F1, x4, rfl, H⟩ := H
    replace F := F.tr F1
    refine mm_R.br (L' := [some ((.ref 86)), some (.int i1), some (.int i2), none, none, none]) (st' := []) (t := 188) (u := 72) (b := mm_cc .ne x4 (34 : Int32)) 2 rfl (fun c => ?_) (fun c => ?_)
    · replace H := H.1 (of_decide_eq_true c)
      refine mm_R.cV (pc' := 190) (L' := [some ((.ref 86)), some (.int i1), some (.int i2), none, none, none]) (st1 := [.int i1, (.ref 86)]) (as := [.int i1]) (rest := []) 2 rfl rfl (mw_sp rfl rfl (Nat.le_of_ble_eq_true rfl) (mw_ac rfl (mw_ac rfl mw_an)) mw_an) rfl rfl (m_rc R rfl) ((H _ R).mono (fun o hp1 H => ?_))
      obtain ⟨σ5, R, F1, x6, rfl, H⟩ := H
      replace F := F.tr F1
      refine mm_R.br (L' := [some ((.ref 86)), some (.int i1), some (.int i2), none, none, none]) (st' := []) (t := 204) (u := 198) (b := mm_cc .ne x6 (45 : Int32)) 2 rfl (fun c => ?_) (fun c => ?_)
      · replace H := H.1 (of_decide_eq_true c)
        exact mm_R.pn (pc' := 212) (L' := [some ((.ref 86)), some (.int i1), some (.int i2), some (.int i1), some (.int (0 : Int32)), some (.int (0 : Int32))]) (st' := []) 6 rfl (H.use R F)
      · replace H := H.2 (Decidable.of_not_not (of_decide_eq_false c))
        exact mm_R.pn (pc' := 212) (L' := [some ((.ref 86)), some (.int i1), some (.int i2), some (.int (i1 + (1 : Int32))), some (.int (0 : Int32)), some (.int (0 : Int32))]) (st' := []) 9 rfl (H.use R F)
    · replace H := H.2 (Decidable.of_not_not (of_decide_eq_false c))
      exact mm_R.pn (pc' := 74) (L' := [some ((.ref 86)), some (.int i1), some (.int i2), some (.int (0 : Int32)), none, none]) (st' := []) 2 rfl (H.use R F)
  · replace H := H.2 (Decidable.of_not_not (of_decide_eq_false c))
    refine mm_R.cV (pc' := 17) (L' := [some ((.ref 86)), some (.int i1), some (.int i2), none, none, none]) (st1 := [.int (0 : Int32), .int i2, .int (0 : Int32), .int (141 : Int32), (.ref 86)]) (as := [.int (141 : Int32), .int (0 : Int32), .int i2, .int (0 : Int32)]) (rest := []) 5 rfl rfl (mw_sp rfl rfl (Nat.le_of_ble_eq_true rfl) (mw_ac rfl (mw_ac rfl (mw_ac rfl (mw_ac rfl (mw_ac rfl mw_an))))) mw_an) rfl rfl (m_rc R rfl) ((H _ R).mono (fun o hp1 H => ?_))
    obtain ⟨σ7, R, F1, rfl, H⟩ := H
    replace F := F.tr F1
    refine mm_R.cV (pc' := 24) (L' := [some ((.ref 86)), some (.int i1), some (.int i2), none, none, none]) (st1 := [.int (i1 + (1 : Int32)), (.ref 86)]) (as := [.int (i1 + (1 : Int32))]) (rest := []) 4 rfl rfl (mw_sp rfl rfl (Nat.le_of_ble_eq_true rfl) (mw_ac rfl (mw_ac rfl mw_an)) mw_an) rfl rfl (m_rc R rfl) ((H _ R).mono (fun o hp1 H => ?_))
    obtain ⟨σ8, R, F1, x9, rfl, H⟩ := H
    replace F := F.tr F1
    refine mm_R.br (L' := [some ((.ref 86)), some (.int i1), some (.int i2), none, none, none]) (st' := []) (t := 60) (u := 32) (b := mm_cc .ne x9 (117 : Int32)) 2 rfl (fun c => ?_) (fun c => ?_)
    · replace H := H.1 (of_decide_eq_true c)
      exact mm_R.rt (pc' := 61) (L' := [some ((.ref 86)), some (.int i1), some (.int i2), none, none, none]) (st1 := [.int (0 : Int32)]) 1 rfl rfl rfl rfl rfl rfl ⟨_, R, F, H⟩
    · replace H := H.2 (Decidable.of_not_not (of_decide_eq_false c))
      refine mm_R.cV (pc' := 36) (L' := [some ((.ref 86)), some (.int i1), some (.int i2), none, none, none]) (st1 := [.int (i1 + (2 : Int32)), (.ref 86)]) (as := [.int (i1 + (2 : Int32))]) (rest := []) 4 rfl rfl (mw_sp rfl rfl (Nat.le_of_ble_eq_true rfl) (mw_ac rfl (mw_ac rfl mw_an)) mw_an) rfl rfl (m_rc R rfl) ((H _ R).mono (fun o hp1 H => ?_))
      obtain ⟨σ10, R, F1, x11, rfl, H⟩ := H
      replace F := F.tr F1
      refine mm_R.br (L' := [some ((.ref 86)), some (.int i1), some (.int i2), none, none, none]) (st' := []) (t := 60) (u := 44) (b := mm_cc .ne x11 (108 : Int32)) 2 rfl (fun c => ?_) (fun c => ?_)
      · replace H := H.1 (of_decide_eq_true c)
        exact mm_R.rt (pc' := 61) (L' := [some ((.ref 86)), some (.int i1), some (.int i2), none, none, none]) (st1 := [.int (0 : Int32)]) 1 rfl rfl rfl rfl rfl rfl ⟨_, R, F, H⟩
      · replace H := H.2 (Decidable.of_not_not (of_decide_eq_false c))
        refine mm_R.cV (pc' := 48) (L' := [some ((.ref 86)), some (.int i1), some (.int i2), none, none, none]) (st1 := [.int (i1 + (3 : Int32)), (.ref 86)]) (as := [.int (i1 + (3 : Int32))]) (rest := []) 4 rfl rfl (mw_sp rfl rfl (Nat.le_of_ble_eq_true rfl) (mw_ac rfl (mw_ac rfl mw_an)) mw_an) rfl rfl (m_rc R rfl) ((H _ R).mono (fun o hp1 H => ?_))
        obtain ⟨σ12, R, F1, x13, rfl, H⟩ := H
        replace F := F.tr F1
        refine mm_R.br (L' := [some ((.ref 86)), some (.int i1), some (.int i2), none, none, none]) (st' := []) (t := 60) (u := 56) (b := mm_cc .ne x13 (108 : Int32)) 2 rfl (fun c => ?_) (fun c => ?_)
        · replace H := H.1 (of_decide_eq_true c)
          exact mm_R.rt (pc' := 61) (L' := [some ((.ref 86)), some (.int i1), some (.int i2), none, none, none]) (st1 := [.int (0 : Int32)]) 1 rfl rfl rfl rfl rfl rfl ⟨_, R, F, H⟩
        · replace H := H.2 (Decidable.of_not_not (of_decide_eq_false c))
          exact mm_R.rt (pc' := 61) (L' := [some ((.ref 86)), some (.int i1), some (.int i2), none, none, none]) (st1 := [.int (4 : Int32)]) 2 rfl rfl rfl rfl rfl rfl ⟨_, R, F, H⟩
-- StepRunnerModel.scalar, from 74
set_option maxRecDepth 10000 in
theorem u137_74 {X : List Int32} {d : Nat} {i1 : Int32} {i2 : Int32} {i3 : Int32} {o4 : Option Value} {o5 : Option Value} {σ : mS} {Q : Option Value → mS → Prop} (H : (((σ.1 3) ≤ ((i1 + (1 : Int32)) + i3) → mM X (d + 1) 137 144 [some ((.ref 86)), some (.int i1), some (.int i2), some (.int i3), o4, o5] [] σ Q) ∧ (¬ (σ.1 3) ≤ ((i1 + (1 : Int32)) + i3) → mM X d 136 0 (mm_L0 136 [(.ref 86), .int ((i1 + (1 : Int32)) + i3)]) [] σ (mi_K (fun x2 σ1 => ((x2 = (34 : Int32) → mM X (d + 1) 137 144 [some ((.ref 86)), some (.int i1), some (.int i2), some (.int i3), o4, o5] [] σ1 Q) ∧ (¬ x2 = (34 : Int32) → mM X d 136 0 (mm_L0 136 [(.ref 86), .int ((i1 + (1 : Int32)) + i3)]) [] σ1 (mi_K (fun x4 σ3 => ((¬ x4 = (92 : Int32) → mM X d 136 0 (mm_L0 136 [(.ref 86), .int ((i1 + (1 : Int32)) + i3)]) [] σ3 (mi_K (fun x6 σ5 => mM X d 138 0 (mm_L0 138 [(.ref 86), .int ((((19128 : Int32) + i1) + (1 : Int32)) + i3), .int x6]) [] σ5 (m0_K (fun σ7 => mM X (d + 1) 137 74 [some ((.ref 86)), some (.int i1), some (.int i2), some (.int (i3 + (1 : Int32))), o4, o5] [] σ7 Q))))) ∧ (x4 = (92 : Int32) → Q (some (.int (0 : Int32))) σ3))))))))))) : mM X (d + 1) 137 74 [some ((.ref 86)), some (.int i1), some (.int i2), some (.int i3), o4, o5] [] σ Q := by
  intro hp R
  have F : mF hp hp := mF.rf
  refine mm_R.wgi (pc' := 80) (L' := [some ((.ref 86)), some (.int i1), some (.int i2), some (.int i3), o4, o5]) (r := [.int ((i1 + (1 : Int32)) + i3)]) 6 rfl rfl (m_gi R rfl ?_)
  refine mm_R.br (L' := [some ((.ref 86)), some (.int i1), some (.int i2), some (.int i3), o4, o5]) (st' := []) (t := 144) (u := 86) (b := mm_cc .ge ((i1 + (1 : Int32)) + i3) (σ.1 3)) 1 rfl (fun c => ?_) (fun c => ?_)
  · replace H := H.1 (of_decide_eq_true c)
    exact H.use R F
  · replace H := H.2 (of_decide_eq_false c)
    refine mm_R.cV (pc' := 92) (L' := [some ((.ref 86)), some (.int i1), some (.int i2), some (.int i3), o4, o5]) (st1 := [.int ((i1 + (1 : Int32)) + i3), (.ref 86)]) (as := [.int ((i1 + (1 : Int32)) + i3)]) (rest := []) 6 rfl rfl (mw_sp rfl rfl (Nat.le_of_ble_eq_true rfl) (mw_ac rfl (mw_ac rfl mw_an)) mw_an) rfl rfl (m_rc R rfl) ((H _ R).mono (fun o hp1 H => ?_))
    obtain ⟨σ1, R, F1, x2, rfl, H⟩ := H
    replace F := F.tr F1
    refine mm_R.br (L' := [some ((.ref 86)), some (.int i1), some (.int i2), some (.int i3), o4, o5]) (st' := []) (t := 144) (u := 100) (b := mm_cc .eq x2 (34 : Int32)) 2 rfl (fun c => ?_) (fun c => ?_)
    · replace H := H.1 (of_decide_eq_true c)
      exact H.use R F
    · replace H := H.2 (of_decide_eq_false c)
      refine mm_R.cV (pc' := 106) (L' := [some ((.ref 86)), some (.int i1), some (.int i2), some (.int i3), o4, o5]) (st1 := [.int ((i1 + (1 : Int32)) + i3), (.ref 86)]) (as := [.int ((i1 + (1 : Int32)) + i3)]) (rest := []) 6 rfl rfl (mw_sp rfl rfl (Nat.le_of_ble_eq_true rfl) (mw_ac rfl (mw_ac rfl mw_an)) mw_an) rfl rfl (m_rc R rfl) ((H _ R).mono (fun o hp1 H => ?_))
      obtain ⟨σ3, R, F1, x4, rfl, H⟩ := H
      replace F := F.tr F1
      refine mm_R.br (L' := [some ((.ref 86)), some (.int i1), some (.int i2), some (.int i3), o4, o5]) (st' := []) (t := 116) (u := 114) (b := mm_cc .ne x4 (92 : Int32)) 2 rfl (fun c => ?_) (fun c => ?_)
      · replace H := H.1 (of_decide_eq_true c)
        refine mm_R.cV (pc' := 132) (L' := [some ((.ref 86)), some (.int i1), some (.int i2), some (.int i3), o4, o5]) (st1 := [.int ((i1 + (1 : Int32)) + i3), (.ref 86), .int ((((19128 : Int32) + i1) + (1 : Int32)) + i3), (.ref 86)]) (as := [.int ((i1 + (1 : Int32)) + i3)]) (rest := [.int ((((19128 : Int32) + i1) + (1 : Int32)) + i3), (.ref 86)]) 14 rfl rfl (mw_sp rfl rfl (Nat.le_of_ble_eq_true rfl) (mw_ac rfl (mw_ac rfl mw_an)) (mw_ac rfl (mw_ac rfl mw_an))) rfl rfl (m_rc R rfl) ((H _ R).mono (fun o hp1 H => ?_))
        obtain ⟨σ5, R, F1, x6, rfl, H⟩ := H
        replace F := F.tr F1
        refine mm_R.cV (pc' := 135) (L' := [some ((.ref 86)), some (.int i1), some (.int i2), some (.int i3), o4, o5]) (st1 := [.int x6, .int ((((19128 : Int32) + i1) + (1 : Int32)) + i3), (.ref 86)]) (as := [.int ((((19128 : Int32) + i1) + (1 : Int32)) + i3), .int x6]) (rest := []) 0 rfl rfl (mw_sp rfl rfl (Nat.le_of_ble_eq_true rfl) (mw_ac rfl (mw_ac rfl (mw_ac rfl mw_an))) mw_an) rfl rfl (m_rc R rfl) ((H _ R).mono (fun o hp1 H => ?_))
        obtain ⟨σ7, R, F1, rfl, H⟩ := H
        replace F := F.tr F1
        exact mm_R.pn (pc' := 74) (L' := [some ((.ref 86)), some (.int i1), some (.int i2), some (.int (i3 + (1 : Int32))), o4, o5]) (st' := []) 2 rfl (H.use R F)
      · replace H := H.2 (Decidable.of_not_not (of_decide_eq_false c))
        exact mm_R.rt (pc' := 115) (L' := [some ((.ref 86)), some (.int i1), some (.int i2), some (.int i3), o4, o5]) (st1 := [.int (0 : Int32)]) 1 rfl rfl rfl rfl rfl rfl ⟨_, R, F, H⟩
-- StepRunnerModel.scalar, from 144
set_option maxRecDepth 10000 in
theorem u137_144 {X : List Int32} {d : Nat} {i1 : Int32} {i2 : Int32} {i3 : Int32} {o4 : Option Value} {o5 : Option Value} {σ : mS} {Q : Option Value → mS → Prop} (H : mM X d 139 0 (mm_L0 139 [(.ref 86), .int (141 : Int32), .int i2, .int (((19128 : Int32) + i1) + (1 : Int32)), .int i3]) [] σ (m0_K (fun σ1 => (((24 : Int32) < i3 → Q (some (.int (0 : Int32))) σ1) ∧ (¬ (24 : Int32) < i3 → mM X d 136 0 (mm_L0 136 [(.ref 86), .int ((i1 + (1 : Int32)) + i3)]) [] σ1 (mi_K (fun x3 σ2 => ((¬ x3 = (34 : Int32) → Q (some (.int (0 : Int32))) σ2) ∧ (x3 = (34 : Int32) → Q (some (.int (i3 + (2 : Int32)))) σ2))))))))) : mM X (d + 1) 137 144 [some ((.ref 86)), some (.int i1), some (.int i2), some (.int i3), o4, o5] [] σ Q := by
  intro hp R
  have F : mF hp hp := mF.rf
  refine mm_R.cV (pc' := 157) (L' := [some ((.ref 86)), some (.int i1), some (.int i2), some (.int i3), o4, o5]) (st1 := [.int i3, .int (((19128 : Int32) + i1) + (1 : Int32)), .int i2, .int (141 : Int32), (.ref 86)]) (as := [.int (141 : Int32), .int i2, .int (((19128 : Int32) + i1) + (1 : Int32)), .int i3]) (rest := []) 9 rfl rfl (mw_sp rfl rfl (Nat.le_of_ble_eq_true rfl) (mw_ac rfl (mw_ac rfl (mw_ac rfl (mw_ac rfl (mw_ac rfl mw_an))))) mw_an) rfl rfl (m_rc R rfl) ((H _ R).mono (fun o hp1 H => ?_))
  obtain ⟨σ1, R, F1, rfl, H⟩ := H
  replace F := F.tr F1
  refine mm_R.br (L' := [some ((.ref 86)), some (.int i1), some (.int i2), some (.int i3), o4, o5]) (st' := []) (t := 186) (u := 166) (b := mm_cc .gt i3 (24 : Int32)) 3 rfl (fun c => ?_) (fun c => ?_)
  · replace H := H.1 (of_decide_eq_true c)
    exact mm_R.rt (pc' := 187) (L' := [some ((.ref 86)), some (.int i1), some (.int i2), some (.int i3), o4, o5]) (st1 := [.int (0 : Int32)]) 1 rfl rfl rfl rfl rfl rfl ⟨_, R, F, H⟩
  · replace H := H.2 (of_decide_eq_false c)
    refine mm_R.cV (pc' := 172) (L' := [some ((.ref 86)), some (.int i1), some (.int i2), some (.int i3), o4, o5]) (st1 := [.int ((i1 + (1 : Int32)) + i3), (.ref 86)]) (as := [.int ((i1 + (1 : Int32)) + i3)]) (rest := []) 6 rfl rfl (mw_sp rfl rfl (Nat.le_of_ble_eq_true rfl) (mw_ac rfl (mw_ac rfl mw_an)) mw_an) rfl rfl (m_rc R rfl) ((H _ R).mono (fun o hp1 H => ?_))
    obtain ⟨σ2, R, F1, x3, rfl, H⟩ := H
    replace F := F.tr F1
    refine mm_R.br (L' := [some ((.ref 86)), some (.int i1), some (.int i2), some (.int i3), o4, o5]) (st' := []) (t := 186) (u := 180) (b := mm_cc .ne x3 (34 : Int32)) 2 rfl (fun c => ?_) (fun c => ?_)
    · replace H := H.1 (of_decide_eq_true c)
      exact mm_R.rt (pc' := 187) (L' := [some ((.ref 86)), some (.int i1), some (.int i2), some (.int i3), o4, o5]) (st1 := [.int (0 : Int32)]) 1 rfl rfl rfl rfl rfl rfl ⟨_, R, F, H⟩
    · replace H := H.2 (Decidable.of_not_not (of_decide_eq_false c))
      exact mm_R.rt (pc' := 187) (L' := [some ((.ref 86)), some (.int i1), some (.int i2), some (.int i3), o4, o5]) (st1 := [.int (i3 + (2 : Int32))]) 4 rfl rfl rfl rfl rfl rfl ⟨_, R, F, H⟩
-- StepRunnerModel.scalar, from 212
set_option maxRecDepth 10000 in
theorem u137_212 {X : List Int32} {d : Nat} {i1 : Int32} {i2 : Int32} {i3 : Int32} {i4 : Int32} {i5 : Int32} {σ : mS} {Q : Option Value → mS → Prop} (H : mM X d 136 0 (mm_L0 136 [(.ref 86), .int (i3 + i4)]) [] σ (mi_K (fun x2 σ1 => mM X d 141 0 (mm_L0 141 [.int x2]) [] σ1 (mi_K (fun x4 σ3 => ((x4 = (0 : Int32) → mM X (d + 1) 137 258 [some ((.ref 86)), some (.int i1), some (.int i2), some (.int i3), some (.int i4), some (.int i5)] [] σ3 Q) ∧ (¬ x4 = (0 : Int32) → (((7 : Int32) ≤ i4 → mM X (d + 1) 137 258 [some ((.ref 86)), some (.int i1), some (.int i2), some (.int i3), some (.int i4), some (.int i5)] [] σ3 Q) ∧ (¬ (7 : Int32) ≤ i4 → mM X d 136 0 (mm_L0 136 [(.ref 86), .int (i3 + i4)]) [] σ3 (mi_K (fun x6 σ5 => mM X (d + 1) 137 212 [some ((.ref 86)), some (.int i1), some (.int i2), some (.int i3), some (.int (i4 + (1 : Int32))), some (.int ((((10 : Int32) * i5) + x6) - (48 : Int32)))] [] σ5 Q))))))))))) : mM X (d + 1) 137 212 [some ((.ref 86)), some (.int i1), some (.int i2), some (.int i3), some (.int i4), some (.int i5)] [] σ Q := by
  intro hp R
  have F : mF hp hp := mF.rf
  refine mm_R.cV (pc' := 217) (L' := [some ((.ref 86)), some (.int i1), some (.int i2), some (.int i3), some (.int i4), some (.int i5)]) (st1 := [.int (i3 + i4), (.ref 86)]) (as := [.int (i3 + i4)]) (rest := []) 4 rfl rfl (mw_sp rfl rfl (Nat.le_of_ble_eq_true rfl) (mw_ac rfl (mw_ac rfl mw_an)) mw_an) rfl rfl (m_rc R rfl) ((H _ R).mono (fun o hp1 H => ?_))
  obtain ⟨σ1, R, F1, x2, rfl, H⟩ := H
  replace F := F.tr F1
  refine mm_R.cS (pc' := 220) (L' := [some ((.ref 86)), some (.int i1), some (.int i2), some (.int i3), some (.int i4), some (.int i5)]) (st1 := [.int x2]) (as := [.int x2]) (rest := []) 0 rfl rfl (mw_sp rfl rfl (Nat.le_of_ble_eq_true rfl) (mw_ac rfl mw_an) mw_an) rfl rfl ((H _ R).mono (fun o hp1 H => ?_))
  obtain ⟨σ3, R, F1, x4, rfl, H⟩ := H
  replace F := F.tr F1
  refine mm_R.br (L' := [some ((.ref 86)), some (.int i1), some (.int i2), some (.int i3), some (.int i4), some (.int i5)]) (st' := []) (t := 258) (u := 226) (b := mm_cc .eq x4 (0 : Int32)) 1 rfl (fun c => ?_) (fun c => ?_)
  · replace H := H.1 (of_decide_eq_true c)
    exact H.use R F
  · replace H := H.2 (of_decide_eq_false c)
    refine mm_R.br (L' := [some ((.ref 86)), some (.int i1), some (.int i2), some (.int i3), some (.int i4), some (.int i5)]) (st' := []) (t := 258) (u := 233) (b := mm_cc .ge i4 (7 : Int32)) 3 rfl (fun c => ?_) (fun c => ?_)
    · replace H := H.1 (of_decide_eq_true c)
      exact H.use R F
    · replace H := H.2 (of_decide_eq_false c)
      refine mm_R.cV (pc' := 243) (L' := [some ((.ref 86)), some (.int i1), some (.int i2), some (.int i3), some (.int i4), some (.int i5)]) (st1 := [.int (i3 + i4), (.ref 86), .int ((10 : Int32) * i5)]) (as := [.int (i3 + i4)]) (rest := [.int ((10 : Int32) * i5)]) 7 rfl rfl (mw_sp rfl rfl (Nat.le_of_ble_eq_true rfl) (mw_ac rfl (mw_ac rfl mw_an)) (mw_ac rfl mw_an)) rfl rfl (m_rc R rfl) ((H _ R).mono (fun o hp1 H => ?_))
      obtain ⟨σ5, R, F1, x6, rfl, H⟩ := H
      replace F := F.tr F1
      exact mm_R.pn (pc' := 212) (L' := [some ((.ref 86)), some (.int i1), some (.int i2), some (.int i3), some (.int (i4 + (1 : Int32))), some (.int ((((10 : Int32) * i5) + x6) - (48 : Int32)))]) (st' := []) 6 rfl (H.use R F)
-- StepRunnerModel.scalar, from 258
set_option maxRecDepth 10000 in
theorem u137_258 {X : List Int32} {d : Nat} {i1 : Int32} {i2 : Int32} {i3 : Int32} {i4 : Int32} {i5 : Int32} {σ : mS} {Q : Option Value → mS → Prop} (H : ((i4 < (1 : Int32) → Q (some (.int (0 : Int32))) σ) ∧ (¬ i4 < (1 : Int32) → (((6 : Int32) < i4 → Q (some (.int (0 : Int32))) σ) ∧ (¬ (6 : Int32) < i4 → mM X d 136 0 (mm_L0 136 [(.ref 86), .int i3]) [] σ (mi_K (fun x2 σ1 => ((¬ x2 = (48 : Int32) → mM X (d + 1) 137 294 [some ((.ref 86)), some (.int i1), some (.int i2), some (.int i3), some (.int i4), some (.int i5)] [] σ1 Q) ∧ (x2 = (48 : Int32) → (((1 : Int32) < i4 → Q (some (.int (0 : Int32))) σ1) ∧ (¬ (1 : Int32) < i4 → ((i3 ≤ i1 → mM X (d + 1) 137 294 [some ((.ref 86)), some (.int i1), some (.int i2), some (.int i3), some (.int i4), some (.int i5)] [] σ1 Q) ∧ (¬ i3 ≤ i1 → Q (some (.int (0 : Int32))) σ1))))))))))))) : mM X (d + 1) 137 258 [some ((.ref 86)), some (.int i1), some (.int i2), some (.int i3), some (.int i4), some (.int i5)] [] σ Q := by
  intro hp R
  have F : mF hp hp := mF.rf
  refine mm_R.br (L' := [some ((.ref 86)), some (.int i1), some (.int i2), some (.int i3), some (.int i4), some (.int i5)]) (st' := []) (t := 292) (u := 264) (b := mm_cc .lt i4 (1 : Int32)) 3 rfl (fun c => ?_) (fun c => ?_)
  · replace H := H.1 (of_decide_eq_true c)
    exact mm_R.rt (pc' := 293) (L' := [some ((.ref 86)), some (.int i1), some (.int i2), some (.int i3), some (.int i4), some (.int i5)]) (st1 := [.int (0 : Int32)]) 1 rfl rfl rfl rfl rfl rfl ⟨_, R, F, H⟩
  · replace H := H.2 (of_decide_eq_false c)
    refine mm_R.br (L' := [some ((.ref 86)), some (.int i1), some (.int i2), some (.int i3), some (.int i4), some (.int i5)]) (st' := []) (t := 292) (u := 271) (b := mm_cc .gt i4 (6 : Int32)) 3 rfl (fun c => ?_) (fun c => ?_)
    · replace H := H.1 (of_decide_eq_true c)
      exact mm_R.rt (pc' := 293) (L' := [some ((.ref 86)), some (.int i1), some (.int i2), some (.int i3), some (.int i4), some (.int i5)]) (st1 := [.int (0 : Int32)]) 1 rfl rfl rfl rfl rfl rfl ⟨_, R, F, H⟩
    · replace H := H.2 (of_decide_eq_false c)
      refine mm_R.cV (pc' := 273) (L' := [some ((.ref 86)), some (.int i1), some (.int i2), some (.int i3), some (.int i4), some (.int i5)]) (st1 := [.int i3, (.ref 86)]) (as := [.int i3]) (rest := []) 2 rfl rfl (mw_sp rfl rfl (Nat.le_of_ble_eq_true rfl) (mw_ac rfl (mw_ac rfl mw_an)) mw_an) rfl rfl (m_rc R rfl) ((H _ R).mono (fun o hp1 H => ?_))
      obtain ⟨σ1, R, F1, x2, rfl, H⟩ := H
      replace F := F.tr F1
      refine mm_R.br (L' := [some ((.ref 86)), some (.int i1), some (.int i2), some (.int i3), some (.int i4), some (.int i5)]) (st' := []) (t := 294) (u := 281) (b := mm_cc .ne x2 (48 : Int32)) 2 rfl (fun c => ?_) (fun c => ?_)
      · replace H := H.1 (of_decide_eq_true c)
        exact H.use R F
      · replace H := H.2 (Decidable.of_not_not (of_decide_eq_false c))
        refine mm_R.br (L' := [some ((.ref 86)), some (.int i1), some (.int i2), some (.int i3), some (.int i4), some (.int i5)]) (st' := []) (t := 292) (u := 287) (b := mm_cc .gt i4 (1 : Int32)) 3 rfl (fun c => ?_) (fun c => ?_)
        · replace H := H.1 (of_decide_eq_true c)
          exact mm_R.rt (pc' := 293) (L' := [some ((.ref 86)), some (.int i1), some (.int i2), some (.int i3), some (.int i4), some (.int i5)]) (st1 := [.int (0 : Int32)]) 1 rfl rfl rfl rfl rfl rfl ⟨_, R, F, H⟩
        · replace H := H.2 (of_decide_eq_false c)
          refine mm_R.br (L' := [some ((.ref 86)), some (.int i1), some (.int i2), some (.int i3), some (.int i4), some (.int i5)]) (st' := []) (t := 294) (u := 292) (b := mm_cc .le i3 i1) 3 rfl (fun c => ?_) (fun c => ?_)
          · replace H := H.1 (of_decide_eq_true c)
            exact H.use R F
          · replace H := H.2 (of_decide_eq_false c)
            exact mm_R.rt (pc' := 293) (L' := [some ((.ref 86)), some (.int i1), some (.int i2), some (.int i3), some (.int i4), some (.int i5)]) (st1 := [.int (0 : Int32)]) 1 rfl rfl rfl rfl rfl rfl ⟨_, R, F, H⟩
-- StepRunnerModel.scalar, from 294
set_option maxRecDepth 10000 in
theorem u137_294 {X : List Int32} {d : Nat} {i1 : Int32} {i2 : Int32} {i3 : Int32} {i4 : Int32} {i5 : Int32} {σ : mS} {Q : Option Value → mS → Prop} (H : ((i3 ≤ i1 → mM X d 122 0 (mm_L0 122 [(.ref 86), .int (141 : Int32), .int (1 : Int32), .int i2, .int i5]) [] σ (m0_K (fun σ1 => Q (some (.int ((i3 + i4) - i1))) σ1))) ∧ (¬ i3 ≤ i1 → mM X d 122 0 (mm_L0 122 [(.ref 86), .int (141 : Int32), .int (1 : Int32), .int i2, .int (-i5)]) [] σ (m0_K (fun σ2 => Q (some (.int ((i3 + i4) - i1))) σ2))))) : mM X (d + 1) 137 294 [some ((.ref 86)), some (.int i1), some (.int i2), some (.int i3), some (.int i4), some (.int i5)] [] σ Q := by
  intro hp R
  have F : mF hp hp := mF.rf
  refine mm_R.br (L' := [some ((.ref 86)), some (.int i1), some (.int i2), some (.int i3), some (.int i4), some (.int i5)]) (st' := [.int i2, .int (1 : Int32), .int (141 : Int32), (.ref 86)]) (t := 311) (u := 305) (b := mm_cc .le i3 i1) 7 rfl (fun c => ?_) (fun c => ?_)
  · replace H := H.1 (of_decide_eq_true c)
    refine mm_R.cV (pc' := 313) (L' := [some ((.ref 86)), some (.int i1), some (.int i2), some (.int i3), some (.int i4), some (.int i5)]) (st1 := [.int i5, .int i2, .int (1 : Int32), .int (141 : Int32), (.ref 86)]) (as := [.int (141 : Int32), .int (1 : Int32), .int i2, .int i5]) (rest := []) 1 rfl rfl (mw_sp rfl rfl (Nat.le_of_ble_eq_true rfl) (mw_ac rfl (mw_ac rfl (mw_ac rfl (mw_ac rfl (mw_ac rfl mw_an))))) mw_an) rfl rfl (m_rc R rfl) ((H _ R).mono (fun o hp1 H => ?_))
    obtain ⟨σ1, R, F1, rfl, H⟩ := H
    replace F := F.tr F1
    exact mm_R.rt (pc' := 322) (L' := [some ((.ref 86)), some (.int i1), some (.int i2), some (.int i3), some (.int i4), some (.int i5)]) (st1 := [.int ((i3 + i4) - i1)]) 5 rfl rfl rfl rfl rfl rfl ⟨_, R, F, H⟩
  · replace H := H.2 (of_decide_eq_false c)
    refine mm_R.cV (pc' := 313) (L' := [some ((.ref 86)), some (.int i1), some (.int i2), some (.int i3), some (.int i4), some (.int i5)]) (st1 := [.int (-i5), .int i2, .int (1 : Int32), .int (141 : Int32), (.ref 86)]) (as := [.int (141 : Int32), .int (1 : Int32), .int i2, .int (-i5)]) (rest := []) 3 rfl rfl (mw_sp rfl rfl (Nat.le_of_ble_eq_true rfl) (mw_ac rfl (mw_ac rfl (mw_ac rfl (mw_ac rfl (mw_ac rfl mw_an))))) mw_an) rfl rfl (m_rc R rfl) ((H _ R).mono (fun o hp1 H => ?_))
    obtain ⟨σ2, R, F1, rfl, H⟩ := H
    replace F := F.tr F1
    exact mm_R.rt (pc' := 322) (L' := [some ((.ref 86)), some (.int i1), some (.int i2), some (.int i3), some (.int i4), some (.int i5)]) (st1 := [.int ((i3 + i4) - i1)]) 5 rfl rfl rfl rfl rfl rfl ⟨_, R, F, H⟩
-- StepRunnerModel.setSign, from 0
set_option maxRecDepth 10000 in
theorem u138_0 {X : List Int32} {d : Nat} {i1 : Int32} {i2 : Int32} {σ : mS} {Q : Option Value → mS → Prop} (H : (0 ≤ (i1 / (8 : Int32)) ∧ Int32.toNatClampNeg (i1 / (8 : Int32)) < 2400) ∧ (0 ≤ (i1 / (8 : Int32)) ∧ Int32.toNatClampNeg (i1 / (8 : Int32)) < 2400) ∧ ∀ σ3, σ3 = mPuL σ 87 (i1 / (8 : Int32)) (((mGeL σ 87 (i1 / (8 : Int32))) &&& (((255 : Int64) <<< (Int32.toInt64 ((8 : Int32) * (i1 - i1 / (8 : Int32) * (8 : Int32))) &&& 63)) ^^^ (-1 : Int64))) ||| ((Int32.toInt64 i2) <<< (Int32.toInt64 ((8 : Int32) * (i1 - i1 / (8 : Int32) * (8 : Int32))) &&& 63))) → Q none σ3) : mM X (d + 1) 138 0 (mm_L0 138 [(.ref 86), .int i1, .int i2]) [] σ Q := by
  intro hp R
  have F : mF hp hp := mF.rf
  show mm_R X (d + 1) 138 0 [some ((.ref 86)), some (.int i1), some (.int i2)] [] hp (mQ hp Q)
  refine mm_R.wgv (pc' := 1) (L' := [some ((.ref 86)), some (.int i1), some (.int i2)]) (r := []) 1 rfl rfl (m_gv R rfl ?_)
  refine mm_R.wgv (pc' := 9) (L' := [some ((.ref 86)), some (.int i1), some (.int i2)]) (r := [.int (i1 / (8 : Int32)), (.ref 87)]) 4 rfl rfl (m_gv R rfl ?_)
  obtain ⟨hi1, H⟩ := H
  refine mm_R.wal (pc' := 16) (L' := [some ((.ref 86)), some (.int i1), some (.int i2)]) (r := [.int (i1 / (8 : Int32)), (.ref 87)]) (t := 1004) 3 rfl rfl rfl rfl (m_al (i := (i1 / (8 : Int32))) R (n := 2400) (by decide) hi1 ?_)
  obtain ⟨hi2, H⟩ := H
  refine mm_R.wsl (pc' := 44) (L' := [some ((.ref 86)), some (.int i1), some (.int i2)]) (r := []) 19 rfl rfl (m_sl (i := (i1 / (8 : Int32))) (v := (((mGeL σ 87 (i1 / (8 : Int32))) &&& (((255 : Int64) <<< (Int32.toInt64 ((8 : Int32) * (i1 - i1 / (8 : Int32) * (8 : Int32))) &&& 63)) ^^^ (-1 : Int64))) ||| ((Int32.toInt64 i2) <<< (Int32.toInt64 ((8 : Int32) * (i1 - i1 / (8 : Int32) * (8 : Int32))) &&& 63)))) R F (n := 2400) (by decide) hi2 (fun hp R F => ?_))
  obtain ⟨σ3, es⟩ : ∃ z, z = mPuL σ 87 (i1 / (8 : Int32)) (((mGeL σ 87 (i1 / (8 : Int32))) &&& (((255 : Int64) <<< (Int32.toInt64 ((8 : Int32) * (i1 - i1 / (8 : Int32) * (8 : Int32))) &&& 63)) ^^^ (-1 : Int64))) ||| ((Int32.toInt64 i2) <<< (Int32.toInt64 ((8 : Int32) * (i1 - i1 / (8 : Int32) * (8 : Int32))) &&& 63))) := ⟨_, rfl⟩
  rw [← es] at R
  replace H := H σ3 es
  exact mm_R.rt (pc' := 45) (L' := [some ((.ref 86)), some (.int i1), some (.int i2)]) (st1 := []) 0 rfl rfl rfl rfl rfl rfl ⟨_, R, F, H⟩
-- StepRunnerModel.addText, from 0
set_option maxRecDepth 10000 in
theorem u139_0 {X : List Int32} {d : Nat} {i1 : Int32} {i2 : Int32} {i3 : Int32} {i4 : Int32} {σ : mS} {Q : Option Value → mS → Prop} (H : mM X d 122 0 (mm_L0 122 [(.ref 86), .int i1, .int (2 : Int32), .int i2, .int (0 : Int32)]) [] σ (m0_K (fun σ1 => mM X d 123 0 (mm_L0 123 [.int i1]) [] σ1 (mi_K (fun x3 σ2 => (0 ≤ i1 ∧ Int32.toNatClampNeg i1 < 142) ∧ mM X d 140 0 (mm_L0 140 [(.ref 86), .int ((x3 + (mGet σ2 90 i1)) - (1 : Int32)), .int i3, .int i4]) [] σ2 (m0_K (fun σ5 => Q none σ5))))))) : mM X (d + 1) 139 0 (mm_L0 139 [(.ref 86), .int i1, .int i2, .int i3, .int i4]) [] σ Q := by
  intro hp R
  have F : mF hp hp := mF.rf
  show mm_R X (d + 1) 139 0 [some ((.ref 86)), some (.int i1), some (.int i2), some (.int i3), some (.int i4)] [] hp (mQ hp Q)
  refine mm_R.cV (pc' := 5) (L' := [some ((.ref 86)), some (.int i1), some (.int i2), some (.int i3), some (.int i4)]) (st1 := [.int (0 : Int32), .int i2, .int (2 : Int32), .int i1, (.ref 86)]) (as := [.int i1, .int (2 : Int32), .int i2, .int (0 : Int32)]) (rest := []) 5 rfl rfl (mw_sp rfl rfl (Nat.le_of_ble_eq_true rfl) (mw_ac rfl (mw_ac rfl (mw_ac rfl (mw_ac rfl (mw_ac rfl mw_an))))) mw_an) rfl rfl (m_rc R rfl) ((H _ R).mono (fun o hp1 H => ?_))
  obtain ⟨σ1, R, F1, rfl, H⟩ := H
  replace F := F.tr F1
  refine mm_R.cS (pc' := 10) (L' := [some ((.ref 86)), some (.int i1), some (.int i2), some (.int i3), some (.int i4)]) (st1 := [.int i1, (.ref 86)]) (as := [.int i1]) (rest := [(.ref 86)]) 2 rfl rfl (mw_sp rfl rfl (Nat.le_of_ble_eq_true rfl) (mw_ac rfl mw_an) (mw_ac rfl mw_an)) rfl rfl ((H _ R).mono (fun o hp1 H => ?_))
  obtain ⟨σ2, R, F1, x3, rfl, H⟩ := H
  replace F := F.tr F1
  refine mm_R.wgv (pc' := 14) (L' := [some ((.ref 86)), some (.int i1), some (.int i2), some (.int i3), some (.int i4)]) (r := [.int x3, (.ref 86)]) 1 rfl rfl (m_gv R rfl ?_)
  obtain ⟨hi4, H⟩ := H
  refine mm_R.wai (pc' := 18) (L' := [some ((.ref 86)), some (.int i1), some (.int i2), some (.int i3), some (.int i4)]) (r := [.int x3, (.ref 86)]) (t := 1000) 1 rfl rfl rfl rfl (m_ai (i := i1) R (n := 142) (by decide) hi4 ?_)
  refine mm_R.cV (pc' := 25) (L' := [some ((.ref 86)), some (.int i1), some (.int i2), some (.int i3), some (.int i4)]) (st1 := [.int i4, .int i3, .int ((x3 + (mGet σ2 90 i1)) - (1 : Int32)), (.ref 86)]) (as := [.int ((x3 + (mGet σ2 90 i1)) - (1 : Int32)), .int i3, .int i4]) (rest := []) 5 rfl rfl (mw_sp rfl rfl (Nat.le_of_ble_eq_true rfl) (mw_ac rfl (mw_ac rfl (mw_ac rfl (mw_ac rfl mw_an)))) mw_an) rfl rfl (m_rc R rfl) ((H _ R).mono (fun o hp1 H => ?_))
  obtain ⟨σ5, R, F1, rfl, H⟩ := H
  replace F := F.tr F1
  exact mm_R.rt (pc' := 28) (L' := [some ((.ref 86)), some (.int i1), some (.int i2), some (.int i3), some (.int i4)]) (st1 := []) 0 rfl rfl rfl rfl rfl rfl ⟨_, R, F, H⟩
-- StepRunnerModel.setText, from 0
set_option maxRecDepth 10000 in
theorem u140_0 {X : List Int32} {d : Nat} {i1 : Int32} {i2 : Int32} {i3 : Int32} {σ : mS} {Q : Option Value → mS → Prop} (H : (0 ≤ i1 ∧ Int32.toNatClampNeg i1 < 9856) ∧ (0 ≤ i1 ∧ Int32.toNatClampNeg i1 < 9856) ∧ ∀ σ3, σ3 = mPuL σ 89 i1 (((mGeL σ 89 i1) &&& (-536870657 : Int64)) ||| (Int32.toInt64 ((i3 <<< ((8 : Int32) &&& 31)) ||| (i2 <<< ((14 : Int32) &&& 31))))) → Q none σ3) : mM X (d + 1) 140 0 (mm_L0 140 [(.ref 86), .int i1, .int i2, .int i3]) [] σ Q := by
  intro hp R
  have F : mF hp hp := mF.rf
  show mm_R X (d + 1) 140 0 [some ((.ref 86)), some (.int i1), some (.int i2), some (.int i3)] [] hp (mQ hp Q)
  refine mm_R.wgv (pc' := 1) (L' := [some ((.ref 86)), some (.int i1), some (.int i2), some (.int i3)]) (r := []) 1 rfl rfl (m_gv R rfl ?_)
  refine mm_R.wgv (pc' := 6) (L' := [some ((.ref 86)), some (.int i1), some (.int i2), some (.int i3)]) (r := [.int i1, (.ref 89)]) 2 rfl rfl (m_gv R rfl ?_)
  obtain ⟨hi1, H⟩ := H
  refine mm_R.wal (pc' := 10) (L' := [some ((.ref 86)), some (.int i1), some (.int i2), some (.int i3)]) (r := [.int i1, (.ref 89)]) (t := 1004) 1 rfl rfl rfl rfl (m_al (i := i1) R (n := 9856) (by decide) hi1 ?_)
  obtain ⟨hi2, H⟩ := H
  refine mm_R.wsl (pc' := 26) (L' := [some ((.ref 86)), some (.int i1), some (.int i2), some (.int i3)]) (r := []) 11 rfl rfl (m_sl (i := i1) (v := (((mGeL σ 89 i1) &&& (-536870657 : Int64)) ||| (Int32.toInt64 ((i3 <<< ((8 : Int32) &&& 31)) ||| (i2 <<< ((14 : Int32) &&& 31)))))) R F (n := 9856) (by decide) hi2 (fun hp R F => ?_))
  obtain ⟨σ3, es⟩ : ∃ z, z = mPuL σ 89 i1 (((mGeL σ 89 i1) &&& (-536870657 : Int64)) ||| (Int32.toInt64 ((i3 <<< ((8 : Int32) &&& 31)) ||| (i2 <<< ((14 : Int32) &&& 31))))) := ⟨_, rfl⟩
  rw [← es] at R
  replace H := H σ3 es
  exact mm_R.rt (pc' := 27) (L' := [some ((.ref 86)), some (.int i1), some (.int i2), some (.int i3)]) (st1 := []) 0 rfl rfl rfl rfl rfl rfl ⟨_, R, F, H⟩
-- StepRunnerModel.isDigit, from 0
set_option maxRecDepth 10000 in
theorem u141_0 {X : List Int32} {d : Nat} {i0 : Int32} {σ : mS} {Q : Option Value → mS → Prop} (H : ((i0 < (48 : Int32) → Q (some (.int (0 : Int32))) σ) ∧ (¬ i0 < (48 : Int32) → (((57 : Int32) < i0 → Q (some (.int (0 : Int32))) σ) ∧ (¬ (57 : Int32) < i0 → Q (some (.int (1 : Int32))) σ))))) : mM X (d + 1) 141 0 (mm_L0 141 [.int i0]) [] σ Q := by
  intro hp R
  have F : mF hp hp := mF.rf
  show mm_R X (d + 1) 141 0 [some (.int i0)] [] hp (mQ hp Q)
  refine mm_R.br (L' := [some (.int i0)]) (st' := []) (t := 16) (u := 6) (b := mm_cc .lt i0 (48 : Int32)) 3 rfl (fun c => ?_) (fun c => ?_)
  · replace H := H.1 (of_decide_eq_true c)
    exact mm_R.rt (pc' := 17) (L' := [some (.int i0)]) (st1 := [.int (0 : Int32)]) 1 rfl rfl rfl rfl rfl rfl ⟨_, R, F, H⟩
  · replace H := H.2 (of_decide_eq_false c)
    refine mm_R.br (L' := [some (.int i0)]) (st' := []) (t := 16) (u := 12) (b := mm_cc .gt i0 (57 : Int32)) 3 rfl (fun c => ?_) (fun c => ?_)
    · replace H := H.1 (of_decide_eq_true c)
      exact mm_R.rt (pc' := 17) (L' := [some (.int i0)]) (st1 := [.int (0 : Int32)]) 1 rfl rfl rfl rfl rfl rfl ⟨_, R, F, H⟩
    · replace H := H.2 (of_decide_eq_false c)
      exact mm_R.rt (pc' := 17) (L' := [some (.int i0)]) (st1 := [.int (1 : Int32)]) 2 rfl rfl rfl rfl rfl rfl ⟨_, R, F, H⟩
-- StepRunnerModel.isValue, from 0
set_option maxRecDepth 10000 in
theorem u142_0 {X : List Int32} {d : Nat} {i1 : Int32} {σ : mS} {Q : Option Value → mS → Prop} (H : mM X d 143 0 (mm_L0 143 [(.ref 86), .int i1]) [] σ (mi_K (fun x2 σ1 => mM X d 123 0 (mm_L0 123 [.int i1]) [] σ1 (mi_K (fun x4 σ3 => mM X (d + 1) 142 11 [some ((.ref 86)), some (.int i1), some (.int x2), some (.int x4)] [] σ3 Q))))) : mM X (d + 1) 142 0 (mm_L0 142 [(.ref 86), .int i1]) [] σ Q := by
  intro hp R
  have F : mF hp hp := mF.rf
  show mm_R X (d + 1) 142 0 [some ((.ref 86)), some (.int i1), none, none] [] hp (mQ hp Q)
  refine mm_R.cV (pc' := 2) (L' := [some ((.ref 86)), some (.int i1), none, none]) (st1 := [.int i1, (.ref 86)]) (as := [.int i1]) (rest := []) 2 rfl rfl (mw_sp rfl rfl (Nat.le_of_ble_eq_true rfl) (mw_ac rfl (mw_ac rfl mw_an)) mw_an) rfl rfl (m_rc R rfl) ((H _ R).mono (fun o hp1 H => ?_))
  obtain ⟨σ1, R, F1, x2, rfl, H⟩ := H
  replace F := F.tr F1
  refine mm_R.cS (pc' := 7) (L' := [some ((.ref 86)), some (.int i1), some (.int x2), none]) (st1 := [.int i1]) (as := [.int i1]) (rest := []) 2 rfl rfl (mw_sp rfl rfl (Nat.le_of_ble_eq_true rfl) (mw_ac rfl mw_an) mw_an) rfl rfl ((H _ R).mono (fun o hp1 H => ?_))
  obtain ⟨σ3, R, F1, x4, rfl, H⟩ := H
  replace F := F.tr F1
  exact mm_R.pn (pc' := 11) (L' := [some ((.ref 86)), some (.int i1), some (.int x2), some (.int x4)]) (st' := []) 1 rfl (H.use R F)
-- StepRunnerModel.isValue, from 11
set_option maxRecDepth 10000 in
theorem u142_11 {X : List Int32} {d : Nat} {i1 : Int32} {i2 : Int32} {i3 : Int32} {σ : mS} {Q : Option Value → mS → Prop} (H : ((i2 ≤ i3 → Q (some (.int (1 : Int32))) σ) ∧ (¬ i2 ≤ i3 → mM X d 144 0 (mm_L0 144 [(.ref 86), .int i3]) [] σ (mi_K (fun x2 σ1 => ((¬ x2 = (3 : Int32) → mM X (d + 1) 142 11 [some ((.ref 86)), some (.int i1), some (.int i2), some (.int (i3 + (1 : Int32)))] [] σ1 Q) ∧ (x2 = (3 : Int32) → mM X d 145 0 (mm_L0 145 [(.ref 86), .int i3]) [] σ1 (mi_K (fun x4 σ3 => (((3 : Int32) ≤ x4 → Q (some (.int (0 : Int32))) σ3) ∧ (¬ (3 : Int32) ≤ x4 → mM X d 146 0 (mm_L0 146 [(.ref 86), .int i3, .int i2]) [] σ3 (mi_K (fun x6 σ5 => ((x6 ≤ (8 : Int32) → mM X (d + 1) 142 11 [some ((.ref 86)), some (.int i1), some (.int i2), some (.int (i3 + (1 : Int32)))] [] σ5 Q) ∧ (¬ x6 ≤ (8 : Int32) → Q (some (.int (0 : Int32))) σ5))))))))))))))) : mM X (d + 1) 142 11 [some ((.ref 86)), some (.int i1), some (.int i2), some (.int i3)] [] σ Q := by
  intro hp R
  have F : mF hp hp := mF.rf
  refine mm_R.br (L' := [some ((.ref 86)), some (.int i1), some (.int i2), some (.int i3)]) (st' := []) (t := 53) (u := 16) (b := mm_cc .ge i3 i2) 3 rfl (fun c => ?_) (fun c => ?_)
  · replace H := H.1 (of_decide_eq_true c)
    exact mm_R.rt (pc' := 54) (L' := [some ((.ref 86)), some (.int i1), some (.int i2), some (.int i3)]) (st1 := [.int (1 : Int32)]) 1 rfl rfl rfl rfl rfl rfl ⟨_, R, F, H⟩
  · replace H := H.2 (of_decide_eq_false c)
    refine mm_R.cV (pc' := 18) (L' := [some ((.ref 86)), some (.int i1), some (.int i2), some (.int i3)]) (st1 := [.int i3, (.ref 86)]) (as := [.int i3]) (rest := []) 2 rfl rfl (mw_sp rfl rfl (Nat.le_of_ble_eq_true rfl) (mw_ac rfl (mw_ac rfl mw_an)) mw_an) rfl rfl (m_rc R rfl) ((H _ R).mono (fun o hp1 H => ?_))
    obtain ⟨σ1, R, F1, x2, rfl, H⟩ := H
    replace F := F.tr F1
    refine mm_R.br (L' := [some ((.ref 86)), some (.int i1), some (.int i2), some (.int i3)]) (st' := []) (t := 47) (u := 25) (b := mm_cc .ne x2 (3 : Int32)) 2 rfl (fun c => ?_) (fun c => ?_)
    · replace H := H.1 (of_decide_eq_true c)
      exact mm_R.pn (pc' := 11) (L' := [some ((.ref 86)), some (.int i1), some (.int i2), some (.int (i3 + (1 : Int32)))]) (st' := []) 2 rfl (H.use R F)
    · replace H := H.2 (Decidable.of_not_not (of_decide_eq_false c))
      refine mm_R.cV (pc' := 27) (L' := [some ((.ref 86)), some (.int i1), some (.int i2), some (.int i3)]) (st1 := [.int i3, (.ref 86)]) (as := [.int i3]) (rest := []) 2 rfl rfl (mw_sp rfl rfl (Nat.le_of_ble_eq_true rfl) (mw_ac rfl (mw_ac rfl mw_an)) mw_an) rfl rfl (m_rc R rfl) ((H _ R).mono (fun o hp1 H => ?_))
      obtain ⟨σ3, R, F1, x4, rfl, H⟩ := H
      replace F := F.tr F1
      refine mm_R.br (L' := [some ((.ref 86)), some (.int i1), some (.int i2), some (.int i3)]) (st' := []) (t := 45) (u := 34) (b := mm_cc .ge x4 (3 : Int32)) 2 rfl (fun c => ?_) (fun c => ?_)
      · replace H := H.1 (of_decide_eq_true c)
        exact mm_R.rt (pc' := 46) (L' := [some ((.ref 86)), some (.int i1), some (.int i2), some (.int i3)]) (st1 := [.int (0 : Int32)]) 1 rfl rfl rfl rfl rfl rfl ⟨_, R, F, H⟩
      · replace H := H.2 (of_decide_eq_false c)
        refine mm_R.cV (pc' := 37) (L' := [some ((.ref 86)), some (.int i1), some (.int i2), some (.int i3)]) (st1 := [.int i2, .int i3, (.ref 86)]) (as := [.int i3, .int i2]) (rest := []) 3 rfl rfl (mw_sp rfl rfl (Nat.le_of_ble_eq_true rfl) (mw_ac rfl (mw_ac rfl (mw_ac rfl mw_an))) mw_an) rfl rfl (m_rc R rfl) ((H _ R).mono (fun o hp1 H => ?_))
        obtain ⟨σ5, R, F1, x6, rfl, H⟩ := H
        replace F := F.tr F1
        refine mm_R.br (L' := [some ((.ref 86)), some (.int i1), some (.int i2), some (.int i3)]) (st' := []) (t := 47) (u := 45) (b := mm_cc .le x6 (8 : Int32)) 2 rfl (fun c => ?_) (fun c => ?_)
        · replace H := H.1 (of_decide_eq_true c)
          exact mm_R.pn (pc' := 11) (L' := [some ((.ref 86)), some (.int i1), some (.int i2), some (.int (i3 + (1 : Int32)))]) (st' := []) 2 rfl (H.use R F)
        · replace H := H.2 (of_decide_eq_false c)
          exact mm_R.rt (pc' := 46) (L' := [some ((.ref 86)), some (.int i1), some (.int i2), some (.int i3)]) (st1 := [.int (0 : Int32)]) 1 rfl rfl rfl rfl rfl rfl ⟨_, R, F, H⟩
