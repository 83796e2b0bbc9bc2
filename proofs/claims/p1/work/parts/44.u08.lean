-- StepRunnerModel.worded, from 0
set_option maxRecDepth 10000 in
theorem u190_0 {X : List Int32} {d : Nat} {i1 : Int32} {i2 : Int32} {i3 : Int32} {i4 : Int32} {σ : mS} {Q : Option Value → mS → Prop} (H : mM X d 123 0 (mm_L0 123 [.int i2]) [] σ (mi_K (fun x2 σ1 => mM X d 143 0 (mm_L0 143 [(.ref 86), .int i2]) [] σ1 (mi_K (fun x4 σ3 => mM X d 144 0 (mm_L0 144 [(.ref 86), .int x2]) [] σ3 (mi_K (fun x6 σ5 => ((¬ x6 = (3 : Int32) → mM X (d + 1) 190 28 [some ((.ref 86)), some (.int i1), some (.int i2), some (.int i3), some (.int i4), some (.int x2), some (.int x4), none, none] [.int (0 : Int32)] σ5 Q) ∧ (x6 = (3 : Int32) → mM X (d + 1) 190 28 [some ((.ref 86)), some (.int i1), some (.int i2), some (.int i3), some (.int i4), some (.int x2), some (.int x4), none, none] [.int (1 : Int32)] σ5 Q))))))))) : mM X (d + 1) 190 0 (mm_L0 190 [(.ref 86), .int i1, .int i2, .int i3, .int i4]) [] σ Q := by
  intro hp R
  have F : mF hp hp := mF.rf
  show mm_R X (d + 1) 190 0 [some ((.ref 86)), some (.int i1), some (.int i2), some (.int i3), some (.int i4), none, none, none, none] [] hp (mQ hp Q)
  refine mm_R.cS (pc' := 1) (L' := [some ((.ref 86)), some (.int i1), some (.int i2), some (.int i3), some (.int i4), none, none, none, none]) (st1 := [.int i2]) (as := [.int i2]) (rest := []) 1 rfl rfl (mw_sp rfl rfl (Nat.le_of_ble_eq_true rfl) (mw_ac rfl mw_an) mw_an) rfl rfl ((H _ R).mono (fun o hp1 H => ?_))
  obtain ⟨σ1, R, F1, x2, rfl, H⟩ := H
  replace F := F.tr F1
  refine mm_R.cV (pc' := 8) (L' := [some ((.ref 86)), some (.int i1), some (.int i2), some (.int i3), some (.int i4), some (.int x2), none, none, none]) (st1 := [.int i2, (.ref 86)]) (as := [.int i2]) (rest := []) 3 rfl rfl (mw_sp rfl rfl (Nat.le_of_ble_eq_true rfl) (mw_ac rfl (mw_ac rfl mw_an)) mw_an) rfl rfl (m_rc R rfl) ((H _ R).mono (fun o hp1 H => ?_))
  obtain ⟨σ3, R, F1, x4, rfl, H⟩ := H
  replace F := F.tr F1
  refine mm_R.cV (pc' := 16) (L' := [some ((.ref 86)), some (.int i1), some (.int i2), some (.int i3), some (.int i4), some (.int x2), some (.int x4), none, none]) (st1 := [.int x2, (.ref 86)]) (as := [.int x2]) (rest := []) 3 rfl rfl (mw_sp rfl rfl (Nat.le_of_ble_eq_true rfl) (mw_ac rfl (mw_ac rfl mw_an)) mw_an) rfl rfl (m_rc R rfl) ((H _ R).mono (fun o hp1 H => ?_))
  obtain ⟨σ5, R, F1, x6, rfl, H⟩ := H
  replace F := F.tr F1
  refine mm_R.br (L' := [some ((.ref 86)), some (.int i1), some (.int i2), some (.int i3), some (.int i4), some (.int x2), some (.int x4), none, none]) (st' := []) (t := 27) (u := 23) (b := mm_cc .ne x6 (3 : Int32)) 2 rfl (fun c => ?_) (fun c => ?_)
  · replace H := H.1 (of_decide_eq_true c)
    exact mm_R.pn (pc' := 28) (L' := [some ((.ref 86)), some (.int i1), some (.int i2), some (.int i3), some (.int i4), some (.int x2), some (.int x4), none, none]) (st' := [.int (0 : Int32)]) 1 rfl (H.use R F)
  · replace H := H.2 (Decidable.of_not_not (of_decide_eq_false c))
    exact mm_R.pn (pc' := 28) (L' := [some ((.ref 86)), some (.int i1), some (.int i2), some (.int i3), some (.int i4), some (.int x2), some (.int x4), none, none]) (st' := [.int (1 : Int32)]) 2 rfl (H.use R F)
-- StepRunnerModel.worded, from 28
set_option maxRecDepth 10000 in
theorem u190_28 {X : List Int32} {d : Nat} {i1 : Int32} {i2 : Int32} {i3 : Int32} {i4 : Int32} {i5 : Int32} {i6 : Int32} {o7 : Option Value} {o8 : Option Value} {s0 : Int32} {σ : mS} {Q : Option Value → mS → Prop} (H : mM X d 144 0 (mm_L0 144 [(.ref 86), .int i5]) [] σ (mi_K (fun x2 σ1 => ((x2 = (0 : Int32) → Q (some (.int (1 : Int32))) σ1) ∧ (¬ x2 = (0 : Int32) → ((s0 = (0 : Int32) → mM X (d + 1) 190 57 [some ((.ref 86)), some (.int i1), some (.int i2), some (.int i3), some (.int i4), some (.int i5), some (.int i6), some (.int s0), o8] [] σ1 Q) ∧ (¬ s0 = (0 : Int32) → mM X d 146 0 (mm_L0 146 [(.ref 86), .int i5, .int i6]) [] σ1 (mi_K (fun x4 σ3 => ((¬ x4 = (0 : Int32) → mM X (d + 1) 190 57 [some ((.ref 86)), some (.int i1), some (.int i2), some (.int i3), some (.int i4), some (.int i5), some (.int i6), some (.int s0), o8] [] σ3 Q) ∧ (x4 = (0 : Int32) → Q (some (.int (1 : Int32))) σ3))))))))))) : mM X (d + 1) 190 28 [some ((.ref 86)), some (.int i1), some (.int i2), some (.int i3), some (.int i4), some (.int i5), some (.int i6), o7, o8] [.int s0] σ Q := by
  intro hp R
  have F : mF hp hp := mF.rf
  refine mm_R.cV (pc' := 33) (L' := [some ((.ref 86)), some (.int i1), some (.int i2), some (.int i3), some (.int i4), some (.int i5), some (.int i6), some (.int s0), o8]) (st1 := [.int i5, (.ref 86)]) (as := [.int i5]) (rest := []) 3 rfl rfl (mw_sp rfl rfl (Nat.le_of_ble_eq_true rfl) (mw_ac rfl (mw_ac rfl mw_an)) mw_an) rfl rfl (m_rc R rfl) ((H _ R).mono (fun o hp1 H => ?_))
  obtain ⟨σ1, R, F1, x2, rfl, H⟩ := H
  replace F := F.tr F1
  refine mm_R.br (L' := [some ((.ref 86)), some (.int i1), some (.int i2), some (.int i3), some (.int i4), some (.int i5), some (.int i6), some (.int s0), o8]) (st' := []) (t := 55) (u := 39) (b := mm_cc .eq x2 (0 : Int32)) 1 rfl (fun c => ?_) (fun c => ?_)
  · replace H := H.1 (of_decide_eq_true c)
    exact mm_R.rt (pc' := 56) (L' := [some ((.ref 86)), some (.int i1), some (.int i2), some (.int i3), some (.int i4), some (.int i5), some (.int i6), some (.int s0), o8]) (st1 := [.int (1 : Int32)]) 1 rfl rfl rfl rfl rfl rfl ⟨_, R, F, H⟩
  · replace H := H.2 (of_decide_eq_false c)
    refine mm_R.br (L' := [some ((.ref 86)), some (.int i1), some (.int i2), some (.int i3), some (.int i4), some (.int i5), some (.int i6), some (.int s0), o8]) (st' := []) (t := 57) (u := 44) (b := mm_cc .eq s0 (0 : Int32)) 2 rfl (fun c => ?_) (fun c => ?_)
    · replace H := H.1 (of_decide_eq_true c)
      exact H.use R F
    · replace H := H.2 (of_decide_eq_false c)
      refine mm_R.cV (pc' := 49) (L' := [some ((.ref 86)), some (.int i1), some (.int i2), some (.int i3), some (.int i4), some (.int i5), some (.int i6), some (.int s0), o8]) (st1 := [.int i6, .int i5, (.ref 86)]) (as := [.int i5, .int i6]) (rest := []) 3 rfl rfl (mw_sp rfl rfl (Nat.le_of_ble_eq_true rfl) (mw_ac rfl (mw_ac rfl (mw_ac rfl mw_an))) mw_an) rfl rfl (m_rc R rfl) ((H _ R).mono (fun o hp1 H => ?_))
      obtain ⟨σ3, R, F1, x4, rfl, H⟩ := H
      replace F := F.tr F1
      refine mm_R.br (L' := [some ((.ref 86)), some (.int i1), some (.int i2), some (.int i3), some (.int i4), some (.int i5), some (.int i6), some (.int s0), o8]) (st' := []) (t := 57) (u := 55) (b := mm_cc .ne x4 (0 : Int32)) 1 rfl (fun c => ?_) (fun c => ?_)
      · replace H := H.1 (of_decide_eq_true c)
        exact H.use R F
      · replace H := H.2 (Decidable.of_not_not (of_decide_eq_false c))
        exact mm_R.rt (pc' := 56) (L' := [some ((.ref 86)), some (.int i1), some (.int i2), some (.int i3), some (.int i4), some (.int i5), some (.int i6), some (.int s0), o8]) (st1 := [.int (1 : Int32)]) 1 rfl rfl rfl rfl rfl rfl ⟨_, R, F, H⟩
-- StepRunnerModel.worded, from 57
set_option maxRecDepth 10000 in
theorem u190_57 {X : List Int32} {d : Nat} {i1 : Int32} {i2 : Int32} {i3 : Int32} {i4 : Int32} {i5 : Int32} {i6 : Int32} {i7 : Int32} {o8 : Option Value} {σ : mS} {Q : Option Value → mS → Prop} (H : ((i3 = (0 : Int32) → ((i7 = (0 : Int32) → mM X (d + 1) 190 156 [some ((.ref 86)), some (.int i1), some (.int i2), some (.int i3), some (.int i4), some (.int i5), some (.int i6), some (.int i7), o8] [] σ Q) ∧ (¬ i7 = (0 : Int32) → ((¬ i4 = (2 : Int32) → mM X (d + 1) 190 156 [some ((.ref 86)), some (.int i1), some (.int i2), some (.int i3), some (.int i4), some (.int i5), some (.int i6), some (.int i7), o8] [] σ Q) ∧ (i4 = (2 : Int32) → mM X (d + 1) 190 111 [some ((.ref 86)), some (.int i1), some (.int i2), some (.int i3), some (.int i4), some (.int i5), some (.int i6), some (.int i7), some (.int (i5 + (1 : Int32)))] [] σ Q))))) ∧ (¬ i3 = (0 : Int32) → ((i4 = (1 : Int32) → ((i7 = (0 : Int32) → mM X (d + 1) 190 156 [some ((.ref 86)), some (.int i1), some (.int i2), some (.int i3), some (.int i4), some (.int i5), some (.int i6), some (.int i7), o8] [] σ Q) ∧ (¬ i7 = (0 : Int32) → ((¬ i4 = (2 : Int32) → mM X (d + 1) 190 156 [some ((.ref 86)), some (.int i1), some (.int i2), some (.int i3), some (.int i4), some (.int i5), some (.int i6), some (.int i7), o8] [] σ Q) ∧ (i4 = (2 : Int32) → mM X (d + 1) 190 111 [some ((.ref 86)), some (.int i1), some (.int i2), some (.int i3), some (.int i4), some (.int i5), some (.int i6), some (.int i7), some (.int (i5 + (1 : Int32)))] [] σ Q))))) ∧ (¬ i4 = (1 : Int32) → mM X d 191 0 (mm_L0 191 [(.ref 86), .int i1]) [] σ (mi_K (fun x2 σ1 => ((¬ x2 = (0 : Int32) → mM X d 184 0 (mm_L0 184 [(.ref 86), .int (45 : Int32)]) [] σ1 (m0_K (fun σ3 => mM X d 184 0 (mm_L0 184 [(.ref 86), .int ((Int32.toUInt32 i3 % 65536).toInt32)]) [] σ3 (m0_K (fun σ4 => mM X d 192 0 (mm_L0 192 [(.ref 86), .int i1]) [] σ4 (m0_K (fun σ5 => ((i7 = (0 : Int32) → mM X (d + 1) 190 156 [some ((.ref 86)), some (.int i1), some (.int i2), some (.int i3), some (.int i4), some (.int i5), some (.int i6), some (.int i7), o8] [] σ5 Q) ∧ (¬ i7 = (0 : Int32) → ((¬ i4 = (2 : Int32) → mM X (d + 1) 190 156 [some ((.ref 86)), some (.int i1), some (.int i2), some (.int i3), some (.int i4), some (.int i5), some (.int i6), some (.int i7), o8] [] σ5 Q) ∧ (i4 = (2 : Int32) → mM X (d + 1) 190 111 [some ((.ref 86)), some (.int i1), some (.int i2), some (.int i3), some (.int i4), some (.int i5), some (.int i6), some (.int i7), some (.int (i5 + (1 : Int32)))] [] σ5 Q))))))))))) ∧ (x2 = (0 : Int32) → Q (some (.int (0 : Int32))) σ1))))))))) : mM X (d + 1) 190 57 [some ((.ref 86)), some (.int i1), some (.int i2), some (.int i3), some (.int i4), some (.int i5), some (.int i6), some (.int i7), o8] [] σ Q := by
  intro hp R
  have F : mF hp hp := mF.rf
  refine mm_R.br (L' := [some ((.ref 86)), some (.int i1), some (.int i2), some (.int i3), some (.int i4), some (.int i5), some (.int i6), some (.int i7), o8]) (st' := []) (t := 94) (u := 61) (b := mm_cc .eq i3 (0 : Int32)) 2 rfl (fun c => ?_) (fun c => ?_)
  · replace H := H.1 (of_decide_eq_true c)
    refine mm_R.br (L' := [some ((.ref 86)), some (.int i1), some (.int i2), some (.int i3), some (.int i4), some (.int i5), some (.int i6), some (.int i7), o8]) (st' := []) (t := 156) (u := 99) (b := mm_cc .eq i7 (0 : Int32)) 2 rfl (fun c => ?_) (fun c => ?_)
    · replace H := H.1 (of_decide_eq_true c)
      exact H.use R F
    · replace H := H.2 (of_decide_eq_false c)
      refine mm_R.br (L' := [some ((.ref 86)), some (.int i1), some (.int i2), some (.int i3), some (.int i4), some (.int i5), some (.int i6), some (.int i7), o8]) (st' := []) (t := 156) (u := 105) (b := mm_cc .ne i4 (2 : Int32)) 3 rfl (fun c => ?_) (fun c => ?_)
      · replace H := H.1 (of_decide_eq_true c)
        exact H.use R F
      · replace H := H.2 (Decidable.of_not_not (of_decide_eq_false c))
        exact mm_R.pn (pc' := 111) (L' := [some ((.ref 86)), some (.int i1), some (.int i2), some (.int i3), some (.int i4), some (.int i5), some (.int i6), some (.int i7), some (.int (i5 + (1 : Int32)))]) (st' := []) 4 rfl (H.use R F)
  · replace H := H.2 (of_decide_eq_false c)
    refine mm_R.br (L' := [some ((.ref 86)), some (.int i1), some (.int i2), some (.int i3), some (.int i4), some (.int i5), some (.int i6), some (.int i7), o8]) (st' := []) (t := 94) (u := 67) (b := mm_cc .eq i4 (1 : Int32)) 3 rfl (fun c => ?_) (fun c => ?_)
    · replace H := H.1 (of_decide_eq_true c)
      refine mm_R.br (L' := [some ((.ref 86)), some (.int i1), some (.int i2), some (.int i3), some (.int i4), some (.int i5), some (.int i6), some (.int i7), o8]) (st' := []) (t := 156) (u := 99) (b := mm_cc .eq i7 (0 : Int32)) 2 rfl (fun c => ?_) (fun c => ?_)
      · replace H := H.1 (of_decide_eq_true c)
        exact H.use R F
      · replace H := H.2 (of_decide_eq_false c)
        refine mm_R.br (L' := [some ((.ref 86)), some (.int i1), some (.int i2), some (.int i3), some (.int i4), some (.int i5), some (.int i6), some (.int i7), o8]) (st' := []) (t := 156) (u := 105) (b := mm_cc .ne i4 (2 : Int32)) 3 rfl (fun c => ?_) (fun c => ?_)
        · replace H := H.1 (of_decide_eq_true c)
          exact H.use R F
        · replace H := H.2 (Decidable.of_not_not (of_decide_eq_false c))
          exact mm_R.pn (pc' := 111) (L' := [some ((.ref 86)), some (.int i1), some (.int i2), some (.int i3), some (.int i4), some (.int i5), some (.int i6), some (.int i7), some (.int (i5 + (1 : Int32)))]) (st' := []) 4 rfl (H.use R F)
    · replace H := H.2 (of_decide_eq_false c)
      refine mm_R.cV (pc' := 69) (L' := [some ((.ref 86)), some (.int i1), some (.int i2), some (.int i3), some (.int i4), some (.int i5), some (.int i6), some (.int i7), o8]) (st1 := [.int i1, (.ref 86)]) (as := [.int i1]) (rest := []) 2 rfl rfl (mw_sp rfl rfl (Nat.le_of_ble_eq_true rfl) (mw_ac rfl (mw_ac rfl mw_an)) mw_an) rfl rfl (m_rc R rfl) ((H _ R).mono (fun o hp1 H => ?_))
      obtain ⟨σ1, R, F1, x2, rfl, H⟩ := H
      replace F := F.tr F1
      refine mm_R.br (L' := [some ((.ref 86)), some (.int i1), some (.int i2), some (.int i3), some (.int i4), some (.int i5), some (.int i6), some (.int i7), o8]) (st' := []) (t := 77) (u := 75) (b := mm_cc .ne x2 (0 : Int32)) 1 rfl (fun c => ?_) (fun c => ?_)
      · replace H := H.1 (of_decide_eq_true c)
        refine mm_R.cV (pc' := 80) (L' := [some ((.ref 86)), some (.int i1), some (.int i2), some (.int i3), some (.int i4), some (.int i5), some (.int i6), some (.int i7), o8]) (st1 := [.int (45 : Int32), (.ref 86)]) (as := [.int (45 : Int32)]) (rest := []) 2 rfl rfl (mw_sp rfl rfl (Nat.le_of_ble_eq_true rfl) (mw_ac rfl (mw_ac rfl mw_an)) mw_an) rfl rfl (m_rc R rfl) ((H _ R).mono (fun o hp1 H => ?_))
        obtain ⟨σ3, R, F1, rfl, H⟩ := H
        replace F := F.tr F1
        refine mm_R.cV (pc' := 86) (L' := [some ((.ref 86)), some (.int i1), some (.int i2), some (.int i3), some (.int i4), some (.int i5), some (.int i6), some (.int i7), o8]) (st1 := [.int ((Int32.toUInt32 i3 % 65536).toInt32), (.ref 86)]) (as := [.int ((Int32.toUInt32 i3 % 65536).toInt32)]) (rest := []) 3 rfl rfl (mw_sp rfl rfl (Nat.le_of_ble_eq_true rfl) (mw_ac rfl (mw_ac rfl mw_an)) mw_an) rfl rfl (m_rc R rfl) ((H _ R).mono (fun o hp1 H => ?_))
        obtain ⟨σ4, R, F1, rfl, H⟩ := H
        replace F := F.tr F1
        refine mm_R.cV (pc' := 91) (L' := [some ((.ref 86)), some (.int i1), some (.int i2), some (.int i3), some (.int i4), some (.int i5), some (.int i6), some (.int i7), o8]) (st1 := [.int i1, (.ref 86)]) (as := [.int i1]) (rest := []) 2 rfl rfl (mw_sp rfl rfl (Nat.le_of_ble_eq_true rfl) (mw_ac rfl (mw_ac rfl mw_an)) mw_an) rfl rfl (m_rc R rfl) ((H _ R).mono (fun o hp1 H => ?_))
        obtain ⟨σ5, R, F1, rfl, H⟩ := H
        replace F := F.tr F1
        refine mm_R.br (L' := [some ((.ref 86)), some (.int i1), some (.int i2), some (.int i3), some (.int i4), some (.int i5), some (.int i6), some (.int i7), o8]) (st' := []) (t := 156) (u := 99) (b := mm_cc .eq i7 (0 : Int32)) 2 rfl (fun c => ?_) (fun c => ?_)
        · replace H := H.1 (of_decide_eq_true c)
          exact H.use R F
        · replace H := H.2 (of_decide_eq_false c)
          refine mm_R.br (L' := [some ((.ref 86)), some (.int i1), some (.int i2), some (.int i3), some (.int i4), some (.int i5), some (.int i6), some (.int i7), o8]) (st' := []) (t := 156) (u := 105) (b := mm_cc .ne i4 (2 : Int32)) 3 rfl (fun c => ?_) (fun c => ?_)
          · replace H := H.1 (of_decide_eq_true c)
            exact H.use R F
          · replace H := H.2 (Decidable.of_not_not (of_decide_eq_false c))
            exact mm_R.pn (pc' := 111) (L' := [some ((.ref 86)), some (.int i1), some (.int i2), some (.int i3), some (.int i4), some (.int i5), some (.int i6), some (.int i7), some (.int (i5 + (1 : Int32)))]) (st' := []) 4 rfl (H.use R F)
      · replace H := H.2 (Decidable.of_not_not (of_decide_eq_false c))
        exact mm_R.rt (pc' := 76) (L' := [some ((.ref 86)), some (.int i1), some (.int i2), some (.int i3), some (.int i4), some (.int i5), some (.int i6), some (.int i7), o8]) (st1 := [.int (0 : Int32)]) 1 rfl rfl rfl rfl rfl rfl ⟨_, R, F, H⟩
-- StepRunnerModel.worded, from 111
set_option maxRecDepth 10000 in
theorem u190_111 {X : List Int32} {d : Nat} {i1 : Int32} {i2 : Int32} {i3 : Int32} {i4 : Int32} {i5 : Int32} {i6 : Int32} {i7 : Int32} {i8 : Int32} {σ : mS} {Q : Option Value → mS → Prop} (H : ((i6 ≤ i8 → Q (some (.int (1 : Int32))) σ) ∧ (¬ i6 ≤ i8 → mM X d 191 0 (mm_L0 191 [(.ref 86), .int i1]) [] σ (mi_K (fun x2 σ1 => ((¬ x2 = (0 : Int32) → mM X d 182 0 (mm_L0 182 [(.ref 86), .int i8, .int i6]) [] σ1 (m0_K (fun σ3 => mM X d 192 0 (mm_L0 192 [(.ref 86), .int i1]) [] σ3 (m0_K (fun σ4 => mM X d 147 0 (mm_L0 147 [(.ref 86), .int i8, .int i6]) [] σ4 (mi_K (fun x6 σ5 => mM X (d + 1) 190 111 [some ((.ref 86)), some (.int i1), some (.int i2), some (.int i3), some (.int i4), some (.int i5), some (.int i6), some (.int i7), some (.int x6)] [] σ5 Q))))))) ∧ (x2 = (0 : Int32) → Q (some (.int (0 : Int32))) σ1))))))) : mM X (d + 1) 190 111 [some ((.ref 86)), some (.int i1), some (.int i2), some (.int i3), some (.int i4), some (.int i5), some (.int i6), some (.int i7), some (.int i8)] [] σ Q := by
  intro hp R
  have F : mF hp hp := mF.rf
  refine mm_R.br (L' := [some ((.ref 86)), some (.int i1), some (.int i2), some (.int i3), some (.int i4), some (.int i5), some (.int i6), some (.int i7), some (.int i8)]) (st' := []) (t := 154) (u := 118) (b := mm_cc .ge i8 i6) 3 rfl (fun c => ?_) (fun c => ?_)
  · replace H := H.1 (of_decide_eq_true c)
    exact mm_R.rt (pc' := 155) (L' := [some ((.ref 86)), some (.int i1), some (.int i2), some (.int i3), some (.int i4), some (.int i5), some (.int i6), some (.int i7), some (.int i8)]) (st1 := [.int (1 : Int32)]) 1 rfl rfl rfl rfl rfl rfl ⟨_, R, F, H⟩
  · replace H := H.2 (of_decide_eq_false c)
    refine mm_R.cV (pc' := 120) (L' := [some ((.ref 86)), some (.int i1), some (.int i2), some (.int i3), some (.int i4), some (.int i5), some (.int i6), some (.int i7), some (.int i8)]) (st1 := [.int i1, (.ref 86)]) (as := [.int i1]) (rest := []) 2 rfl rfl (mw_sp rfl rfl (Nat.le_of_ble_eq_true rfl) (mw_ac rfl (mw_ac rfl mw_an)) mw_an) rfl rfl (m_rc R rfl) ((H _ R).mono (fun o hp1 H => ?_))
    obtain ⟨σ1, R, F1, x2, rfl, H⟩ := H
    replace F := F.tr F1
    refine mm_R.br (L' := [some ((.ref 86)), some (.int i1), some (.int i2), some (.int i3), some (.int i4), some (.int i5), some (.int i6), some (.int i7), some (.int i8)]) (st' := []) (t := 128) (u := 126) (b := mm_cc .ne x2 (0 : Int32)) 1 rfl (fun c => ?_) (fun c => ?_)
    · replace H := H.1 (of_decide_eq_true c)
      refine mm_R.cV (pc' := 133) (L' := [some ((.ref 86)), some (.int i1), some (.int i2), some (.int i3), some (.int i4), some (.int i5), some (.int i6), some (.int i7), some (.int i8)]) (st1 := [.int i6, .int i8, (.ref 86)]) (as := [.int i8, .int i6]) (rest := []) 3 rfl rfl (mw_sp rfl rfl (Nat.le_of_ble_eq_true rfl) (mw_ac rfl (mw_ac rfl (mw_ac rfl mw_an))) mw_an) rfl rfl (m_rc R rfl) ((H _ R).mono (fun o hp1 H => ?_))
      obtain ⟨σ3, R, F1, rfl, H⟩ := H
      replace F := F.tr F1
      refine mm_R.cV (pc' := 138) (L' := [some ((.ref 86)), some (.int i1), some (.int i2), some (.int i3), some (.int i4), some (.int i5), some (.int i6), some (.int i7), some (.int i8)]) (st1 := [.int i1, (.ref 86)]) (as := [.int i1]) (rest := []) 2 rfl rfl (mw_sp rfl rfl (Nat.le_of_ble_eq_true rfl) (mw_ac rfl (mw_ac rfl mw_an)) mw_an) rfl rfl (m_rc R rfl) ((H _ R).mono (fun o hp1 H => ?_))
      obtain ⟨σ4, R, F1, rfl, H⟩ := H
      replace F := F.tr F1
      refine mm_R.cV (pc' := 146) (L' := [some ((.ref 86)), some (.int i1), some (.int i2), some (.int i3), some (.int i4), some (.int i5), some (.int i6), some (.int i7), some (.int i8)]) (st1 := [.int i6, .int i8, (.ref 86)]) (as := [.int i8, .int i6]) (rest := []) 3 rfl rfl (mw_sp rfl rfl (Nat.le_of_ble_eq_true rfl) (mw_ac rfl (mw_ac rfl (mw_ac rfl mw_an))) mw_an) rfl rfl (m_rc R rfl) ((H _ R).mono (fun o hp1 H => ?_))
      obtain ⟨σ5, R, F1, x6, rfl, H⟩ := H
      replace F := F.tr F1
      exact mm_R.pn (pc' := 111) (L' := [some ((.ref 86)), some (.int i1), some (.int i2), some (.int i3), some (.int i4), some (.int i5), some (.int i6), some (.int i7), some (.int x6)]) (st' := []) 2 rfl (H.use R F)
    · replace H := H.2 (Decidable.of_not_not (of_decide_eq_false c))
      exact mm_R.rt (pc' := 127) (L' := [some ((.ref 86)), some (.int i1), some (.int i2), some (.int i3), some (.int i4), some (.int i5), some (.int i6), some (.int i7), some (.int i8)]) (st1 := [.int (0 : Int32)]) 1 rfl rfl rfl rfl rfl rfl ⟨_, R, F, H⟩
-- StepRunnerModel.worded, from 156
set_option maxRecDepth 10000 in
theorem u190_156 {X : List Int32} {d : Nat} {i1 : Int32} {i2 : Int32} {i3 : Int32} {i4 : Int32} {i5 : Int32} {i6 : Int32} {i7 : Int32} {o8 : Option Value} {σ : mS} {Q : Option Value → mS → Prop} (H : mM X d 191 0 (mm_L0 191 [(.ref 86), .int i1]) [] σ (mi_K (fun x2 σ1 => ((¬ x2 = (0 : Int32) → ((i3 = (0 : Int32) → mM X (d + 1) 190 194 [some ((.ref 86)), some (.int i1), some (.int i2), some (.int i3), some (.int i4), some (.int i5), some (.int i6), some (.int i7), some (.int (i5 + (1 : Int32)))] [] σ1 Q) ∧ (¬ i3 = (0 : Int32) → ((¬ i4 = (1 : Int32) → mM X (d + 1) 190 194 [some ((.ref 86)), some (.int i1), some (.int i2), some (.int i3), some (.int i4), some (.int i5), some (.int i6), some (.int i7), some (.int (i5 + (1 : Int32)))] [] σ1 Q) ∧ (i4 = (1 : Int32) → mM X d 184 0 (mm_L0 184 [(.ref 86), .int (45 : Int32)]) [] σ1 (m0_K (fun σ3 => mM X d 184 0 (mm_L0 184 [(.ref 86), .int ((Int32.toUInt32 i3 % 65536).toInt32)]) [] σ3 (m0_K (fun σ4 => mM X (d + 1) 190 194 [some ((.ref 86)), some (.int i1), some (.int i2), some (.int i3), some (.int i4), some (.int i5), some (.int i6), some (.int i7), some (.int (i5 + (1 : Int32)))] [] σ4 Q))))))))) ∧ (x2 = (0 : Int32) → Q (some (.int (0 : Int32))) σ1))))) : mM X (d + 1) 190 156 [some ((.ref 86)), some (.int i1), some (.int i2), some (.int i3), some (.int i4), some (.int i5), some (.int i6), some (.int i7), o8] [] σ Q := by
  intro hp R
  have F : mF hp hp := mF.rf
  refine mm_R.cV (pc' := 158) (L' := [some ((.ref 86)), some (.int i1), some (.int i2), some (.int i3), some (.int i4), some (.int i5), some (.int i6), some (.int i7), o8]) (st1 := [.int i1, (.ref 86)]) (as := [.int i1]) (rest := []) 2 rfl rfl (mw_sp rfl rfl (Nat.le_of_ble_eq_true rfl) (mw_ac rfl (mw_ac rfl mw_an)) mw_an) rfl rfl (m_rc R rfl) ((H _ R).mono (fun o hp1 H => ?_))
  obtain ⟨σ1, R, F1, x2, rfl, H⟩ := H
  replace F := F.tr F1
  refine mm_R.br (L' := [some ((.ref 86)), some (.int i1), some (.int i2), some (.int i3), some (.int i4), some (.int i5), some (.int i6), some (.int i7), o8]) (st' := []) (t := 166) (u := 164) (b := mm_cc .ne x2 (0 : Int32)) 1 rfl (fun c => ?_) (fun c => ?_)
  · replace H := H.1 (of_decide_eq_true c)
    refine mm_R.br (L' := [some ((.ref 86)), some (.int i1), some (.int i2), some (.int i3), some (.int i4), some (.int i5), some (.int i6), some (.int i7), o8]) (st' := []) (t := 188) (u := 170) (b := mm_cc .eq i3 (0 : Int32)) 2 rfl (fun c => ?_) (fun c => ?_)
    · replace H := H.1 (of_decide_eq_true c)
      exact mm_R.pn (pc' := 194) (L' := [some ((.ref 86)), some (.int i1), some (.int i2), some (.int i3), some (.int i4), some (.int i5), some (.int i6), some (.int i7), some (.int (i5 + (1 : Int32)))]) (st' := []) 4 rfl (H.use R F)
    · replace H := H.2 (of_decide_eq_false c)
      refine mm_R.br (L' := [some ((.ref 86)), some (.int i1), some (.int i2), some (.int i3), some (.int i4), some (.int i5), some (.int i6), some (.int i7), o8]) (st' := []) (t := 188) (u := 176) (b := mm_cc .ne i4 (1 : Int32)) 3 rfl (fun c => ?_) (fun c => ?_)
      · replace H := H.1 (of_decide_eq_true c)
        exact mm_R.pn (pc' := 194) (L' := [some ((.ref 86)), some (.int i1), some (.int i2), some (.int i3), some (.int i4), some (.int i5), some (.int i6), some (.int i7), some (.int (i5 + (1 : Int32)))]) (st' := []) 4 rfl (H.use R F)
      · replace H := H.2 (Decidable.of_not_not (of_decide_eq_false c))
        refine mm_R.cV (pc' := 179) (L' := [some ((.ref 86)), some (.int i1), some (.int i2), some (.int i3), some (.int i4), some (.int i5), some (.int i6), some (.int i7), o8]) (st1 := [.int (45 : Int32), (.ref 86)]) (as := [.int (45 : Int32)]) (rest := []) 2 rfl rfl (mw_sp rfl rfl (Nat.le_of_ble_eq_true rfl) (mw_ac rfl (mw_ac rfl mw_an)) mw_an) rfl rfl (m_rc R rfl) ((H _ R).mono (fun o hp1 H => ?_))
        obtain ⟨σ3, R, F1, rfl, H⟩ := H
        replace F := F.tr F1
        refine mm_R.cV (pc' := 185) (L' := [some ((.ref 86)), some (.int i1), some (.int i2), some (.int i3), some (.int i4), some (.int i5), some (.int i6), some (.int i7), o8]) (st1 := [.int ((Int32.toUInt32 i3 % 65536).toInt32), (.ref 86)]) (as := [.int ((Int32.toUInt32 i3 % 65536).toInt32)]) (rest := []) 3 rfl rfl (mw_sp rfl rfl (Nat.le_of_ble_eq_true rfl) (mw_ac rfl (mw_ac rfl mw_an)) mw_an) rfl rfl (m_rc R rfl) ((H _ R).mono (fun o hp1 H => ?_))
        obtain ⟨σ4, R, F1, rfl, H⟩ := H
        replace F := F.tr F1
        exact mm_R.pn (pc' := 194) (L' := [some ((.ref 86)), some (.int i1), some (.int i2), some (.int i3), some (.int i4), some (.int i5), some (.int i6), some (.int i7), some (.int (i5 + (1 : Int32)))]) (st' := []) 4 rfl (H.use R F)
  · replace H := H.2 (Decidable.of_not_not (of_decide_eq_false c))
    exact mm_R.rt (pc' := 165) (L' := [some ((.ref 86)), some (.int i1), some (.int i2), some (.int i3), some (.int i4), some (.int i5), some (.int i6), some (.int i7), o8]) (st1 := [.int (0 : Int32)]) 1 rfl rfl rfl rfl rfl rfl ⟨_, R, F, H⟩
-- StepRunnerModel.worded, from 194
set_option maxRecDepth 10000 in
theorem u190_194 {X : List Int32} {d : Nat} {i1 : Int32} {i2 : Int32} {i3 : Int32} {i4 : Int32} {i5 : Int32} {i6 : Int32} {i7 : Int32} {i8 : Int32} {σ : mS} {Q : Option Value → mS → Prop} (H : ((i6 ≤ i8 → mM X (d + 1) 190 248 [some ((.ref 86)), some (.int i1), some (.int i2), some (.int i3), some (.int i4), some (.int i5), some (.int i6), some (.int i7), some (.int i8)] [] σ Q) ∧ (¬ i6 ≤ i8 → ((i7 = (0 : Int32) → mM X (d + 1) 190 248 [some ((.ref 86)), some (.int i1), some (.int i2), some (.int i3), some (.int i4), some (.int i5), some (.int i6), some (.int i7), some (.int i8)] [] σ Q) ∧ (¬ i7 = (0 : Int32) → ((¬ i4 = (3 : Int32) → mM X (d + 1) 190 248 [some ((.ref 86)), some (.int i1), some (.int i2), some (.int i3), some (.int i4), some (.int i5), some (.int i6), some (.int i7), some (.int i8)] [] σ Q) ∧ (i4 = (3 : Int32) → ((i8 ≤ (i5 + (1 : Int32)) → mM X d 182 0 (mm_L0 182 [(.ref 86), .int i8, .int i6]) [] σ (m0_K (fun σ1 => mM X d 147 0 (mm_L0 147 [(.ref 86), .int i8, .int i6]) [] σ1 (mi_K (fun x3 σ2 => mM X (d + 1) 190 194 [some ((.ref 86)), some (.int i1), some (.int i2), some (.int i3), some (.int i4), some (.int i5), some (.int i6), some (.int i7), some (.int x3)] [] σ2 Q))))) ∧ (¬ i8 ≤ (i5 + (1 : Int32)) → mM X d 184 0 (mm_L0 184 [(.ref 86), .int (44 : Int32)]) [] σ (m0_K (fun σ4 => mM X d 182 0 (mm_L0 182 [(.ref 86), .int i8, .int i6]) [] σ4 (m0_K (fun σ5 => mM X d 147 0 (mm_L0 147 [(.ref 86), .int i8, .int i6]) [] σ5 (mi_K (fun x7 σ6 => mM X (d + 1) 190 194 [some ((.ref 86)), some (.int i1), some (.int i2), some (.int i3), some (.int i4), some (.int i5), some (.int i6), some (.int i7), some (.int x7)] [] σ6 Q))))))))))))))) : mM X (d + 1) 190 194 [some ((.ref 86)), some (.int i1), some (.int i2), some (.int i3), some (.int i4), some (.int i5), some (.int i6), some (.int i7), some (.int i8)] [] σ Q := by
  intro hp R
  have F : mF hp hp := mF.rf
  refine mm_R.br (L' := [some ((.ref 86)), some (.int i1), some (.int i2), some (.int i3), some (.int i4), some (.int i5), some (.int i6), some (.int i7), some (.int i8)]) (st' := []) (t := 248) (u := 201) (b := mm_cc .ge i8 i6) 3 rfl (fun c => ?_) (fun c => ?_)
  · replace H := H.1 (of_decide_eq_true c)
    exact H.use R F
  · replace H := H.2 (of_decide_eq_false c)
    refine mm_R.br (L' := [some ((.ref 86)), some (.int i1), some (.int i2), some (.int i3), some (.int i4), some (.int i5), some (.int i6), some (.int i7), some (.int i8)]) (st' := []) (t := 248) (u := 206) (b := mm_cc .eq i7 (0 : Int32)) 2 rfl (fun c => ?_) (fun c => ?_)
    · replace H := H.1 (of_decide_eq_true c)
      exact H.use R F
    · replace H := H.2 (of_decide_eq_false c)
      refine mm_R.br (L' := [some ((.ref 86)), some (.int i1), some (.int i2), some (.int i3), some (.int i4), some (.int i5), some (.int i6), some (.int i7), some (.int i8)]) (st' := []) (t := 248) (u := 212) (b := mm_cc .ne i4 (3 : Int32)) 3 rfl (fun c => ?_) (fun c => ?_)
      · replace H := H.1 (of_decide_eq_true c)
        exact H.use R F
      · replace H := H.2 (Decidable.of_not_not (of_decide_eq_false c))
        refine mm_R.br (L' := [some ((.ref 86)), some (.int i1), some (.int i2), some (.int i3), some (.int i4), some (.int i5), some (.int i6), some (.int i7), some (.int i8)]) (st' := []) (t := 227) (u := 221) (b := mm_cc .le i8 (i5 + (1 : Int32))) 5 rfl (fun c => ?_) (fun c => ?_)
        · replace H := H.1 (of_decide_eq_true c)
          refine mm_R.cV (pc' := 232) (L' := [some ((.ref 86)), some (.int i1), some (.int i2), some (.int i3), some (.int i4), some (.int i5), some (.int i6), some (.int i7), some (.int i8)]) (st1 := [.int i6, .int i8, (.ref 86)]) (as := [.int i8, .int i6]) (rest := []) 3 rfl rfl (mw_sp rfl rfl (Nat.le_of_ble_eq_true rfl) (mw_ac rfl (mw_ac rfl (mw_ac rfl mw_an))) mw_an) rfl rfl (m_rc R rfl) ((H _ R).mono (fun o hp1 H => ?_))
          obtain ⟨σ1, R, F1, rfl, H⟩ := H
          replace F := F.tr F1
          refine mm_R.cV (pc' := 240) (L' := [some ((.ref 86)), some (.int i1), some (.int i2), some (.int i3), some (.int i4), some (.int i5), some (.int i6), some (.int i7), some (.int i8)]) (st1 := [.int i6, .int i8, (.ref 86)]) (as := [.int i8, .int i6]) (rest := []) 3 rfl rfl (mw_sp rfl rfl (Nat.le_of_ble_eq_true rfl) (mw_ac rfl (mw_ac rfl (mw_ac rfl mw_an))) mw_an) rfl rfl (m_rc R rfl) ((H _ R).mono (fun o hp1 H => ?_))
          obtain ⟨σ2, R, F1, x3, rfl, H⟩ := H
          replace F := F.tr F1
          exact mm_R.pn (pc' := 194) (L' := [some ((.ref 86)), some (.int i1), some (.int i2), some (.int i3), some (.int i4), some (.int i5), some (.int i6), some (.int i7), some (.int x3)]) (st' := []) 2 rfl (H.use R F)
        · replace H := H.2 (of_decide_eq_false c)
          refine mm_R.cV (pc' := 224) (L' := [some ((.ref 86)), some (.int i1), some (.int i2), some (.int i3), some (.int i4), some (.int i5), some (.int i6), some (.int i7), some (.int i8)]) (st1 := [.int (44 : Int32), (.ref 86)]) (as := [.int (44 : Int32)]) (rest := []) 2 rfl rfl (mw_sp rfl rfl (Nat.le_of_ble_eq_true rfl) (mw_ac rfl (mw_ac rfl mw_an)) mw_an) rfl rfl (m_rc R rfl) ((H _ R).mono (fun o hp1 H => ?_))
          obtain ⟨σ4, R, F1, rfl, H⟩ := H
          replace F := F.tr F1
          refine mm_R.cV (pc' := 232) (L' := [some ((.ref 86)), some (.int i1), some (.int i2), some (.int i3), some (.int i4), some (.int i5), some (.int i6), some (.int i7), some (.int i8)]) (st1 := [.int i6, .int i8, (.ref 86)]) (as := [.int i8, .int i6]) (rest := []) 3 rfl rfl (mw_sp rfl rfl (Nat.le_of_ble_eq_true rfl) (mw_ac rfl (mw_ac rfl (mw_ac rfl mw_an))) mw_an) rfl rfl (m_rc R rfl) ((H _ R).mono (fun o hp1 H => ?_))
          obtain ⟨σ5, R, F1, rfl, H⟩ := H
          replace F := F.tr F1
          refine mm_R.cV (pc' := 240) (L' := [some ((.ref 86)), some (.int i1), some (.int i2), some (.int i3), some (.int i4), some (.int i5), some (.int i6), some (.int i7), some (.int i8)]) (st1 := [.int i6, .int i8, (.ref 86)]) (as := [.int i8, .int i6]) (rest := []) 3 rfl rfl (mw_sp rfl rfl (Nat.le_of_ble_eq_true rfl) (mw_ac rfl (mw_ac rfl (mw_ac rfl mw_an))) mw_an) rfl rfl (m_rc R rfl) ((H _ R).mono (fun o hp1 H => ?_))
          obtain ⟨σ6, R, F1, x7, rfl, H⟩ := H
          replace F := F.tr F1
          exact mm_R.pn (pc' := 194) (L' := [some ((.ref 86)), some (.int i1), some (.int i2), some (.int i3), some (.int i4), some (.int i5), some (.int i6), some (.int i7), some (.int x7)]) (st' := []) 2 rfl (H.use R F)
-- StepRunnerModel.worded, from 248
set_option maxRecDepth 10000 in
theorem u190_248 {X : List Int32} {d : Nat} {i1 : Int32} {i2 : Int32} {i3 : Int32} {i4 : Int32} {i5 : Int32} {i6 : Int32} {i7 : Int32} {i8 : Int32} {σ : mS} {Q : Option Value → mS → Prop} (H : ((i7 = (0 : Int32) → mM X d 182 0 (mm_L0 182 [(.ref 86), .int i5, .int i6]) [] σ (m0_K (fun σ1 => mM X d 192 0 (mm_L0 192 [(.ref 86), .int i1]) [] σ1 (m0_K (fun σ2 => Q (some (.int (1 : Int32))) σ2))))) ∧ (¬ i7 = (0 : Int32) → ((i4 = (3 : Int32) → mM X d 192 0 (mm_L0 192 [(.ref 86), .int i1]) [] σ (m0_K (fun σ3 => Q (some (.int (1 : Int32))) σ3))) ∧ (¬ i4 = (3 : Int32) → mM X d 182 0 (mm_L0 182 [(.ref 86), .int i5, .int i6]) [] σ (m0_K (fun σ4 => mM X d 192 0 (mm_L0 192 [(.ref 86), .int i1]) [] σ4 (m0_K (fun σ5 => Q (some (.int (1 : Int32))) σ5))))))))) : mM X (d + 1) 190 248 [some ((.ref 86)), some (.int i1), some (.int i2), some (.int i3), some (.int i4), some (.int i5), some (.int i6), some (.int i7), some (.int i8)] [] σ Q := by
  intro hp R
  have F : mF hp hp := mF.rf
  refine mm_R.br (L' := [some ((.ref 86)), some (.int i1), some (.int i2), some (.int i3), some (.int i4), some (.int i5), some (.int i6), some (.int i7), some (.int i8)]) (st' := []) (t := 259) (u := 253) (b := mm_cc .eq i7 (0 : Int32)) 2 rfl (fun c => ?_) (fun c => ?_)
  · replace H := H.1 (of_decide_eq_true c)
    refine mm_R.cV (pc' := 264) (L' := [some ((.ref 86)), some (.int i1), some (.int i2), some (.int i3), some (.int i4), some (.int i5), some (.int i6), some (.int i7), some (.int i8)]) (st1 := [.int i6, .int i5, (.ref 86)]) (as := [.int i5, .int i6]) (rest := []) 3 rfl rfl (mw_sp rfl rfl (Nat.le_of_ble_eq_true rfl) (mw_ac rfl (mw_ac rfl (mw_ac rfl mw_an))) mw_an) rfl rfl (m_rc R rfl) ((H _ R).mono (fun o hp1 H => ?_))
    obtain ⟨σ1, R, F1, rfl, H⟩ := H
    replace F := F.tr F1
    refine mm_R.cV (pc' := 269) (L' := [some ((.ref 86)), some (.int i1), some (.int i2), some (.int i3), some (.int i4), some (.int i5), some (.int i6), some (.int i7), some (.int i8)]) (st1 := [.int i1, (.ref 86)]) (as := [.int i1]) (rest := []) 2 rfl rfl (mw_sp rfl rfl (Nat.le_of_ble_eq_true rfl) (mw_ac rfl (mw_ac rfl mw_an)) mw_an) rfl rfl (m_rc R rfl) ((H _ R).mono (fun o hp1 H => ?_))
    obtain ⟨σ2, R, F1, rfl, H⟩ := H
    replace F := F.tr F1
    exact mm_R.rt (pc' := 273) (L' := [some ((.ref 86)), some (.int i1), some (.int i2), some (.int i3), some (.int i4), some (.int i5), some (.int i6), some (.int i7), some (.int i8)]) (st1 := [.int (1 : Int32)]) 1 rfl rfl rfl rfl rfl rfl ⟨_, R, F, H⟩
  · replace H := H.2 (of_decide_eq_false c)
    refine mm_R.br (L' := [some ((.ref 86)), some (.int i1), some (.int i2), some (.int i3), some (.int i4), some (.int i5), some (.int i6), some (.int i7), some (.int i8)]) (st' := []) (t := 267) (u := 259) (b := mm_cc .eq i4 (3 : Int32)) 3 rfl (fun c => ?_) (fun c => ?_)
    · replace H := H.1 (of_decide_eq_true c)
      refine mm_R.cV (pc' := 269) (L' := [some ((.ref 86)), some (.int i1), some (.int i2), some (.int i3), some (.int i4), some (.int i5), some (.int i6), some (.int i7), some (.int i8)]) (st1 := [.int i1, (.ref 86)]) (as := [.int i1]) (rest := []) 2 rfl rfl (mw_sp rfl rfl (Nat.le_of_ble_eq_true rfl) (mw_ac rfl (mw_ac rfl mw_an)) mw_an) rfl rfl (m_rc R rfl) ((H _ R).mono (fun o hp1 H => ?_))
      obtain ⟨σ3, R, F1, rfl, H⟩ := H
      replace F := F.tr F1
      exact mm_R.rt (pc' := 273) (L' := [some ((.ref 86)), some (.int i1), some (.int i2), some (.int i3), some (.int i4), some (.int i5), some (.int i6), some (.int i7), some (.int i8)]) (st1 := [.int (1 : Int32)]) 1 rfl rfl rfl rfl rfl rfl ⟨_, R, F, H⟩
    · replace H := H.2 (of_decide_eq_false c)
      refine mm_R.cV (pc' := 264) (L' := [some ((.ref 86)), some (.int i1), some (.int i2), some (.int i3), some (.int i4), some (.int i5), some (.int i6), some (.int i7), some (.int i8)]) (st1 := [.int i6, .int i5, (.ref 86)]) (as := [.int i5, .int i6]) (rest := []) 3 rfl rfl (mw_sp rfl rfl (Nat.le_of_ble_eq_true rfl) (mw_ac rfl (mw_ac rfl (mw_ac rfl mw_an))) mw_an) rfl rfl (m_rc R rfl) ((H _ R).mono (fun o hp1 H => ?_))
      obtain ⟨σ4, R, F1, rfl, H⟩ := H
      replace F := F.tr F1
      refine mm_R.cV (pc' := 269) (L' := [some ((.ref 86)), some (.int i1), some (.int i2), some (.int i3), some (.int i4), some (.int i5), some (.int i6), some (.int i7), some (.int i8)]) (st1 := [.int i1, (.ref 86)]) (as := [.int i1]) (rest := []) 2 rfl rfl (mw_sp rfl rfl (Nat.le_of_ble_eq_true rfl) (mw_ac rfl (mw_ac rfl mw_an)) mw_an) rfl rfl (m_rc R rfl) ((H _ R).mono (fun o hp1 H => ?_))
      obtain ⟨σ5, R, F1, rfl, H⟩ := H
      replace F := F.tr F1
      exact mm_R.rt (pc' := 273) (L' := [some ((.ref 86)), some (.int i1), some (.int i2), some (.int i3), some (.int i4), some (.int i5), some (.int i6), some (.int i7), some (.int i8)]) (st1 := [.int (1 : Int32)]) 1 rfl rfl rfl rfl rfl rfl ⟨_, R, F, H⟩
-- StepRunnerModel.beginWord, from 0
set_option maxRecDepth 10000 in
theorem u191_0 {X : List Int32} {d : Nat} {i1 : Int32} {σ : mS} {Q : Option Value → mS → Prop} (H : (0 ≤ i1 ∧ Int32.toNatClampNeg i1 < 96) ∧ ∀ σ2, σ2 = mSet σ 39 (((600 : Int32) + ((192 : Int32) * i1)) + ((24 : Int32) * (mGet σ 109 i1))) → ∀ σ3, σ3 = mSet σ2 40 (0 : Int32) → (0 ≤ i1 ∧ Int32.toNatClampNeg i1 < 96) ∧ (((8 : Int32) ≤ (mGet σ3 109 i1) → Q (some (.int (0 : Int32))) σ3) ∧ (¬ (8 : Int32) ≤ (mGet σ3 109 i1) → Q (some (.int (1 : Int32))) σ3))) : mM X (d + 1) 191 0 (mm_L0 191 [(.ref 86), .int i1]) [] σ Q := by
  intro hp R
  have F : mF hp hp := mF.rf
  show mm_R X (d + 1) 191 0 [some ((.ref 86)), some (.int i1)] [] hp (mQ hp Q)
  refine mm_R.wgv (pc' := 13) (L' := [some ((.ref 86)), some (.int i1)]) (r := [.int (24 : Int32), .int ((600 : Int32) + ((192 : Int32) * i1)), (.ref 86)]) 8 rfl rfl (m_gv R rfl ?_)
  obtain ⟨hi1, H⟩ := H
  refine mm_R.wai (pc' := 17) (L' := [some ((.ref 86)), some (.int i1)]) (r := [.int (24 : Int32), .int ((600 : Int32) + ((192 : Int32) * i1)), (.ref 86)]) (t := 1000) 1 rfl rfl rfl rfl (m_ai (i := i1) R (n := 96) (by decide) hi1 ?_)
  refine mm_R.wpt (pc' := 20) (L' := [some ((.ref 86)), some (.int i1)]) (r := []) 2 rfl rfl (m_pt (v := (((600 : Int32) + ((192 : Int32) * i1)) + ((24 : Int32) * (mGet σ 109 i1)))) R F rfl rfl rfl (fun hp R F => ?_))
  obtain ⟨σ2, es⟩ : ∃ z, z = mSet σ 39 (((600 : Int32) + ((192 : Int32) * i1)) + ((24 : Int32) * (mGet σ 109 i1))) := ⟨_, rfl⟩
  rw [← es] at R
  replace H := H σ2 es
  refine mm_R.wpt (pc' := 25) (L' := [some ((.ref 86)), some (.int i1)]) (r := []) 2 rfl rfl (m_pt (v := (0 : Int32)) R F rfl rfl rfl (fun hp R F => ?_))
  obtain ⟨σ3, es⟩ : ∃ z, z = mSet σ2 40 (0 : Int32) := ⟨_, rfl⟩
  rw [← es] at R
  replace H := H σ3 es
  refine mm_R.wgv (pc' := 29) (L' := [some ((.ref 86)), some (.int i1)]) (r := []) 1 rfl rfl (m_gv R rfl ?_)
  obtain ⟨hi4, H⟩ := H
  refine mm_R.wai (pc' := 33) (L' := [some ((.ref 86)), some (.int i1)]) (r := []) (t := 1000) 1 rfl rfl rfl rfl (m_ai (i := i1) R (n := 96) (by decide) hi4 ?_)
  refine mm_R.br (L' := [some ((.ref 86)), some (.int i1)]) (st' := []) (t := 43) (u := 39) (b := mm_cc .ge (mGet σ3 109 i1) (8 : Int32)) 2 rfl (fun c => ?_) (fun c => ?_)
  · replace H := H.1 (of_decide_eq_true c)
    exact mm_R.rt (pc' := 44) (L' := [some ((.ref 86)), some (.int i1)]) (st1 := [.int (0 : Int32)]) 1 rfl rfl rfl rfl rfl rfl ⟨_, R, F, H⟩
  · replace H := H.2 (of_decide_eq_false c)
    exact mm_R.rt (pc' := 44) (L' := [some ((.ref 86)), some (.int i1)]) (st1 := [.int (1 : Int32)]) 2 rfl rfl rfl rfl rfl rfl ⟨_, R, F, H⟩
-- StepRunnerModel.endWord, from 0
set_option maxRecDepth 10000 in
theorem u192_0 {X : List Int32} {d : Nat} {i1 : Int32} {σ : mS} {Q : Option Value → mS → Prop} (H : (0 ≤ i1 ∧ Int32.toNatClampNeg i1 < 96) ∧ (0 ≤ (((8 : Int32) * i1) + (mGet σ 109 i1)) ∧ Int32.toNatClampNeg (((8 : Int32) * i1) + (mGet σ 109 i1)) < 768) ∧ ∀ σ3, σ3 = mPut σ 110 (((8 : Int32) * i1) + (mGet σ 109 i1)) (σ.1 40) → (0 ≤ i1 ∧ Int32.toNatClampNeg i1 < 96) ∧ (0 ≤ i1 ∧ Int32.toNatClampNeg i1 < 96) ∧ ∀ σ6, σ6 = mPut σ3 109 i1 ((mGet σ3 109 i1) + (1 : Int32)) → Q none σ6) : mM X (d + 1) 192 0 (mm_L0 192 [(.ref 86), .int i1]) [] σ Q := by
  intro hp R
  have F : mF hp hp := mF.rf
  show mm_R X (d + 1) 192 0 [some ((.ref 86)), some (.int i1)] [] hp (mQ hp Q)
  refine mm_R.wgv (pc' := 1) (L' := [some ((.ref 86)), some (.int i1)]) (r := []) 1 rfl rfl (m_gv R rfl ?_)
  refine mm_R.wgv (pc' := 9) (L' := [some ((.ref 86)), some (.int i1)]) (r := [.int ((8 : Int32) * i1), (.ref 110)]) 4 rfl rfl (m_gv R rfl ?_)
  obtain ⟨hi1, H⟩ := H
  refine mm_R.wai (pc' := 13) (L' := [some ((.ref 86)), some (.int i1)]) (r := [.int ((8 : Int32) * i1), (.ref 110)]) (t := 1000) 1 rfl rfl rfl rfl (m_ai (i := i1) R (n := 96) (by decide) hi1 ?_)
  refine mm_R.wgi (pc' := 16) (L' := [some ((.ref 86)), some (.int i1)]) (r := [.int (((8 : Int32) * i1) + (mGet σ 109 i1)), (.ref 110)]) 2 rfl rfl (m_gi R rfl ?_)
  obtain ⟨hi2, H⟩ := H
  refine mm_R.wsi (pc' := 19) (L' := [some ((.ref 86)), some (.int i1)]) (r := []) (t := 1000) (ty := .int) 0 rfl rfl rfl rfl (m_si (i := (((8 : Int32) * i1) + (mGet σ 109 i1))) (v := (σ.1 40)) R F (n := 768) (by decide) hi2 rfl (fun hp R F => ?_))
  obtain ⟨σ3, es⟩ : ∃ z, z = mPut σ 110 (((8 : Int32) * i1) + (mGet σ 109 i1)) (σ.1 40) := ⟨_, rfl⟩
  rw [← es] at R
  replace H := H σ3 es
  refine mm_R.wgv (pc' := 21) (L' := [some ((.ref 86)), some (.int i1)]) (r := []) 1 rfl rfl (m_gv R rfl ?_)
  obtain ⟨hi4, H⟩ := H
  refine mm_R.wai (pc' := 26) (L' := [some ((.ref 86)), some (.int i1)]) (r := [.int i1, (.ref 109)]) (t := 1000) 2 rfl rfl rfl rfl (m_ai (i := i1) R (n := 96) (by decide) hi4 ?_)
  obtain ⟨hi5, H⟩ := H
  refine mm_R.wsi (pc' := 29) (L' := [some ((.ref 86)), some (.int i1)]) (r := []) (t := 1000) (ty := .int) 2 rfl rfl rfl rfl (m_si (i := i1) (v := ((mGet σ3 109 i1) + (1 : Int32))) R F (n := 96) (by decide) hi5 rfl (fun hp R F => ?_))
  obtain ⟨σ6, es⟩ : ∃ z, z = mPut σ3 109 i1 ((mGet σ3 109 i1) + (1 : Int32)) := ⟨_, rfl⟩
  rw [← es] at R
  replace H := H σ6 es
  exact mm_R.rt (pc' := 30) (L' := [some ((.ref 86)), some (.int i1)]) (st1 := []) 0 rfl rfl rfl rfl rfl rfl ⟨_, R, F, H⟩
-- StepRunnerModel.isThrough, from 0
set_option maxRecDepth 10000 in
theorem u193_0 {X : List Int32} {d : Nat} {i1 : Int32} {σ : mS} {Q : Option Value → mS → Prop} (H : mM X (d + 1) 193 4 [some ((.ref 86)), some (.int i1), some (.int (1 : Int32)), some (.int (0 : Int32))] [] σ Q) : mM X (d + 1) 193 0 (mm_L0 193 [(.ref 86), .int i1]) [] σ Q := by
  intro hp R
  have F : mF hp hp := mF.rf
  show mm_R X (d + 1) 193 0 [some ((.ref 86)), some (.int i1), none, none] [] hp (mQ hp Q)
  exact mm_R.pn (pc' := 4) (L' := [some ((.ref 86)), some (.int i1), some (.int (1 : Int32)), some (.int (0 : Int32))]) (st' := []) 4 rfl (H.use R F)
-- StepRunnerModel.isThrough, from 4
set_option maxRecDepth 10000 in
theorem u193_4 {X : List Int32} {d : Nat} {i1 : Int32} {i2 : Int32} {i3 : Int32} {σ : mS} {Q : Option Value → mS → Prop} (H : (0 ≤ i1 ∧ Int32.toNatClampNeg i1 < 6) ∧ (((mGet σ 107 i1) ≤ i3 → (i2 = 0 ∨ i2 = 1) ∧ Q (some (.int i2)) σ) ∧ (¬ (mGet σ 107 i1) ≤ i3 → ((i2 = (0 : Int32) → mM X (d + 1) 193 4 [some ((.ref 86)), some (.int i1), some (.int (0 : Int32)), some (.int (i3 + (1 : Int32)))] [] σ Q) ∧ (¬ i2 = (0 : Int32) → (0 ≤ (((16 : Int32) * i1) + i3) ∧ Int32.toNatClampNeg (((16 : Int32) * i1) + i3) < 96) ∧ ((¬ (mGet σ 108 (((16 : Int32) * i1) + i3)) = (3 : Int32) → mM X (d + 1) 193 4 [some ((.ref 86)), some (.int i1), some (.int (0 : Int32)), some (.int (i3 + (1 : Int32)))] [] σ Q) ∧ ((mGet σ 108 (((16 : Int32) * i1) + i3)) = (3 : Int32) → mM X (d + 1) 193 4 [some ((.ref 86)), some (.int i1), some (.int (1 : Int32)), some (.int (i3 + (1 : Int32)))] [] σ Q))))))) : mM X (d + 1) 193 4 [some ((.ref 86)), some (.int i1), some (.int i2), some (.int i3)] [] σ Q := by
  intro hp R
  have F : mF hp hp := mF.rf
  refine mm_R.wgv (pc' := 6) (L' := [some ((.ref 86)), some (.int i1), some (.int i2), some (.int i3)]) (r := [.int i3]) 2 rfl rfl (m_gv R rfl ?_)
  obtain ⟨hi1, H⟩ := H
  refine mm_R.wai (pc' := 10) (L' := [some ((.ref 86)), some (.int i1), some (.int i2), some (.int i3)]) (r := [.int i3]) (t := 1000) 1 rfl rfl rfl rfl (m_ai (i := i1) R (n := 6) (by decide) hi1 ?_)
  refine mm_R.br (L' := [some ((.ref 86)), some (.int i1), some (.int i2), some (.int i3)]) (st' := []) (t := 45) (u := 14) (b := mm_cc .ge i3 (mGet σ 107 i1)) 1 rfl (fun c => ?_) (fun c => ?_)
  · replace H := H.1 (of_decide_eq_true c)
    exact mm_R.rt (pc' := 46) (L' := [some ((.ref 86)), some (.int i1), some (.int i2), some (.int i3)]) (st1 := [.int i2]) 1 rfl rfl rfl rfl rfl (mw_rvi (ty := .boolean) (m_fz H.1)) ⟨_, R, F, H.2⟩
  · replace H := H.2 (of_decide_eq_false c)
    refine mm_R.br (L' := [some ((.ref 86)), some (.int i1), some (.int i2), some (.int i3)]) (st' := []) (t := 37) (u := 18) (b := mm_cc .eq i2 (0 : Int32)) 2 rfl (fun c => ?_) (fun c => ?_)
    · replace H := H.1 (of_decide_eq_true c)
      exact mm_R.pn (pc' := 4) (L' := [some ((.ref 86)), some (.int i1), some (.int (0 : Int32)), some (.int (i3 + (1 : Int32)))]) (st' := []) 4 rfl (H.use R F)
    · replace H := H.2 (of_decide_eq_false c)
      refine mm_R.wgv (pc' := 19) (L' := [some ((.ref 86)), some (.int i1), some (.int i2), some (.int i3)]) (r := []) 1 rfl rfl (m_gv R rfl ?_)
      obtain ⟨hi2, H⟩ := H
      refine mm_R.wai (pc' := 28) (L' := [some ((.ref 86)), some (.int i1), some (.int i2), some (.int i3)]) (r := []) (t := 1000) 5 rfl rfl rfl rfl (m_ai (i := (((16 : Int32) * i1) + i3)) R (n := 96) (by decide) hi2 ?_)
      refine mm_R.br (L' := [some ((.ref 86)), some (.int i1), some (.int i2), some (.int i3)]) (st' := []) (t := 37) (u := 33) (b := mm_cc .ne (mGet σ 108 (((16 : Int32) * i1) + i3)) (3 : Int32)) 2 rfl (fun c => ?_) (fun c => ?_)
      · replace H := H.1 (of_decide_eq_true c)
        exact mm_R.pn (pc' := 4) (L' := [some ((.ref 86)), some (.int i1), some (.int (0 : Int32)), some (.int (i3 + (1 : Int32)))]) (st' := []) 4 rfl (H.use R F)
      · replace H := H.2 (Decidable.of_not_not (of_decide_eq_false c))
        exact mm_R.pn (pc' := 4) (L' := [some ((.ref 86)), some (.int i1), some (.int (1 : Int32)), some (.int (i3 + (1 : Int32)))]) (st' := []) 5 rfl (H.use R F)
-- StepRunnerModel.end, from 0
set_option maxRecDepth 10000 in
theorem u194_0 {X : List Int32} {d : Nat} {i1 : Int32} {σ : mS} {Q : Option Value → mS → Prop} (H : mM X d 174 0 (mm_L0 174 [(.ref 86), .int i1]) [] σ (mi_K (fun x2 σ1 => mM X d 121 0 (mm_L0 121 [(.ref 86), .int ((123 : Int32) + i1)]) [] σ1 (m0_K (fun σ3 => ((¬ x2 = (0 : Int32) → (0 ≤ i1 ∧ Int32.toNatClampNeg i1 < 6) ∧ ((¬ (mGet σ3 98 i1) = (2 : Int32) → mM X d 122 0 (mm_L0 122 [(.ref 86), .int ((123 : Int32) + i1), .int (3 : Int32), .int (0 : Int32), .int (0 : Int32)]) [] σ3 (m0_K (fun σ5 => mM X (d + 1) 194 74 [some ((.ref 86)), some (.int i1), some (.int ((123 : Int32) + i1)), some (.int x2), some (.int (0 : Int32))] [] σ5 Q))) ∧ ((mGet σ3 98 i1) = (2 : Int32) → (((x2 &&& (x2 - (1 : Int32))) = (0 : Int32) → mM X d 122 0 (mm_L0 122 [(.ref 86), .int ((123 : Int32) + i1), .int (3 : Int32), .int (0 : Int32), .int (0 : Int32)]) [] σ3 (m0_K (fun σ6 => mM X (d + 1) 194 74 [some ((.ref 86)), some (.int i1), some (.int ((123 : Int32) + i1)), some (.int x2), some (.int (0 : Int32))] [] σ6 Q))) ∧ (¬ (x2 &&& (x2 - (1 : Int32))) = (0 : Int32) → mM X d 195 0 (mm_L0 195 [(.ref 86), .int i1, .int x2, .int ((123 : Int32) + i1)]) [] σ3 (m0_K (fun σ7 => mM X (d + 1) 194 100 [some ((.ref 86)), some (.int i1), some (.int ((123 : Int32) + i1)), some (.int x2), none] [] σ7 Q))))))) ∧ (x2 = (0 : Int32) → mM X d 149 0 (mm_L0 149 [(.ref 86), .int ((27 : Int32) + ((16 : Int32) * i1)), .int ((123 : Int32) + i1)]) [] σ3 (m0_K (fun σ8 => mM X (d + 1) 194 100 [some ((.ref 86)), some (.int i1), some (.int ((123 : Int32) + i1)), some (.int x2), none] [] σ8 Q))))))))) : mM X (d + 1) 194 0 (mm_L0 194 [(.ref 86), .int i1]) [] σ Q := by
  intro hp R
  have F : mF hp hp := mF.rf
  show mm_R X (d + 1) 194 0 [some ((.ref 86)), some (.int i1), none, none, none] [] hp (mQ hp Q)
  refine mm_R.cV (pc' := 7) (L' := [some ((.ref 86)), some (.int i1), some (.int ((123 : Int32) + i1)), none, none]) (st1 := [.int i1, (.ref 86)]) (as := [.int i1]) (rest := []) 6 rfl rfl (mw_sp rfl rfl (Nat.le_of_ble_eq_true rfl) (mw_ac rfl (mw_ac rfl mw_an)) mw_an) rfl rfl (m_rc R rfl) ((H _ R).mono (fun o hp1 H => ?_))
  obtain ⟨σ1, R, F1, x2, rfl, H⟩ := H
  replace F := F.tr F1
  refine mm_R.cV (pc' := 13) (L' := [some ((.ref 86)), some (.int i1), some (.int ((123 : Int32) + i1)), some (.int x2), none]) (st1 := [.int ((123 : Int32) + i1), (.ref 86)]) (as := [.int ((123 : Int32) + i1)]) (rest := []) 3 rfl rfl (mw_sp rfl rfl (Nat.le_of_ble_eq_true rfl) (mw_ac rfl (mw_ac rfl mw_an)) mw_an) rfl rfl (m_rc R rfl) ((H _ R).mono (fun o hp1 H => ?_))
  obtain ⟨σ3, R, F1, rfl, H⟩ := H
  replace F := F.tr F1
  refine mm_R.br (L' := [some ((.ref 86)), some (.int i1), some (.int ((123 : Int32) + i1)), some (.int x2), none]) (st' := []) (t := 35) (u := 20) (b := mm_cc .ne x2 (0 : Int32)) 2 rfl (fun c => ?_) (fun c => ?_)
  · replace H := H.1 (of_decide_eq_true c)
    refine mm_R.wgv (pc' := 36) (L' := [some ((.ref 86)), some (.int i1), some (.int ((123 : Int32) + i1)), some (.int x2), none]) (r := []) 1 rfl rfl (m_gv R rfl ?_)
    obtain ⟨hi4, H⟩ := H
    refine mm_R.wai (pc' := 40) (L' := [some ((.ref 86)), some (.int i1), some (.int ((123 : Int32) + i1)), some (.int x2), none]) (r := []) (t := 1000) 1 rfl rfl rfl rfl (m_ai (i := i1) R (n := 6) (by decide) hi4 ?_)
    refine mm_R.br (L' := [some ((.ref 86)), some (.int i1), some (.int ((123 : Int32) + i1)), some (.int x2), none]) (st' := []) (t := 63) (u := 45) (b := mm_cc .ne (mGet σ3 98 i1) (2 : Int32)) 2 rfl (fun c => ?_) (fun c => ?_)
    · replace H := H.1 (of_decide_eq_true c)
      refine mm_R.cV (pc' := 68) (L' := [some ((.ref 86)), some (.int i1), some (.int ((123 : Int32) + i1)), some (.int x2), none]) (st1 := [.int (0 : Int32), .int (0 : Int32), .int (3 : Int32), .int ((123 : Int32) + i1), (.ref 86)]) (as := [.int ((123 : Int32) + i1), .int (3 : Int32), .int (0 : Int32), .int (0 : Int32)]) (rest := []) 5 rfl rfl (mw_sp rfl rfl (Nat.le_of_ble_eq_true rfl) (mw_ac rfl (mw_ac rfl (mw_ac rfl (mw_ac rfl (mw_ac rfl mw_an))))) mw_an) rfl rfl (m_rc R rfl) ((H _ R).mono (fun o hp1 H => ?_))
      obtain ⟨σ5, R, F1, rfl, H⟩ := H
      replace F := F.tr F1
      exact mm_R.pn (pc' := 74) (L' := [some ((.ref 86)), some (.int i1), some (.int ((123 : Int32) + i1)), some (.int x2), some (.int (0 : Int32))]) (st' := []) 2 rfl (H.use R F)
    · replace H := H.2 (Decidable.of_not_not (of_decide_eq_false c))
      refine mm_R.br (L' := [some ((.ref 86)), some (.int i1), some (.int ((123 : Int32) + i1)), some (.int x2), none]) (st' := []) (t := 63) (u := 53) (b := mm_cc .eq (x2 &&& (x2 - (1 : Int32))) (0 : Int32)) 6 rfl (fun c => ?_) (fun c => ?_)
      · replace H := H.1 (of_decide_eq_true c)
        refine mm_R.cV (pc' := 68) (L' := [some ((.ref 86)), some (.int i1), some (.int ((123 : Int32) + i1)), some (.int x2), none]) (st1 := [.int (0 : Int32), .int (0 : Int32), .int (3 : Int32), .int ((123 : Int32) + i1), (.ref 86)]) (as := [.int ((123 : Int32) + i1), .int (3 : Int32), .int (0 : Int32), .int (0 : Int32)]) (rest := []) 5 rfl rfl (mw_sp rfl rfl (Nat.le_of_ble_eq_true rfl) (mw_ac rfl (mw_ac rfl (mw_ac rfl (mw_ac rfl (mw_ac rfl mw_an))))) mw_an) rfl rfl (m_rc R rfl) ((H _ R).mono (fun o hp1 H => ?_))
        obtain ⟨σ6, R, F1, rfl, H⟩ := H
        replace F := F.tr F1
        exact mm_R.pn (pc' := 74) (L' := [some ((.ref 86)), some (.int i1), some (.int ((123 : Int32) + i1)), some (.int x2), some (.int (0 : Int32))]) (st' := []) 2 rfl (H.use R F)
      · replace H := H.2 (of_decide_eq_false c)
        refine mm_R.cV (pc' := 57) (L' := [some ((.ref 86)), some (.int i1), some (.int ((123 : Int32) + i1)), some (.int x2), none]) (st1 := [.int ((123 : Int32) + i1), .int x2, .int i1, (.ref 86)]) (as := [.int i1, .int x2, .int ((123 : Int32) + i1)]) (rest := []) 4 rfl rfl (mw_sp rfl rfl (Nat.le_of_ble_eq_true rfl) (mw_ac rfl (mw_ac rfl (mw_ac rfl (mw_ac rfl mw_an)))) mw_an) rfl rfl (m_rc R rfl) ((H _ R).mono (fun o hp1 H => ?_))
        obtain ⟨σ7, R, F1, rfl, H⟩ := H
        replace F := F.tr F1
        exact mm_R.pn (pc' := 100) (L' := [some ((.ref 86)), some (.int i1), some (.int ((123 : Int32) + i1)), some (.int x2), none]) (st' := []) 1 rfl (H.use R F)
  · replace H := H.2 (Decidable.of_not_not (of_decide_eq_false c))
    refine mm_R.cV (pc' := 29) (L' := [some ((.ref 86)), some (.int i1), some (.int ((123 : Int32) + i1)), some (.int x2), none]) (st1 := [.int ((123 : Int32) + i1), .int ((27 : Int32) + ((16 : Int32) * i1)), (.ref 86)]) (as := [.int ((27 : Int32) + ((16 : Int32) * i1)), .int ((123 : Int32) + i1)]) (rest := []) 7 rfl rfl (mw_sp rfl rfl (Nat.le_of_ble_eq_true rfl) (mw_ac rfl (mw_ac rfl (mw_ac rfl mw_an))) mw_an) rfl rfl (m_rc R rfl) ((H _ R).mono (fun o hp1 H => ?_))
    obtain ⟨σ8, R, F1, rfl, H⟩ := H
    replace F := F.tr F1
    exact mm_R.pn (pc' := 100) (L' := [some ((.ref 86)), some (.int i1), some (.int ((123 : Int32) + i1)), some (.int x2), none]) (st' := []) 1 rfl (H.use R F)
-- StepRunnerModel.end, from 74
set_option maxRecDepth 10000 in
theorem u194_74 {X : List Int32} {d : Nat} {i1 : Int32} {i2 : Int32} {i3 : Int32} {i4 : Int32} {σ : mS} {Q : Option Value → mS → Prop} (H : (0 ≤ i1 ∧ Int32.toNatClampNeg i1 < 6) ∧ (((mGet σ 107 i1) ≤ i4 → mM X (d + 1) 194 100 [some ((.ref 86)), some (.int i1), some (.int i2), some (.int i3), some (.int i4)] [] σ Q) ∧ (¬ (mGet σ 107 i1) ≤ i4 → mM X d 197 0 (mm_L0 197 [(.ref 86), .int i1, .int i4, .int i2, .int (1 : Int32)]) [] σ (m0_K (fun σ2 => mM X (d + 1) 194 74 [some ((.ref 86)), some (.int i1), some (.int i2), some (.int i3), some (.int (i4 + (1 : Int32)))] [] σ2 Q))))) : mM X (d + 1) 194 74 [some ((.ref 86)), some (.int i1), some (.int i2), some (.int i3), some (.int i4)] [] σ Q := by
  intro hp R
  have F : mF hp hp := mF.rf
  refine mm_R.wgv (pc' := 77) (L' := [some ((.ref 86)), some (.int i1), some (.int i2), some (.int i3), some (.int i4)]) (r := [.int i4]) 2 rfl rfl (m_gv R rfl ?_)
  obtain ⟨hi1, H⟩ := H
  refine mm_R.wai (pc' := 81) (L' := [some ((.ref 86)), some (.int i1), some (.int i2), some (.int i3), some (.int i4)]) (r := [.int i4]) (t := 1000) 1 rfl rfl rfl rfl (m_ai (i := i1) R (n := 6) (by decide) hi1 ?_)
  refine mm_R.br (L' := [some ((.ref 86)), some (.int i1), some (.int i2), some (.int i3), some (.int i4)]) (st' := []) (t := 100) (u := 85) (b := mm_cc .ge i4 (mGet σ 107 i1)) 1 rfl (fun c => ?_) (fun c => ?_)
  · replace H := H.1 (of_decide_eq_true c)
    exact H.use R F
  · replace H := H.2 (of_decide_eq_false c)
    refine mm_R.cV (pc' := 91) (L' := [some ((.ref 86)), some (.int i1), some (.int i2), some (.int i3), some (.int i4)]) (st1 := [.int (1 : Int32), .int i2, .int i4, .int i1, (.ref 86)]) (as := [.int i1, .int i4, .int i2, .int (1 : Int32)]) (rest := []) 5 rfl rfl (mw_sp rfl rfl (Nat.le_of_ble_eq_true rfl) (mw_ac rfl (mw_ac rfl (mw_ac rfl (mw_ac rfl (mw_ac rfl mw_an))))) mw_an) rfl rfl (m_rc R rfl) ((H _ R).mono (fun o hp1 H => ?_))
    obtain ⟨σ2, R, F1, rfl, H⟩ := H
    replace F := F.tr F1
    exact mm_R.pn (pc' := 74) (L' := [some ((.ref 86)), some (.int i1), some (.int i2), some (.int i3), some (.int (i4 + (1 : Int32)))]) (st' := []) 2 rfl (H.use R F)
-- StepRunnerModel.end, from 100
set_option maxRecDepth 10000 in
theorem u194_100 {X : List Int32} {d : Nat} {i1 : Int32} {i2 : Int32} {i3 : Int32} {o4 : Option Value} {σ : mS} {Q : Option Value → mS → Prop} (H : (0 ≤ i1 ∧ Int32.toNatClampNeg i1 < 6) ∧ ∀ σ2, σ2 = mPut σ 106 i1 (2 : Int32) → mM X d 142 0 (mm_L0 142 [(.ref 86), .int i2]) [] σ2 (mi_K (fun x4 σ3 => ((¬ x4 = (0 : Int32) → Q none σ3) ∧ (x4 = (0 : Int32) → mM X d 173 0 (mm_L0 173 [(.ref 86), .int i1]) [] σ3 (m0_K (fun σ5 => Q none σ5))))))) : mM X (d + 1) 194 100 [some ((.ref 86)), some (.int i1), some (.int i2), some (.int i3), o4] [] σ Q := by
  intro hp R
  have F : mF hp hp := mF.rf
  refine mm_R.wgv (pc' := 101) (L' := [some ((.ref 86)), some (.int i1), some (.int i2), some (.int i3), o4]) (r := []) 1 rfl rfl (m_gv R rfl ?_)
  obtain ⟨hi1, H⟩ := H
  refine mm_R.wsi (pc' := 106) (L' := [some ((.ref 86)), some (.int i1), some (.int i2), some (.int i3), o4]) (r := []) (t := 1000) (ty := .int) 2 rfl rfl rfl rfl (m_si (i := i1) (v := (2 : Int32)) R F (n := 6) (by decide) hi1 rfl (fun hp R F => ?_))
  obtain ⟨σ2, es⟩ : ∃ z, z = mPut σ 106 i1 (2 : Int32) := ⟨_, rfl⟩
  rw [← es] at R
  replace H := H σ2 es
  refine mm_R.cV (pc' := 109) (L' := [some ((.ref 86)), some (.int i1), some (.int i2), some (.int i3), o4]) (st1 := [.int i2, (.ref 86)]) (as := [.int i2]) (rest := []) 2 rfl rfl (mw_sp rfl rfl (Nat.le_of_ble_eq_true rfl) (mw_ac rfl (mw_ac rfl mw_an)) mw_an) rfl rfl (m_rc R rfl) ((H _ R).mono (fun o hp1 H => ?_))
  obtain ⟨σ3, R, F1, x4, rfl, H⟩ := H
  replace F := F.tr F1
  refine mm_R.br (L' := [some ((.ref 86)), some (.int i1), some (.int i2), some (.int i3), o4]) (st' := []) (t := 120) (u := 115) (b := mm_cc .ne x4 (0 : Int32)) 1 rfl (fun c => ?_) (fun c => ?_)
  · replace H := H.1 (of_decide_eq_true c)
    exact mm_R.rt (pc' := 120) (L' := [some ((.ref 86)), some (.int i1), some (.int i2), some (.int i3), o4]) (st1 := []) 0 rfl rfl rfl rfl rfl rfl ⟨_, R, F, H⟩
  · replace H := H.2 (Decidable.of_not_not (of_decide_eq_false c))
    refine mm_R.cV (pc' := 117) (L' := [some ((.ref 86)), some (.int i1), some (.int i2), some (.int i3), o4]) (st1 := [.int i1, (.ref 86)]) (as := [.int i1]) (rest := []) 2 rfl rfl (mw_sp rfl rfl (Nat.le_of_ble_eq_true rfl) (mw_ac rfl (mw_ac rfl mw_an)) mw_an) rfl rfl (m_rc R rfl) ((H _ R).mono (fun o hp1 H => ?_))
    obtain ⟨σ5, R, F1, rfl, H⟩ := H
    replace F := F.tr F1
    exact mm_R.rt (pc' := 120) (L' := [some ((.ref 86)), some (.int i1), some (.int i2), some (.int i3), o4]) (st1 := []) 0 rfl rfl rfl rfl rfl rfl ⟨_, R, F, H⟩
-- StepRunnerModel.nested, from 0
set_option maxRecDepth 10000 in
theorem u195_0 {X : List Int32} {d : Nat} {i1 : Int32} {i2 : Int32} {i3 : Int32} {σ : mS} {Q : Option Value → mS → Prop} (H : mM X (d + 1) 195 12 [some ((.ref 86)), some (.int i1), some (.int i2), some (.int i3), some (.int (0 : Int32)), some (.int (1 : Int32)), some (.int (1 : Int32)), some (.int (0 : Int32)), none] [] σ Q) : mM X (d + 1) 195 0 (mm_L0 195 [(.ref 86), .int i1, .int i2, .int i3]) [] σ Q := by
  intro hp R
  have F : mF hp hp := mF.rf
  show mm_R X (d + 1) 195 0 [some ((.ref 86)), some (.int i1), some (.int i2), some (.int i3), none, none, none, none, none] [] hp (mQ hp Q)
  exact mm_R.pn (pc' := 12) (L' := [some ((.ref 86)), some (.int i1), some (.int i2), some (.int i3), some (.int (0 : Int32)), some (.int (1 : Int32)), some (.int (1 : Int32)), some (.int (0 : Int32)), none]) (st' := []) 8 rfl (H.use R F)
-- StepRunnerModel.nested, from 12
set_option maxRecDepth 10000 in
theorem u195_12 {X : List Int32} {d : Nat} {i1 : Int32} {i2 : Int32} {i3 : Int32} {i4 : Int32} {i5 : Int32} {i6 : Int32} {i7 : Int32} {o8 : Option Value} {σ : mS} {Q : Option Value → mS → Prop} (H : (((4 : Int32) ≤ i7 → ((¬ i5 = (0 : Int32) → mM X (d + 1) 195 82 [some ((.ref 86)), some (.int i1), some (.int i2), some (.int i3), some (.int i4), some (.int i5), some (.int i6), some (.int i7), o8] [.int (0 : Int32)] σ Q) ∧ (i5 = (0 : Int32) → mM X (d + 1) 195 82 [some ((.ref 86)), some (.int i1), some (.int i2), some (.int i3), some (.int i4), some (.int i5), some (.int i6), some (.int i7), o8] [.int (1 : Int32)] σ Q))) ∧ (¬ (4 : Int32) ≤ i7 → ((¬ ((i2 >>> (i7 &&& 31)) &&& (1 : Int32)) = (1 : Int32) → mM X (d + 1) 195 12 [some ((.ref 86)), some (.int i1), some (.int i2), some (.int i3), some (.int i4), some (.int i5), some (.int i6), some (.int (i7 + (1 : Int32))), o8] [] σ Q) ∧ (((i2 >>> (i7 &&& 31)) &&& (1 : Int32)) = (1 : Int32) → ((i5 ≤ (0 : Int32) → mM X (d + 1) 195 12 [some ((.ref 86)), some (.int i1), some (.int i2), some (.int i3), some (.int i4), some (.int i5), some (.int i6), some (.int (i7 + (1 : Int32))), o8] [] σ Q) ∧ (¬ i5 ≤ (0 : Int32) → (0 ≤ (((4 : Int32) * i1) + i7) ∧ Int32.toNatClampNeg (((4 : Int32) * i1) + i7) < 24) ∧ (((i5 * (mGet σ 112 (((4 : Int32) * i1) + i7))) ≤ (0 : Int32) → mM X (d + 1) 195 12 [some ((.ref 86)), some (.int i1), some (.int i2), some (.int i3), some (.int (i4 + (1 : Int32))), some (.int (i5 * (mGet σ 112 (((4 : Int32) * i1) + i7)))), some (.int i6), some (.int (i7 + (1 : Int32))), o8] [] σ Q) ∧ (¬ (i5 * (mGet σ 112 (((4 : Int32) * i1) + i7))) ≤ (0 : Int32) → mM X (d + 1) 195 12 [some ((.ref 86)), some (.int i1), some (.int i2), some (.int i3), some (.int (i4 + (1 : Int32))), some (.int (i5 * (mGet σ 112 (((4 : Int32) * i1) + i7)))), some (.int (i5 * (mGet σ 112 (((4 : Int32) * i1) + i7)))), some (.int (i7 + (1 : Int32))), o8] [] σ Q))))))))) : mM X (d + 1) 195 12 [some ((.ref 86)), some (.int i1), some (.int i2), some (.int i3), some (.int i4), some (.int i5), some (.int i6), some (.int i7), o8] [] σ Q := by
  intro hp R
  have F : mF hp hp := mF.rf
  refine mm_R.br (L' := [some ((.ref 86)), some (.int i1), some (.int i2), some (.int i3), some (.int i4), some (.int i5), some (.int i6), some (.int i7), o8]) (st' := []) (t := 72) (u := 18) (b := mm_cc .ge i7 (4 : Int32)) 3 rfl (fun c => ?_) (fun c => ?_)
  · replace H := H.1 (of_decide_eq_true c)
    refine mm_R.br (L' := [some ((.ref 86)), some (.int i1), some (.int i2), some (.int i3), some (.int i4), some (.int i5), some (.int i6), some (.int i7), o8]) (st' := []) (t := 81) (u := 77) (b := mm_cc .ne i5 (0 : Int32)) 2 rfl (fun c => ?_) (fun c => ?_)
    · replace H := H.1 (of_decide_eq_true c)
      exact mm_R.pn (pc' := 82) (L' := [some ((.ref 86)), some (.int i1), some (.int i2), some (.int i3), some (.int i4), some (.int i5), some (.int i6), some (.int i7), o8]) (st' := [.int (0 : Int32)]) 1 rfl (H.use R F)
    · replace H := H.2 (Decidable.of_not_not (of_decide_eq_false c))
      exact mm_R.pn (pc' := 82) (L' := [some ((.ref 86)), some (.int i1), some (.int i2), some (.int i3), some (.int i4), some (.int i5), some (.int i6), some (.int i7), o8]) (st' := [.int (1 : Int32)]) 2 rfl (H.use R F)
  · replace H := H.2 (of_decide_eq_false c)
    refine mm_R.br (L' := [some ((.ref 86)), some (.int i1), some (.int i2), some (.int i3), some (.int i4), some (.int i5), some (.int i6), some (.int i7), o8]) (st' := []) (t := 66) (u := 28) (b := mm_cc .ne ((i2 >>> (i7 &&& 31)) &&& (1 : Int32)) (1 : Int32)) 7 rfl (fun c => ?_) (fun c => ?_)
    · replace H := H.1 (of_decide_eq_true c)
      exact mm_R.pn (pc' := 12) (L' := [some ((.ref 86)), some (.int i1), some (.int i2), some (.int i3), some (.int i4), some (.int i5), some (.int i6), some (.int (i7 + (1 : Int32))), o8]) (st' := []) 2 rfl (H.use R F)
    · replace H := H.2 (Decidable.of_not_not (of_decide_eq_false c))
      refine mm_R.br (L' := [some ((.ref 86)), some (.int i1), some (.int i2), some (.int i3), some (.int i4), some (.int i5), some (.int i6), some (.int i7), o8]) (st' := []) (t := 66) (u := 33) (b := mm_cc .le i5 (0 : Int32)) 2 rfl (fun c => ?_) (fun c => ?_)
      · replace H := H.1 (of_decide_eq_true c)
        exact mm_R.pn (pc' := 12) (L' := [some ((.ref 86)), some (.int i1), some (.int i2), some (.int i3), some (.int i4), some (.int i5), some (.int i6), some (.int (i7 + (1 : Int32))), o8]) (st' := []) 2 rfl (H.use R F)
      · replace H := H.2 (of_decide_eq_false c)
        refine mm_R.wgv (pc' := 39) (L' := [some ((.ref 86)), some (.int i1), some (.int i2), some (.int i3), some (.int (i4 + (1 : Int32))), some (.int i5), some (.int i6), some (.int i7), o8]) (r := [.int i5]) 3 rfl rfl (m_gv R rfl ?_)
        obtain ⟨hi1, H⟩ := H
        refine mm_R.wai (pc' := 48) (L' := [some ((.ref 86)), some (.int i1), some (.int i2), some (.int i3), some (.int (i4 + (1 : Int32))), some (.int i5), some (.int i6), some (.int i7), o8]) (r := [.int i5]) (t := 1000) 5 rfl rfl rfl rfl (m_ai (i := (((4 : Int32) * i1) + i7)) R (n := 24) (by decide) hi1 ?_)
        refine mm_R.br (L' := [some ((.ref 86)), some (.int i1), some (.int i2), some (.int i3), some (.int (i4 + (1 : Int32))), some (.int (i5 * (mGet σ 112 (((4 : Int32) * i1) + i7)))), some (.int i6), some (.int i7), o8]) (st' := []) (t := 62) (u := 57) (b := mm_cc .le (i5 * (mGet σ 112 (((4 : Int32) * i1) + i7))) (0 : Int32)) 4 rfl (fun c => ?_) (fun c => ?_)
        · replace H := H.1 (of_decide_eq_true c)
          exact mm_R.pn (pc' := 12) (L' := [some ((.ref 86)), some (.int i1), some (.int i2), some (.int i3), some (.int (i4 + (1 : Int32))), some (.int (i5 * (mGet σ 112 (((4 : Int32) * i1) + i7)))), some (.int i6), some (.int (i7 + (1 : Int32))), o8]) (st' := []) 4 rfl (H.use R F)
        · replace H := H.2 (of_decide_eq_false c)
          exact mm_R.pn (pc' := 12) (L' := [some ((.ref 86)), some (.int i1), some (.int i2), some (.int i3), some (.int (i4 + (1 : Int32))), some (.int (i5 * (mGet σ 112 (((4 : Int32) * i1) + i7)))), some (.int (i5 * (mGet σ 112 (((4 : Int32) * i1) + i7)))), some (.int (i7 + (1 : Int32))), o8]) (st' := []) 5 rfl (H.use R F)
-- StepRunnerModel.nested, from 82
set_option maxRecDepth 10000 in
theorem u195_82 {X : List Int32} {d : Nat} {i1 : Int32} {i2 : Int32} {i3 : Int32} {i4 : Int32} {i5 : Int32} {i6 : Int32} {i7 : Int32} {o8 : Option Value} {s0 : Int32} {σ : mS} {Q : Option Value → mS → Prop} (H : ((i4 ≤ (3 : Int32) → mM X (d + 1) 195 101 [some ((.ref 86)), some (.int i1), some (.int i2), some (.int i3), some (.int i4), some (.int i5), some (.int i6), some (.int s0), some (.int (0 : Int32))] [] σ Q) ∧ (¬ i4 ≤ (3 : Int32) → mM X d 122 0 (mm_L0 122 [(.ref 86), .int i3, .int (3 : Int32), .int (3 : Int32), .int (0 : Int32)]) [] σ (m0_K (fun σ1 => mM X (d + 1) 195 101 [some ((.ref 86)), some (.int i1), some (.int i2), some (.int i3), some (.int i4), some (.int i5), some (.int i6), some (.int s0), some (.int (0 : Int32))] [] σ1 Q))))) : mM X (d + 1) 195 82 [some ((.ref 86)), some (.int i1), some (.int i2), some (.int i3), some (.int i4), some (.int i5), some (.int i6), some (.int i7), o8] [.int s0] σ Q := by
  intro hp R
  have F : mF hp hp := mF.rf
  refine mm_R.br (L' := [some ((.ref 86)), some (.int i1), some (.int i2), some (.int i3), some (.int i4), some (.int i5), some (.int i6), some (.int s0), o8]) (st' := []) (t := 98) (u := 90) (b := mm_cc .le i4 (3 : Int32)) 4 rfl (fun c => ?_) (fun c => ?_)
  · replace H := H.1 (of_decide_eq_true c)
    exact mm_R.pn (pc' := 101) (L' := [some ((.ref 86)), some (.int i1), some (.int i2), some (.int i3), some (.int i4), some (.int i5), some (.int i6), some (.int s0), some (.int (0 : Int32))]) (st' := []) 2 rfl (H.use R F)
  · replace H := H.2 (of_decide_eq_false c)
    refine mm_R.cV (pc' := 95) (L' := [some ((.ref 86)), some (.int i1), some (.int i2), some (.int i3), some (.int i4), some (.int i5), some (.int i6), some (.int s0), o8]) (st1 := [.int (0 : Int32), .int (3 : Int32), .int (3 : Int32), .int i3, (.ref 86)]) (as := [.int i3, .int (3 : Int32), .int (3 : Int32), .int (0 : Int32)]) (rest := []) 5 rfl rfl (mw_sp rfl rfl (Nat.le_of_ble_eq_true rfl) (mw_ac rfl (mw_ac rfl (mw_ac rfl (mw_ac rfl (mw_ac rfl mw_an))))) mw_an) rfl rfl (m_rc R rfl) ((H _ R).mono (fun o hp1 H => ?_))
    obtain ⟨σ1, R, F1, rfl, H⟩ := H
    replace F := F.tr F1
    exact mm_R.pn (pc' := 101) (L' := [some ((.ref 86)), some (.int i1), some (.int i2), some (.int i3), some (.int i4), some (.int i5), some (.int i6), some (.int s0), some (.int (0 : Int32))]) (st' := []) 2 rfl (H.use R F)
-- StepRunnerModel.nested, from 101
set_option maxRecDepth 10000 in
theorem u195_101 {X : List Int32} {d : Nat} {i1 : Int32} {i2 : Int32} {i3 : Int32} {i4 : Int32} {i5 : Int32} {i6 : Int32} {i7 : Int32} {i8 : Int32} {σ : mS} {Q : Option Value → mS → Prop} (H : ((i6 ≤ i8 → Q none σ) ∧ (¬ i6 ≤ i8 → (((3 : Int32) < i4 → Q none σ) ∧ (¬ (3 : Int32) < i4 → ((i7 = (0 : Int32) → mM X (d + 1) 195 134 [some ((.ref 86)), some (.int i1), some (.int i2), some (.int i3), some (.int i4), some (.int i5), some (.int i6), some (.int i7), some (.int i8)] [.int i4, .int i8, .int i3, .int i2, .int i1, (.ref 86)] σ Q) ∧ (¬ i7 = (0 : Int32) → mM X (d + 1) 195 134 [some ((.ref 86)), some (.int i1), some (.int i2), some (.int i3), some (.int i4), some (.int i5), some (.int i6), some (.int i7), some (.int i8)] [.int (i4 - (1 : Int32)), .int i8, .int i3, .int i2, .int i1, (.ref 86)] σ Q))))))) : mM X (d + 1) 195 101 [some ((.ref 86)), some (.int i1), some (.int i2), some (.int i3), some (.int i4), some (.int i5), some (.int i6), some (.int i7), some (.int i8)] [] σ Q := by
  intro hp R
  have F : mF hp hp := mF.rf
  refine mm_R.br (L' := [some ((.ref 86)), some (.int i1), some (.int i2), some (.int i3), some (.int i4), some (.int i5), some (.int i6), some (.int i7), some (.int i8)]) (st' := []) (t := 160) (u := 108) (b := mm_cc .ge i8 i6) 3 rfl (fun c => ?_) (fun c => ?_)
  · replace H := H.1 (of_decide_eq_true c)
    exact mm_R.rt (pc' := 160) (L' := [some ((.ref 86)), some (.int i1), some (.int i2), some (.int i3), some (.int i4), some (.int i5), some (.int i6), some (.int i7), some (.int i8)]) (st1 := []) 0 rfl rfl rfl rfl rfl rfl ⟨_, R, F, H⟩
  · replace H := H.2 (of_decide_eq_false c)
    refine mm_R.br (L' := [some ((.ref 86)), some (.int i1), some (.int i2), some (.int i3), some (.int i4), some (.int i5), some (.int i6), some (.int i7), some (.int i8)]) (st' := []) (t := 160) (u := 114) (b := mm_cc .gt i4 (3 : Int32)) 3 rfl (fun c => ?_) (fun c => ?_)
    · replace H := H.1 (of_decide_eq_true c)
      exact mm_R.rt (pc' := 160) (L' := [some ((.ref 86)), some (.int i1), some (.int i2), some (.int i3), some (.int i4), some (.int i5), some (.int i6), some (.int i7), some (.int i8)]) (st1 := []) 0 rfl rfl rfl rfl rfl rfl ⟨_, R, F, H⟩
    · replace H := H.2 (of_decide_eq_false c)
      refine mm_R.br (L' := [some ((.ref 86)), some (.int i1), some (.int i2), some (.int i3), some (.int i4), some (.int i5), some (.int i6), some (.int i7), some (.int i8)]) (st' := [.int i8, .int i3, .int i2, .int i1, (.ref 86)]) (t := 132) (u := 125) (b := mm_cc .eq i7 (0 : Int32)) 7 rfl (fun c => ?_) (fun c => ?_)
      · replace H := H.1 (of_decide_eq_true c)
        exact mm_R.pn (pc' := 134) (L' := [some ((.ref 86)), some (.int i1), some (.int i2), some (.int i3), some (.int i4), some (.int i5), some (.int i6), some (.int i7), some (.int i8)]) (st' := [.int i4, .int i8, .int i3, .int i2, .int i1, (.ref 86)]) 1 rfl (H.use R F)
      · replace H := H.2 (of_decide_eq_false c)
        exact mm_R.pn (pc' := 134) (L' := [some ((.ref 86)), some (.int i1), some (.int i2), some (.int i3), some (.int i4), some (.int i5), some (.int i6), some (.int i7), some (.int i8)]) (st' := [.int (i4 - (1 : Int32)), .int i8, .int i3, .int i2, .int i1, (.ref 86)]) 4 rfl (H.use R F)
-- StepRunnerModel.nested, from 134
set_option maxRecDepth 10000 in
theorem u195_134 {X : List Int32} {d : Nat} {i1 : Int32} {i2 : Int32} {i3 : Int32} {i4 : Int32} {i5 : Int32} {i6 : Int32} {i7 : Int32} {i8 : Int32} {s0 : Int32} {s1 : Int32} {s2 : Int32} {s3 : Int32} {s4 : Int32} {σ : mS} {Q : Option Value → mS → Prop} (H : mM X d 196 0 (mm_L0 196 [(.ref 86), .int s4, .int s3, .int s2, .int s1, .int s0, .int i4]) [] σ (m0_K (fun σ1 => ((¬ i7 = (0 : Int32) → mM X (d + 1) 195 101 [some ((.ref 86)), some (.int i1), some (.int i2), some (.int i3), some (.int i4), some (.int i5), some (.int i6), some (.int i7), some (.int (i8 + (1 : Int32)))] [] σ1 Q) ∧ (i7 = (0 : Int32) → mM X d 197 0 (mm_L0 197 [(.ref 86), .int i1, .int i8, .int i3, .int i4]) [] σ1 (m0_K (fun σ2 => mM X (d + 1) 195 101 [some ((.ref 86)), some (.int i1), some (.int i2), some (.int i3), some (.int i4), some (.int i5), some (.int i6), some (.int i7), some (.int (i8 + (1 : Int32)))] [] σ2 Q))))))) : mM X (d + 1) 195 134 [some ((.ref 86)), some (.int i1), some (.int i2), some (.int i3), some (.int i4), some (.int i5), some (.int i6), some (.int i7), some (.int i8)] [.int s0, .int s1, .int s2, .int s3, .int s4, (.ref 86)] σ Q := by
  intro hp R
  have F : mF hp hp := mF.rf
  refine mm_R.cV (pc' := 136) (L' := [some ((.ref 86)), some (.int i1), some (.int i2), some (.int i3), some (.int i4), some (.int i5), some (.int i6), some (.int i7), some (.int i8)]) (st1 := [.int i4, .int s0, .int s1, .int s2, .int s3, .int s4, (.ref 86)]) (as := [.int s4, .int s3, .int s2, .int s1, .int s0, .int i4]) (rest := []) 1 rfl rfl (mw_sp rfl rfl (Nat.le_of_ble_eq_true rfl) (mw_ac rfl (mw_ac rfl (mw_ac rfl (mw_ac rfl (mw_ac rfl (mw_ac rfl (mw_ac rfl mw_an))))))) mw_an) rfl rfl (m_rc R rfl) ((H _ R).mono (fun o hp1 H => ?_))
  obtain ⟨σ1, R, F1, rfl, H⟩ := H
  replace F := F.tr F1
  refine mm_R.br (L' := [some ((.ref 86)), some (.int i1), some (.int i2), some (.int i3), some (.int i4), some (.int i5), some (.int i6), some (.int i7), some (.int i8)]) (st' := []) (t := 154) (u := 144) (b := mm_cc .ne i7 (0 : Int32)) 2 rfl (fun c => ?_) (fun c => ?_)
  · replace H := H.1 (of_decide_eq_true c)
    exact mm_R.pn (pc' := 101) (L' := [some ((.ref 86)), some (.int i1), some (.int i2), some (.int i3), some (.int i4), some (.int i5), some (.int i6), some (.int i7), some (.int (i8 + (1 : Int32)))]) (st' := []) 2 rfl (H.use R F)
  · replace H := H.2 (Decidable.of_not_not (of_decide_eq_false c))
    refine mm_R.cV (pc' := 151) (L' := [some ((.ref 86)), some (.int i1), some (.int i2), some (.int i3), some (.int i4), some (.int i5), some (.int i6), some (.int i7), some (.int i8)]) (st1 := [.int i4, .int i3, .int i8, .int i1, (.ref 86)]) (as := [.int i1, .int i8, .int i3, .int i4]) (rest := []) 5 rfl rfl (mw_sp rfl rfl (Nat.le_of_ble_eq_true rfl) (mw_ac rfl (mw_ac rfl (mw_ac rfl (mw_ac rfl (mw_ac rfl mw_an))))) mw_an) rfl rfl (m_rc R rfl) ((H _ R).mono (fun o hp1 H => ?_))
    obtain ⟨σ2, R, F1, rfl, H⟩ := H
    replace F := F.tr F1
    exact mm_R.pn (pc' := 101) (L' := [some ((.ref 86)), some (.int i1), some (.int i2), some (.int i3), some (.int i4), some (.int i5), some (.int i6), some (.int i7), some (.int (i8 + (1 : Int32)))]) (st' := []) 2 rfl (H.use R F)
