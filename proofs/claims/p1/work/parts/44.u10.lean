-- StepRunnerModel.status, from 0
set_option maxRecDepth 10000 in
theorem u202_0 {X : List Int32} {d : Nat}  {σ : mS} {Q : Option Value → mS → Prop} (H : Q (some (.int (σ.1 23))) σ) : mM X (d + 1) 202 0 (mm_L0 202 [(.ref 86)]) [] σ Q := by
  intro hp R
  have F : mF hp hp := mF.rf
  show mm_R X (d + 1) 202 0 [some ((.ref 86))] [] hp (mQ hp Q)
  refine mm_R.wgi (pc' := 1) (L' := [some ((.ref 86))]) (r := []) 1 rfl rfl (m_gi R rfl ?_)
  exact mm_R.rt (pc' := 4) (L' := [some ((.ref 86))]) (st1 := [.int (σ.1 23)]) 0 rfl rfl rfl rfl rfl rfl ⟨_, R, F, H⟩
-- StepRunnerModel.running, from 0
set_option maxRecDepth 10000 in
theorem u203_0 {X : List Int32} {d : Nat}  {σ : mS} {Q : Option Value → mS → Prop} (H : ((¬ (σ.1 23) = (1 : Int32) → Q (some (.int (0 : Int32))) σ) ∧ ((σ.1 23) = (1 : Int32) → Q (some (.int (σ.1 27))) σ))) : mM X (d + 1) 203 0 (mm_L0 203 [(.ref 86)]) [] σ Q := by
  intro hp R
  have F : mF hp hp := mF.rf
  show mm_R X (d + 1) 203 0 [some ((.ref 86))] [] hp (mQ hp Q)
  refine mm_R.wgi (pc' := 1) (L' := [some ((.ref 86))]) (r := []) 1 rfl rfl (m_gi R rfl ?_)
  refine mm_R.br (L' := [some ((.ref 86))]) (st' := []) (t := 15) (u := 8) (b := mm_cc .ne (σ.1 23) (1 : Int32)) 2 rfl (fun c => ?_) (fun c => ?_)
  · replace H := H.1 (of_decide_eq_true c)
    exact mm_R.rt (pc' := 16) (L' := [some ((.ref 86))]) (st1 := [.int (0 : Int32)]) 1 rfl rfl rfl rfl rfl rfl ⟨_, R, F, H⟩
  · replace H := H.2 (Decidable.of_not_not (of_decide_eq_false c))
    refine mm_R.wgi (pc' := 9) (L' := [some ((.ref 86))]) (r := []) 1 rfl rfl (m_gi R rfl ?_)
    exact mm_R.rt (pc' := 16) (L' := [some ((.ref 86))]) (st1 := [.int (σ.1 27)]) 1 rfl rfl rfl rfl rfl rfl ⟨_, R, F, H⟩
-- StepRunnerModel.started, from 0
set_option maxRecDepth 10000 in
theorem u204_0 {X : List Int32} {d : Nat}  {σ : mS} {Q : Option Value → mS → Prop} (H : Q (some (.int (σ.1 26))) σ) : mM X (d + 1) 204 0 (mm_L0 204 [(.ref 86)]) [] σ Q := by
  intro hp R
  have F : mF hp hp := mF.rf
  show mm_R X (d + 1) 204 0 [some ((.ref 86))] [] hp (mQ hp Q)
  refine mm_R.wgi (pc' := 1) (L' := [some ((.ref 86))]) (r := []) 1 rfl rfl (m_gi R rfl ?_)
  exact mm_R.rt (pc' := 4) (L' := [some ((.ref 86))]) (st1 := [.int (σ.1 26)]) 0 rfl rfl rfl rfl rfl rfl ⟨_, R, F, H⟩
-- StepRunnerModel.job, from 0
set_option maxRecDepth 10000 in
theorem u205_0 {X : List Int32} {d : Nat} {i1 : Int32} {i2 : Int32} {σ : mS} {Q : Option Value → mS → Prop} (H : ((i1 < (0 : Int32) → Q (some (.int (-1 : Int32))) σ) ∧ (¬ i1 < (0 : Int32) → (((σ.1 27) ≤ i1 → Q (some (.int (-1 : Int32))) σ) ∧ (¬ (σ.1 27) ≤ i1 → ((i2 < (0 : Int32) → Q (some (.int (-1 : Int32))) σ) ∧ (¬ i2 < (0 : Int32) → ((i2 ≤ (2 : Int32) → ((¬ i2 = (0 : Int32) → ((¬ i2 = (1 : Int32) → (0 ≤ i1 ∧ Int32.toNatClampNeg i1 < 3) ∧ (0 ≤ (mGet σ 111 i1) ∧ Int32.toNatClampNeg (mGet σ 111 i1) < 96) ∧ Q (some (.int (mGet σ 109 (mGet σ 111 i1)))) σ) ∧ (i2 = (1 : Int32) → (0 ≤ i1 ∧ Int32.toNatClampNeg i1 < 3) ∧ Q (some (.int ((mGet σ 111 i1) - (mGet σ 111 i1) / (16 : Int32) * (16 : Int32)))) σ))) ∧ (i2 = (0 : Int32) → (0 ≤ i1 ∧ Int32.toNatClampNeg i1 < 3) ∧ Q (some (.int ((mGet σ 111 i1) / (16 : Int32)))) σ))) ∧ (¬ i2 ≤ (2 : Int32) → Q (some (.int (-1 : Int32))) σ))))))))) : mM X (d + 1) 205 0 (mm_L0 205 [(.ref 86), .int i1, .int i2]) [] σ Q := by
  intro hp R
  have F : mF hp hp := mF.rf
  show mm_R X (d + 1) 205 0 [some ((.ref 86)), some (.int i1), some (.int i2)] [] hp (mQ hp Q)
  refine mm_R.br (L' := [some ((.ref 86)), some (.int i1), some (.int i2)]) (st' := []) (t := 21) (u := 4) (b := mm_cc .lt i1 (0 : Int32)) 2 rfl (fun c => ?_) (fun c => ?_)
  · replace H := H.1 (of_decide_eq_true c)
    exact mm_R.rt (pc' := 22) (L' := [some ((.ref 86)), some (.int i1), some (.int i2)]) (st1 := [.int (-1 : Int32)]) 1 rfl rfl rfl rfl rfl rfl ⟨_, R, F, H⟩
  · replace H := H.2 (of_decide_eq_false c)
    refine mm_R.wgi (pc' := 6) (L' := [some ((.ref 86)), some (.int i1), some (.int i2)]) (r := [.int i1]) 2 rfl rfl (m_gi R rfl ?_)
    refine mm_R.br (L' := [some ((.ref 86)), some (.int i1), some (.int i2)]) (st' := []) (t := 21) (u := 12) (b := mm_cc .ge i1 (σ.1 27)) 1 rfl (fun c => ?_) (fun c => ?_)
    · replace H := H.1 (of_decide_eq_true c)
      exact mm_R.rt (pc' := 22) (L' := [some ((.ref 86)), some (.int i1), some (.int i2)]) (st1 := [.int (-1 : Int32)]) 1 rfl rfl rfl rfl rfl rfl ⟨_, R, F, H⟩
    · replace H := H.2 (of_decide_eq_false c)
      refine mm_R.br (L' := [some ((.ref 86)), some (.int i1), some (.int i2)]) (st' := []) (t := 21) (u := 16) (b := mm_cc .lt i2 (0 : Int32)) 2 rfl (fun c => ?_) (fun c => ?_)
      · replace H := H.1 (of_decide_eq_true c)
        exact mm_R.rt (pc' := 22) (L' := [some ((.ref 86)), some (.int i1), some (.int i2)]) (st1 := [.int (-1 : Int32)]) 1 rfl rfl rfl rfl rfl rfl ⟨_, R, F, H⟩
      · replace H := H.2 (of_decide_eq_false c)
        refine mm_R.br (L' := [some ((.ref 86)), some (.int i1), some (.int i2)]) (st' := []) (t := 23) (u := 21) (b := mm_cc .le i2 (2 : Int32)) 3 rfl (fun c => ?_) (fun c => ?_)
        · replace H := H.1 (of_decide_eq_true c)
          refine mm_R.br (L' := [some ((.ref 86)), some (.int i1), some (.int i2)]) (st' := []) (t := 39) (u := 27) (b := mm_cc .ne i2 (0 : Int32)) 2 rfl (fun c => ?_) (fun c => ?_)
          · replace H := H.1 (of_decide_eq_true c)
            refine mm_R.br (L' := [some ((.ref 86)), some (.int i1), some (.int i2)]) (st' := []) (t := 56) (u := 44) (b := mm_cc .ne i2 (1 : Int32)) 3 rfl (fun c => ?_) (fun c => ?_)
            · replace H := H.1 (of_decide_eq_true c)
              refine mm_R.wgv (pc' := 57) (L' := [some ((.ref 86)), some (.int i1), some (.int i2)]) (r := []) 1 rfl rfl (m_gv R rfl ?_)
              refine mm_R.wgv (pc' := 61) (L' := [some ((.ref 86)), some (.int i1), some (.int i2)]) (r := [(.ref 109)]) 1 rfl rfl (m_gv R rfl ?_)
              obtain ⟨hi1, H⟩ := H
              refine mm_R.wai (pc' := 65) (L' := [some ((.ref 86)), some (.int i1), some (.int i2)]) (r := [(.ref 109)]) (t := 1000) 1 rfl rfl rfl rfl (m_ai (i := i1) R (n := 3) (by decide) hi1 ?_)
              obtain ⟨hi2, H⟩ := H
              refine mm_R.wai (pc' := 66) (L' := [some ((.ref 86)), some (.int i1), some (.int i2)]) (r := []) (t := 1000) 0 rfl rfl rfl rfl (m_ai (i := (mGet σ 111 i1)) R (n := 96) (by decide) hi2 ?_)
              exact mm_R.rt (pc' := 67) (L' := [some ((.ref 86)), some (.int i1), some (.int i2)]) (st1 := [.int (mGet σ 109 (mGet σ 111 i1))]) 0 rfl rfl rfl rfl rfl rfl ⟨_, R, F, H⟩
            · replace H := H.2 (Decidable.of_not_not (of_decide_eq_false c))
              refine mm_R.wgv (pc' := 45) (L' := [some ((.ref 86)), some (.int i1), some (.int i2)]) (r := []) 1 rfl rfl (m_gv R rfl ?_)
              obtain ⟨hi3, H⟩ := H
              refine mm_R.wai (pc' := 49) (L' := [some ((.ref 86)), some (.int i1), some (.int i2)]) (r := []) (t := 1000) 1 rfl rfl rfl rfl (m_ai (i := i1) R (n := 3) (by decide) hi3 ?_)
              exact mm_R.rt (pc' := 67) (L' := [some ((.ref 86)), some (.int i1), some (.int i2)]) (st1 := [.int ((mGet σ 111 i1) - (mGet σ 111 i1) / (16 : Int32) * (16 : Int32))]) 3 rfl rfl rfl rfl rfl rfl ⟨_, R, F, H⟩
          · replace H := H.2 (Decidable.of_not_not (of_decide_eq_false c))
            refine mm_R.wgv (pc' := 28) (L' := [some ((.ref 86)), some (.int i1), some (.int i2)]) (r := []) 1 rfl rfl (m_gv R rfl ?_)
            obtain ⟨hi4, H⟩ := H
            refine mm_R.wai (pc' := 32) (L' := [some ((.ref 86)), some (.int i1), some (.int i2)]) (r := []) (t := 1000) 1 rfl rfl rfl rfl (m_ai (i := i1) R (n := 3) (by decide) hi4 ?_)
            exact mm_R.rt (pc' := 67) (L' := [some ((.ref 86)), some (.int i1), some (.int i2)]) (st1 := [.int ((mGet σ 111 i1) / (16 : Int32))]) 3 rfl rfl rfl rfl rfl rfl ⟨_, R, F, H⟩
        · replace H := H.2 (of_decide_eq_false c)
          exact mm_R.rt (pc' := 22) (L' := [some ((.ref 86)), some (.int i1), some (.int i2)]) (st1 := [.int (-1 : Int32)]) 1 rfl rfl rfl rfl rfl rfl ⟨_, R, F, H⟩
-- StepRunnerModel.word, from 0
set_option maxRecDepth 10000 in
theorem u206_0 {X : List Int32} {d : Nat} {i1 : Int32} {i2 : Int32} {i3 : Int32} {σ : mS} {Q : Option Value → mS → Prop} (H : ((i1 < (0 : Int32) → Q (some (.int (-1 : Int32))) σ) ∧ (¬ i1 < (0 : Int32) → (((σ.1 27) ≤ i1 → Q (some (.int (-1 : Int32))) σ) ∧ (¬ (σ.1 27) ≤ i1 → ((i2 < (0 : Int32) → Q (some (.int (-1 : Int32))) σ) ∧ (¬ i2 < (0 : Int32) → (0 ≤ i1 ∧ Int32.toNatClampNeg i1 < 3) ∧ (0 ≤ (mGet σ 111 i1) ∧ Int32.toNatClampNeg (mGet σ 111 i1) < 96) ∧ (((mGet σ 109 (mGet σ 111 i1)) ≤ i2 → Q (some (.int (-1 : Int32))) σ) ∧ (¬ (mGet σ 109 (mGet σ 111 i1)) ≤ i2 → ((i3 < (0 : Int32) → Q (some (.int (-1 : Int32))) σ) ∧ (¬ i3 < (0 : Int32) → (0 ≤ i1 ∧ Int32.toNatClampNeg i1 < 3) ∧ (0 ≤ (((8 : Int32) * (mGet σ 111 i1)) + i2) ∧ Int32.toNatClampNeg (((8 : Int32) * (mGet σ 111 i1)) + i2) < 768) ∧ ((i3 < (mGet σ 110 (((8 : Int32) * (mGet σ 111 i1)) + i2)) → (0 ≤ i1 ∧ Int32.toNatClampNeg i1 < 3) ∧ mM X d 154 0 (mm_L0 154 [(.ref 86), .int ((((600 : Int32) + ((192 : Int32) * (mGet σ 111 i1))) + ((24 : Int32) * i2)) + i3)]) [] σ (mi_K (fun x7 σ6 => Q (some (.int x7)) σ6))) ∧ (¬ i3 < (mGet σ 110 (((8 : Int32) * (mGet σ 111 i1)) + i2)) → Q (some (.int (-1 : Int32))) σ))))))))))))) : mM X (d + 1) 206 0 (mm_L0 206 [(.ref 86), .int i1, .int i2, .int i3]) [] σ Q := by
  intro hp R
  have F : mF hp hp := mF.rf
  show mm_R X (d + 1) 206 0 [some ((.ref 86)), some (.int i1), some (.int i2), some (.int i3)] [] hp (mQ hp Q)
  refine mm_R.br (L' := [some ((.ref 86)), some (.int i1), some (.int i2), some (.int i3)]) (st' := []) (t := 55) (u := 4) (b := mm_cc .lt i1 (0 : Int32)) 2 rfl (fun c => ?_) (fun c => ?_)
  · replace H := H.1 (of_decide_eq_true c)
    exact mm_R.rt (pc' := 56) (L' := [some ((.ref 86)), some (.int i1), some (.int i2), some (.int i3)]) (st1 := [.int (-1 : Int32)]) 1 rfl rfl rfl rfl rfl rfl ⟨_, R, F, H⟩
  · replace H := H.2 (of_decide_eq_false c)
    refine mm_R.wgi (pc' := 6) (L' := [some ((.ref 86)), some (.int i1), some (.int i2), some (.int i3)]) (r := [.int i1]) 2 rfl rfl (m_gi R rfl ?_)
    refine mm_R.br (L' := [some ((.ref 86)), some (.int i1), some (.int i2), some (.int i3)]) (st' := []) (t := 55) (u := 12) (b := mm_cc .ge i1 (σ.1 27)) 1 rfl (fun c => ?_) (fun c => ?_)
    · replace H := H.1 (of_decide_eq_true c)
      exact mm_R.rt (pc' := 56) (L' := [some ((.ref 86)), some (.int i1), some (.int i2), some (.int i3)]) (st1 := [.int (-1 : Int32)]) 1 rfl rfl rfl rfl rfl rfl ⟨_, R, F, H⟩
    · replace H := H.2 (of_decide_eq_false c)
      refine mm_R.br (L' := [some ((.ref 86)), some (.int i1), some (.int i2), some (.int i3)]) (st' := []) (t := 55) (u := 16) (b := mm_cc .lt i2 (0 : Int32)) 2 rfl (fun c => ?_) (fun c => ?_)
      · replace H := H.1 (of_decide_eq_true c)
        exact mm_R.rt (pc' := 56) (L' := [some ((.ref 86)), some (.int i1), some (.int i2), some (.int i3)]) (st1 := [.int (-1 : Int32)]) 1 rfl rfl rfl rfl rfl rfl ⟨_, R, F, H⟩
      · replace H := H.2 (of_decide_eq_false c)
        refine mm_R.wgv (pc' := 18) (L' := [some ((.ref 86)), some (.int i1), some (.int i2), some (.int i3)]) (r := [.int i2]) 2 rfl rfl (m_gv R rfl ?_)
        refine mm_R.wgv (pc' := 22) (L' := [some ((.ref 86)), some (.int i1), some (.int i2), some (.int i3)]) (r := [(.ref 109), .int i2]) 1 rfl rfl (m_gv R rfl ?_)
        obtain ⟨hi1, H⟩ := H
        refine mm_R.wai (pc' := 26) (L' := [some ((.ref 86)), some (.int i1), some (.int i2), some (.int i3)]) (r := [(.ref 109), .int i2]) (t := 1000) 1 rfl rfl rfl rfl (m_ai (i := i1) R (n := 3) (by decide) hi1 ?_)
        obtain ⟨hi2, H⟩ := H
        refine mm_R.wai (pc' := 27) (L' := [some ((.ref 86)), some (.int i1), some (.int i2), some (.int i3)]) (r := [.int i2]) (t := 1000) 0 rfl rfl rfl rfl (m_ai (i := (mGet σ 111 i1)) R (n := 96) (by decide) hi2 ?_)
        refine mm_R.br (L' := [some ((.ref 86)), some (.int i1), some (.int i2), some (.int i3)]) (st' := []) (t := 55) (u := 31) (b := mm_cc .ge i2 (mGet σ 109 (mGet σ 111 i1))) 1 rfl (fun c => ?_) (fun c => ?_)
        · replace H := H.1 (of_decide_eq_true c)
          exact mm_R.rt (pc' := 56) (L' := [some ((.ref 86)), some (.int i1), some (.int i2), some (.int i3)]) (st1 := [.int (-1 : Int32)]) 1 rfl rfl rfl rfl rfl rfl ⟨_, R, F, H⟩
        · replace H := H.2 (of_decide_eq_false c)
          refine mm_R.br (L' := [some ((.ref 86)), some (.int i1), some (.int i2), some (.int i3)]) (st' := []) (t := 55) (u := 35) (b := mm_cc .lt i3 (0 : Int32)) 2 rfl (fun c => ?_) (fun c => ?_)
          · replace H := H.1 (of_decide_eq_true c)
            exact mm_R.rt (pc' := 56) (L' := [some ((.ref 86)), some (.int i1), some (.int i2), some (.int i3)]) (st1 := [.int (-1 : Int32)]) 1 rfl rfl rfl rfl rfl rfl ⟨_, R, F, H⟩
          · replace H := H.2 (of_decide_eq_false c)
            refine mm_R.wgv (pc' := 37) (L' := [some ((.ref 86)), some (.int i1), some (.int i2), some (.int i3)]) (r := [.int i3]) 2 rfl rfl (m_gv R rfl ?_)
            refine mm_R.wgv (pc' := 43) (L' := [some ((.ref 86)), some (.int i1), some (.int i2), some (.int i3)]) (r := [.int (8 : Int32), (.ref 110), .int i3]) 2 rfl rfl (m_gv R rfl ?_)
            obtain ⟨hi3, H⟩ := H
            refine mm_R.wai (pc' := 47) (L' := [some ((.ref 86)), some (.int i1), some (.int i2), some (.int i3)]) (r := [.int (8 : Int32), (.ref 110), .int i3]) (t := 1000) 1 rfl rfl rfl rfl (m_ai (i := i1) R (n := 3) (by decide) hi3 ?_)
            obtain ⟨hi4, H⟩ := H
            refine mm_R.wai (pc' := 51) (L' := [some ((.ref 86)), some (.int i1), some (.int i2), some (.int i3)]) (r := [.int i3]) (t := 1000) 3 rfl rfl rfl rfl (m_ai (i := (((8 : Int32) * (mGet σ 111 i1)) + i2)) R (n := 768) (by decide) hi4 ?_)
            refine mm_R.br (L' := [some ((.ref 86)), some (.int i1), some (.int i2), some (.int i3)]) (st' := []) (t := 57) (u := 55) (b := mm_cc .lt i3 (mGet σ 110 (((8 : Int32) * (mGet σ 111 i1)) + i2))) 1 rfl (fun c => ?_) (fun c => ?_)
            · replace H := H.1 (of_decide_eq_true c)
              refine mm_R.wgv (pc' := 65) (L' := [some ((.ref 86)), some (.int i1), some (.int i2), some (.int i3)]) (r := [.int (192 : Int32), .int (600 : Int32), (.ref 86)]) 4 rfl rfl (m_gv R rfl ?_)
              obtain ⟨hi5, H⟩ := H
              refine mm_R.wai (pc' := 69) (L' := [some ((.ref 86)), some (.int i1), some (.int i2), some (.int i3)]) (r := [.int (192 : Int32), .int (600 : Int32), (.ref 86)]) (t := 1000) 1 rfl rfl rfl rfl (m_ai (i := i1) R (n := 3) (by decide) hi5 ?_)
              refine mm_R.cV (pc' := 79) (L' := [some ((.ref 86)), some (.int i1), some (.int i2), some (.int i3)]) (st1 := [.int ((((600 : Int32) + ((192 : Int32) * (mGet σ 111 i1))) + ((24 : Int32) * i2)) + i3), (.ref 86)]) (as := [.int ((((600 : Int32) + ((192 : Int32) * (mGet σ 111 i1))) + ((24 : Int32) * i2)) + i3)]) (rest := []) 8 rfl rfl (mw_sp rfl rfl (Nat.le_of_ble_eq_true rfl) (mw_ac rfl (mw_ac rfl mw_an)) mw_an) rfl rfl (m_rc R rfl) ((H _ R).mono (fun o hp1 H => ?_))
              obtain ⟨σ6, R, F1, x7, rfl, H⟩ := H
              replace F := F.tr F1
              exact mm_R.rt (pc' := 82) (L' := [some ((.ref 86)), some (.int i1), some (.int i2), some (.int i3)]) (st1 := [.int x7]) 0 rfl rfl rfl rfl rfl rfl ⟨_, R, F, H⟩
            · replace H := H.2 (of_decide_eq_false c)
              exact mm_R.rt (pc' := 56) (L' := [some ((.ref 86)), some (.int i1), some (.int i2), some (.int i3)]) (st1 := [.int (-1 : Int32)]) 1 rfl rfl rfl rfl rfl rfl ⟨_, R, F, H⟩
-- StepRunnerModel.state, from 0
set_option maxRecDepth 10000 in
theorem u207_0 {X : List Int32} {d : Nat} {i1 : Int32} {σ : mS} {Q : Option Value → mS → Prop} (H : (((σ.1 23) = (0 : Int32) → Q (some (.int (-1 : Int32))) σ) ∧ (¬ (σ.1 23) = (0 : Int32) → mM X d 131 0 (mm_L0 131 [(.ref 86), .int i1]) [] σ (mi_K (fun x2 σ1 => ((¬ x2 = (0 : Int32) → (((σ1.1 25) ≤ i1 → Q (some (.int (0 : Int32))) σ1) ∧ (¬ (σ1.1 25) ≤ i1 → (0 ≤ i1 ∧ Int32.toNatClampNeg i1 < 6) ∧ Q (some (.int (mGet σ1 106 i1))) σ1))) ∧ (x2 = (0 : Int32) → Q (some (.int (-1 : Int32))) σ1))))))) : mM X (d + 1) 207 0 (mm_L0 207 [(.ref 86), .int i1]) [] σ Q := by
  intro hp R
  have F : mF hp hp := mF.rf
  show mm_R X (d + 1) 207 0 [some ((.ref 86)), some (.int i1)] [] hp (mQ hp Q)
  refine mm_R.wgi (pc' := 1) (L' := [some ((.ref 86)), some (.int i1)]) (r := []) 1 rfl rfl (m_gi R rfl ?_)
  refine mm_R.br (L' := [some ((.ref 86)), some (.int i1)]) (st' := []) (t := 15) (u := 7) (b := mm_cc .eq (σ.1 23) (0 : Int32)) 1 rfl (fun c => ?_) (fun c => ?_)
  · replace H := H.1 (of_decide_eq_true c)
    exact mm_R.rt (pc' := 37) (L' := [some ((.ref 86)), some (.int i1)]) (st1 := [.int (-1 : Int32)]) 2 rfl rfl rfl rfl rfl rfl ⟨_, R, F, H⟩
  · replace H := H.2 (of_decide_eq_false c)
    refine mm_R.cV (pc' := 9) (L' := [some ((.ref 86)), some (.int i1)]) (st1 := [.int i1, (.ref 86)]) (as := [.int i1]) (rest := []) 2 rfl rfl (mw_sp rfl rfl (Nat.le_of_ble_eq_true rfl) (mw_ac rfl (mw_ac rfl mw_an)) mw_an) rfl rfl (m_rc R rfl) ((H _ R).mono (fun o hp1 H => ?_))
    obtain ⟨σ1, R, F1, x2, rfl, H⟩ := H
    replace F := F.tr F1
    refine mm_R.br (L' := [some ((.ref 86)), some (.int i1)]) (st' := []) (t := 19) (u := 15) (b := mm_cc .ne x2 (0 : Int32)) 1 rfl (fun c => ?_) (fun c => ?_)
    · replace H := H.1 (of_decide_eq_true c)
      refine mm_R.wgi (pc' := 21) (L' := [some ((.ref 86)), some (.int i1)]) (r := [.int i1]) 2 rfl rfl (m_gi R rfl ?_)
      refine mm_R.br (L' := [some ((.ref 86)), some (.int i1)]) (st' := []) (t := 36) (u := 27) (b := mm_cc .ge i1 (σ1.1 25)) 1 rfl (fun c => ?_) (fun c => ?_)
      · replace H := H.1 (of_decide_eq_true c)
        exact mm_R.rt (pc' := 37) (L' := [some ((.ref 86)), some (.int i1)]) (st1 := [.int (0 : Int32)]) 1 rfl rfl rfl rfl rfl rfl ⟨_, R, F, H⟩
      · replace H := H.2 (of_decide_eq_false c)
        refine mm_R.wgv (pc' := 28) (L' := [some ((.ref 86)), some (.int i1)]) (r := []) 1 rfl rfl (m_gv R rfl ?_)
        obtain ⟨hi3, H⟩ := H
        refine mm_R.wai (pc' := 32) (L' := [some ((.ref 86)), some (.int i1)]) (r := []) (t := 1000) 1 rfl rfl rfl rfl (m_ai (i := i1) R (n := 6) (by decide) hi3 ?_)
        exact mm_R.rt (pc' := 37) (L' := [some ((.ref 86)), some (.int i1)]) (st1 := [.int (mGet σ1 106 i1)]) 1 rfl rfl rfl rfl rfl rfl ⟨_, R, F, H⟩
    · replace H := H.2 (Decidable.of_not_not (of_decide_eq_false c))
      exact mm_R.rt (pc' := 37) (L' := [some ((.ref 86)), some (.int i1)]) (st1 := [.int (-1 : Int32)]) 2 rfl rfl rfl rfl rfl rfl ⟨_, R, F, H⟩
-- StepRunnerModel.output, from 0
set_option maxRecDepth 10000 in
theorem u208_0 {X : List Int32} {d : Nat} {i1 : Int32} {i2 : Int32} {σ : mS} {Q : Option Value → mS → Prop} (H : mM X d 207 0 (mm_L0 207 [(.ref 86), .int i1]) [] σ (mi_K (fun x2 σ1 => ((¬ x2 = (2 : Int32) → Q (some (.int (-1 : Int32))) σ1) ∧ (x2 = (2 : Int32) → (((0 : Int32) ≤ i2 → ∀ σ3, σ3 = mSet σ1 44 (1 : Int32) → ∀ σ4, σ4 = mSet σ3 40 (0 : Int32) → ∀ σ5, σ5 = mSet σ4 41 i2 → ∀ σ6, σ6 = mSet σ5 42 (-1 : Int32) → ∀ σ7, σ7 = mSet σ6 43 (1 : Int32) → mM X d 123 0 (mm_L0 123 [.int ((123 : Int32) + i1)]) [] σ7 (mi_K (fun x9 σ8 => mM X d 143 0 (mm_L0 143 [(.ref 86), .int ((123 : Int32) + i1)]) [] σ8 (mi_K (fun x11 σ10 => mM X d 185 0 (mm_L0 185 [(.ref 86), .int x9, .int x11]) [] σ10 (m0_K (fun σ12 => ∀ σ13, σ13 = mSet σ12 44 (0 : Int32) → Q (some (.int (σ13.1 42))) σ13))))))) ∧ (¬ (0 : Int32) ≤ i2 → Q (some (.int (-1 : Int32))) σ1))))))) : mM X (d + 1) 208 0 (mm_L0 208 [(.ref 86), .int i1, .int i2]) [] σ Q := by
  intro hp R
  have F : mF hp hp := mF.rf
  show mm_R X (d + 1) 208 0 [some ((.ref 86)), some (.int i1), some (.int i2)] [] hp (mQ hp Q)
  refine mm_R.cV (pc' := 2) (L' := [some ((.ref 86)), some (.int i1), some (.int i2)]) (st1 := [.int i1, (.ref 86)]) (as := [.int i1]) (rest := []) 2 rfl rfl (mw_sp rfl rfl (Nat.le_of_ble_eq_true rfl) (mw_ac rfl (mw_ac rfl mw_an)) mw_an) rfl rfl (m_rc R rfl) ((H _ R).mono (fun o hp1 H => ?_))
  obtain ⟨σ1, R, F1, x2, rfl, H⟩ := H
  replace F := F.tr F1
  refine mm_R.br (L' := [some ((.ref 86)), some (.int i1), some (.int i2)]) (st' := []) (t := 13) (u := 9) (b := mm_cc .ne x2 (2 : Int32)) 2 rfl (fun c => ?_) (fun c => ?_)
  · replace H := H.1 (of_decide_eq_true c)
    exact mm_R.rt (pc' := 14) (L' := [some ((.ref 86)), some (.int i1), some (.int i2)]) (st1 := [.int (-1 : Int32)]) 1 rfl rfl rfl rfl rfl rfl ⟨_, R, F, H⟩
  · replace H := H.2 (Decidable.of_not_not (of_decide_eq_false c))
    refine mm_R.br (L' := [some ((.ref 86)), some (.int i1), some (.int i2)]) (st' := []) (t := 15) (u := 13) (b := mm_cc .ge i2 (0 : Int32)) 2 rfl (fun c => ?_) (fun c => ?_)
    · replace H := H.1 (of_decide_eq_true c)
      refine mm_R.wpt (pc' := 17) (L' := [some ((.ref 86)), some (.int i1), some (.int i2)]) (r := []) 2 rfl rfl (m_pt (v := (1 : Int32)) R F rfl rfl rfl (fun hp R F => ?_))
      obtain ⟨σ3, es⟩ : ∃ z, z = mSet σ1 44 (1 : Int32) := ⟨_, rfl⟩
      rw [← es] at R
      replace H := H σ3 es
      refine mm_R.wpt (pc' := 22) (L' := [some ((.ref 86)), some (.int i1), some (.int i2)]) (r := []) 2 rfl rfl (m_pt (v := (0 : Int32)) R F rfl rfl rfl (fun hp R F => ?_))
      obtain ⟨σ4, es⟩ : ∃ z, z = mSet σ3 40 (0 : Int32) := ⟨_, rfl⟩
      rw [← es] at R
      replace H := H σ4 es
      refine mm_R.wpt (pc' := 27) (L' := [some ((.ref 86)), some (.int i1), some (.int i2)]) (r := []) 2 rfl rfl (m_pt (v := i2) R F rfl rfl rfl (fun hp R F => ?_))
      obtain ⟨σ5, es⟩ : ∃ z, z = mSet σ4 41 i2 := ⟨_, rfl⟩
      rw [← es] at R
      replace H := H σ5 es
      refine mm_R.wpt (pc' := 32) (L' := [some ((.ref 86)), some (.int i1), some (.int i2)]) (r := []) 2 rfl rfl (m_pt (v := (-1 : Int32)) R F rfl rfl rfl (fun hp R F => ?_))
      obtain ⟨σ6, es⟩ : ∃ z, z = mSet σ5 42 (-1 : Int32) := ⟨_, rfl⟩
      rw [← es] at R
      replace H := H σ6 es
      refine mm_R.wpt (pc' := 37) (L' := [some ((.ref 86)), some (.int i1), some (.int i2)]) (r := []) 2 rfl rfl (m_pt (v := (1 : Int32)) R F rfl rfl rfl (fun hp R F => ?_))
      obtain ⟨σ7, es⟩ : ∃ z, z = mSet σ6 43 (1 : Int32) := ⟨_, rfl⟩
      rw [← es] at R
      replace H := H σ7 es
      refine mm_R.cS (pc' := 45) (L' := [some ((.ref 86)), some (.int i1), some (.int i2)]) (st1 := [.int ((123 : Int32) + i1), (.ref 86)]) (as := [.int ((123 : Int32) + i1)]) (rest := [(.ref 86)]) 4 rfl rfl (mw_sp rfl rfl (Nat.le_of_ble_eq_true rfl) (mw_ac rfl mw_an) (mw_ac rfl mw_an)) rfl rfl ((H _ R).mono (fun o hp1 H => ?_))
      obtain ⟨σ8, R, F1, x9, rfl, H⟩ := H
      replace F := F.tr F1
      refine mm_R.cV (pc' := 53) (L' := [some ((.ref 86)), some (.int i1), some (.int i2)]) (st1 := [.int ((123 : Int32) + i1), (.ref 86), .int x9, (.ref 86)]) (as := [.int ((123 : Int32) + i1)]) (rest := [.int x9, (.ref 86)]) 4 rfl rfl (mw_sp rfl rfl (Nat.le_of_ble_eq_true rfl) (mw_ac rfl (mw_ac rfl mw_an)) (mw_ac rfl (mw_ac rfl mw_an))) rfl rfl (m_rc R rfl) ((H _ R).mono (fun o hp1 H => ?_))
      obtain ⟨σ10, R, F1, x11, rfl, H⟩ := H
      replace F := F.tr F1
      refine mm_R.cV (pc' := 56) (L' := [some ((.ref 86)), some (.int i1), some (.int i2)]) (st1 := [.int x11, .int x9, (.ref 86)]) (as := [.int x9, .int x11]) (rest := []) 0 rfl rfl (mw_sp rfl rfl (Nat.le_of_ble_eq_true rfl) (mw_ac rfl (mw_ac rfl (mw_ac rfl mw_an))) mw_an) rfl rfl (m_rc R rfl) ((H _ R).mono (fun o hp1 H => ?_))
      obtain ⟨σ12, R, F1, rfl, H⟩ := H
      replace F := F.tr F1
      refine mm_R.wpt (pc' := 61) (L' := [some ((.ref 86)), some (.int i1), some (.int i2)]) (r := []) 2 rfl rfl (m_pt (v := (0 : Int32)) R F rfl rfl rfl (fun hp R F => ?_))
      obtain ⟨σ13, es⟩ : ∃ z, z = mSet σ12 44 (0 : Int32) := ⟨_, rfl⟩
      rw [← es] at R
      replace H := H σ13 es
      refine mm_R.wgi (pc' := 65) (L' := [some ((.ref 86)), some (.int i1), some (.int i2)]) (r := []) 1 rfl rfl (m_gi R rfl ?_)
      exact mm_R.rt (pc' := 68) (L' := [some ((.ref 86)), some (.int i1), some (.int i2)]) (st1 := [.int (σ13.1 42)]) 0 rfl rfl rfl rfl rfl rfl ⟨_, R, F, H⟩
    · replace H := H.2 (of_decide_eq_false c)
      exact mm_R.rt (pc' := 14) (L' := [some ((.ref 86)), some (.int i1), some (.int i2)]) (st1 := [.int (-1 : Int32)]) 1 rfl rfl rfl rfl rfl rfl ⟨_, R, F, H⟩
