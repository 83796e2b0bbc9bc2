-- StepRunnerModel.heads, from 0
set_option maxRecDepth 10000 in
theorem u196_0 {X : List Int32} {d : Nat} {i1 : Int32} {i2 : Int32} {i3 : Int32} {i4 : Int32} {i5 : Int32} {i6 : Int32} {σ : mS} {Q : Option Value → mS → Prop} (H : mM X (d + 1) 196 3 [some ((.ref 86)), some (.int i1), some (.int i2), some (.int i3), some (.int i4), some (.int i5), some (.int i6), some (.int (0 : Int32)), none, none, none] [] σ Q) : mM X (d + 1) 196 0 (mm_L0 196 [(.ref 86), .int i1, .int i2, .int i3, .int i4, .int i5, .int i6]) [] σ Q := by
  intro hp R
  have F : mF hp hp := mF.rf
  show mm_R X (d + 1) 196 0 [some ((.ref 86)), some (.int i1), some (.int i2), some (.int i3), some (.int i4), some (.int i5), some (.int i6), none, none, none, none] [] hp (mQ hp Q)
  exact mm_R.pn (pc' := 3) (L' := [some ((.ref 86)), some (.int i1), some (.int i2), some (.int i3), some (.int i4), some (.int i5), some (.int i6), some (.int (0 : Int32)), none, none, none]) (st' := []) 2 rfl (H.use R F)
-- StepRunnerModel.heads, from 3
set_option maxRecDepth 10000 in
theorem u196_3 {X : List Int32} {d : Nat} {i1 : Int32} {i2 : Int32} {i3 : Int32} {i4 : Int32} {i5 : Int32} {i6 : Int32} {i7 : Int32} {o8 : Option Value} {o9 : Option Value} {o10 : Option Value} {σ : mS} {Q : Option Value → mS → Prop} (H : ((i6 ≤ i7 → Q none σ) ∧ (¬ i6 ≤ i7 → mM X (d + 1) 196 19 [some ((.ref 86)), some (.int i1), some (.int i2), some (.int i3), some (.int i4), some (.int i5), some (.int i6), some (.int i7), some (.int (1 : Int32)), some (.int (0 : Int32)), some (.int (0 : Int32))] [] σ Q))) : mM X (d + 1) 196 3 [some ((.ref 86)), some (.int i1), some (.int i2), some (.int i3), some (.int i4), some (.int i5), some (.int i6), some (.int i7), o8, o9, o10] [] σ Q := by
  intro hp R
  have F : mF hp hp := mF.rf
  refine mm_R.br (L' := [some ((.ref 86)), some (.int i1), some (.int i2), some (.int i3), some (.int i4), some (.int i5), some (.int i6), some (.int i7), o8, o9, o10]) (st' := []) (t := 102) (u := 10) (b := mm_cc .ge i7 i6) 3 rfl (fun c => ?_) (fun c => ?_)
  · replace H := H.1 (of_decide_eq_true c)
    exact mm_R.rt (pc' := 102) (L' := [some ((.ref 86)), some (.int i1), some (.int i2), some (.int i3), some (.int i4), some (.int i5), some (.int i6), some (.int i7), o8, o9, o10]) (st1 := []) 0 rfl rfl rfl rfl rfl rfl ⟨_, R, F, H⟩
  · replace H := H.2 (of_decide_eq_false c)
    exact mm_R.pn (pc' := 19) (L' := [some ((.ref 86)), some (.int i1), some (.int i2), some (.int i3), some (.int i4), some (.int i5), some (.int i6), some (.int i7), some (.int (1 : Int32)), some (.int (0 : Int32)), some (.int (0 : Int32))]) (st' := []) 6 rfl (H.use R F)
-- StepRunnerModel.heads, from 19
set_option maxRecDepth 10000 in
theorem u196_19 {X : List Int32} {d : Nat} {i1 : Int32} {i2 : Int32} {i3 : Int32} {i4 : Int32} {i5 : Int32} {i6 : Int32} {i7 : Int32} {i8 : Int32} {i9 : Int32} {i10 : Int32} {σ : mS} {Q : Option Value → mS → Prop} (H : (((4 : Int32) ≤ i10 → ¬ i8 = (0 : Int32) ∧ (((¬ (i4 - i4 / i8 * i8) = (0 : Int32) → mM X (d + 1) 196 3 [some ((.ref 86)), some (.int i1), some (.int i2), some (.int i3), some (.int i4), some (.int i5), some (.int i6), some (.int (i7 + (1 : Int32))), some (.int i8), some (.int i9), some (.int i10)] [] σ Q) ∧ ((i4 - i4 / i8 * i8) = (0 : Int32) → mM X d 122 0 (mm_L0 122 [(.ref 86), .int i3, .int (3 : Int32), .int i7, .int (0 : Int32)]) [] σ (m0_K (fun σ1 => mM X (d + 1) 196 3 [some ((.ref 86)), some (.int i1), some (.int i2), some (.int i3), some (.int i4), some (.int i5), some (.int i6), some (.int (i7 + (1 : Int32))), some (.int i8), some (.int i9), some (.int i10)] [] σ1 Q)))))) ∧ (¬ (4 : Int32) ≤ i10 → ((¬ ((i2 >>> (i10 &&& 31)) &&& (1 : Int32)) = (1 : Int32) → mM X (d + 1) 196 19 [some ((.ref 86)), some (.int i1), some (.int i2), some (.int i3), some (.int i4), some (.int i5), some (.int i6), some (.int i7), some (.int i8), some (.int i9), some (.int (i10 + (1 : Int32)))] [] σ Q) ∧ (((i2 >>> (i10 &&& 31)) &&& (1 : Int32)) = (1 : Int32) → ((i9 < i7 → mM X (d + 1) 196 19 [some ((.ref 86)), some (.int i1), some (.int i2), some (.int i3), some (.int i4), some (.int i5), some (.int i6), some (.int i7), some (.int i8), some (.int (i9 + (1 : Int32))), some (.int (i10 + (1 : Int32)))] [] σ Q) ∧ (¬ i9 < i7 → ((i5 ≤ i9 → mM X (d + 1) 196 19 [some ((.ref 86)), some (.int i1), some (.int i2), some (.int i3), some (.int i4), some (.int i5), some (.int i6), some (.int i7), some (.int i8), some (.int (i9 + (1 : Int32))), some (.int (i10 + (1 : Int32)))] [] σ Q) ∧ (¬ i5 ≤ i9 → (0 ≤ (((4 : Int32) * i1) + i10) ∧ Int32.toNatClampNeg (((4 : Int32) * i1) + i10) < 24) ∧ mM X (d + 1) 196 19 [some ((.ref 86)), some (.int i1), some (.int i2), some (.int i3), some (.int i4), some (.int i5), some (.int i6), some (.int i7), some (.int (i8 * (mGet σ 112 (((4 : Int32) * i1) + i10)))), some (.int (i9 + (1 : Int32))), some (.int (i10 + (1 : Int32)))] [] σ Q))))))))) : mM X (d + 1) 196 19 [some ((.ref 86)), some (.int i1), some (.int i2), some (.int i3), some (.int i4), some (.int i5), some (.int i6), some (.int i7), some (.int i8), some (.int i9), some (.int i10)] [] σ Q := by
  intro hp R
  have F : mF hp hp := mF.rf
  refine mm_R.br (L' := [some ((.ref 86)), some (.int i1), some (.int i2), some (.int i3), some (.int i4), some (.int i5), some (.int i6), some (.int i7), some (.int i8), some (.int i9), some (.int i10)]) (st' := []) (t := 79) (u := 25) (b := mm_cc .ge i10 (4 : Int32)) 3 rfl (fun c => ?_) (fun c => ?_)
  · replace H := H.1 (of_decide_eq_true c)
    obtain ⟨hz2, H⟩ := H
    refine mm_R.dv (pc' := 83) (L' := [some ((.ref 86)), some (.int i1), some (.int i2), some (.int i3), some (.int i4), some (.int i5), some (.int i6), some (.int i7), some (.int i8), some (.int i9), some (.int i10)]) (r := []) (x := i4) (y := i8) (f := fun x y => x - x / y * y) 2 rfl rfl rfl hz2 ?_
    refine mm_R.br (L' := [some ((.ref 86)), some (.int i1), some (.int i2), some (.int i3), some (.int i4), some (.int i5), some (.int i6), some (.int i7), some (.int i8), some (.int i9), some (.int i10)]) (st' := []) (t := 96) (u := 87) (b := mm_cc .ne (i4 - i4 / i8 * i8) (0 : Int32)) 1 rfl (fun c => ?_) (fun c => ?_)
    · replace H := H.1 (of_decide_eq_true c)
      exact mm_R.pn (pc' := 3) (L' := [some ((.ref 86)), some (.int i1), some (.int i2), some (.int i3), some (.int i4), some (.int i5), some (.int i6), some (.int (i7 + (1 : Int32))), some (.int i8), some (.int i9), some (.int i10)]) (st' := []) 2 rfl (H.use R F)
    · replace H := H.2 (Decidable.of_not_not (of_decide_eq_false c))
      refine mm_R.cV (pc' := 93) (L' := [some ((.ref 86)), some (.int i1), some (.int i2), some (.int i3), some (.int i4), some (.int i5), some (.int i6), some (.int i7), some (.int i8), some (.int i9), some (.int i10)]) (st1 := [.int (0 : Int32), .int i7, .int (3 : Int32), .int i3, (.ref 86)]) (as := [.int i3, .int (3 : Int32), .int i7, .int (0 : Int32)]) (rest := []) 5 rfl rfl (mw_sp rfl rfl (Nat.le_of_ble_eq_true rfl) (mw_ac rfl (mw_ac rfl (mw_ac rfl (mw_ac rfl (mw_ac rfl mw_an))))) mw_an) rfl rfl (m_rc R rfl) ((H _ R).mono (fun o hp1 H => ?_))
      obtain ⟨σ1, R, F1, rfl, H⟩ := H
      replace F := F.tr F1
      exact mm_R.pn (pc' := 3) (L' := [some ((.ref 86)), some (.int i1), some (.int i2), some (.int i3), some (.int i4), some (.int i5), some (.int i6), some (.int (i7 + (1 : Int32))), some (.int i8), some (.int i9), some (.int i10)]) (st' := []) 2 rfl (H.use R F)
  · replace H := H.2 (of_decide_eq_false c)
    refine mm_R.br (L' := [some ((.ref 86)), some (.int i1), some (.int i2), some (.int i3), some (.int i4), some (.int i5), some (.int i6), some (.int i7), some (.int i8), some (.int i9), some (.int i10)]) (st' := []) (t := 73) (u := 35) (b := mm_cc .ne ((i2 >>> (i10 &&& 31)) &&& (1 : Int32)) (1 : Int32)) 7 rfl (fun c => ?_) (fun c => ?_)
    · replace H := H.1 (of_decide_eq_true c)
      exact mm_R.pn (pc' := 19) (L' := [some ((.ref 86)), some (.int i1), some (.int i2), some (.int i3), some (.int i4), some (.int i5), some (.int i6), some (.int i7), some (.int i8), some (.int i9), some (.int (i10 + (1 : Int32)))]) (st' := []) 2 rfl (H.use R F)
    · replace H := H.2 (Decidable.of_not_not (of_decide_eq_false c))
      refine mm_R.br (L' := [some ((.ref 86)), some (.int i1), some (.int i2), some (.int i3), some (.int i4), some (.int i5), some (.int i6), some (.int i7), some (.int i8), some (.int i9), some (.int i10)]) (st' := []) (t := 66) (u := 42) (b := mm_cc .lt i9 i7) 3 rfl (fun c => ?_) (fun c => ?_)
      · replace H := H.1 (of_decide_eq_true c)
        exact mm_R.pn (pc' := 19) (L' := [some ((.ref 86)), some (.int i1), some (.int i2), some (.int i3), some (.int i4), some (.int i5), some (.int i6), some (.int i7), some (.int i8), some (.int (i9 + (1 : Int32))), some (.int (i10 + (1 : Int32)))]) (st' := []) 5 rfl (H.use R F)
      · replace H := H.2 (of_decide_eq_false c)
        refine mm_R.br (L' := [some ((.ref 86)), some (.int i1), some (.int i2), some (.int i3), some (.int i4), some (.int i5), some (.int i6), some (.int i7), some (.int i8), some (.int i9), some (.int i10)]) (st' := []) (t := 66) (u := 49) (b := mm_cc .ge i9 i5) 3 rfl (fun c => ?_) (fun c => ?_)
        · replace H := H.1 (of_decide_eq_true c)
          exact mm_R.pn (pc' := 19) (L' := [some ((.ref 86)), some (.int i1), some (.int i2), some (.int i3), some (.int i4), some (.int i5), some (.int i6), some (.int i7), some (.int i8), some (.int (i9 + (1 : Int32))), some (.int (i10 + (1 : Int32)))]) (st' := []) 5 rfl (H.use R F)
        · replace H := H.2 (of_decide_eq_false c)
          refine mm_R.wgv (pc' := 52) (L' := [some ((.ref 86)), some (.int i1), some (.int i2), some (.int i3), some (.int i4), some (.int i5), some (.int i6), some (.int i7), some (.int i8), some (.int i9), some (.int i10)]) (r := [.int i8]) 2 rfl rfl (m_gv R rfl ?_)
          obtain ⟨hi3, H⟩ := H
          refine mm_R.wai (pc' := 61) (L' := [some ((.ref 86)), some (.int i1), some (.int i2), some (.int i3), some (.int i4), some (.int i5), some (.int i6), some (.int i7), some (.int i8), some (.int i9), some (.int i10)]) (r := [.int i8]) (t := 1000) 5 rfl rfl rfl rfl (m_ai (i := (((4 : Int32) * i1) + i10)) R (n := 24) (by decide) hi3 ?_)
          exact mm_R.pn (pc' := 19) (L' := [some ((.ref 86)), some (.int i1), some (.int i2), some (.int i3), some (.int i4), some (.int i5), some (.int i6), some (.int i7), some (.int (i8 * (mGet σ 112 (((4 : Int32) * i1) + i10)))), some (.int (i9 + (1 : Int32))), some (.int (i10 + (1 : Int32)))]) (st' := []) 6 rfl (H.use R F)
-- StepRunnerModel.result, from 0
set_option maxRecDepth 10000 in
theorem u197_0 {X : List Int32} {d : Nat} {i1 : Int32} {i2 : Int32} {i3 : Int32} {i4 : Int32} {σ : mS} {Q : Option Value → mS → Prop} (H : mM X d 123 0 (mm_L0 123 [.int (((27 : Int32) + ((16 : Int32) * i1)) + i2)]) [] σ (mi_K (fun x2 σ1 => mM X d 143 0 (mm_L0 143 [(.ref 86), .int (((27 : Int32) + ((16 : Int32) * i1)) + i2)]) [] σ1 (mi_K (fun x4 σ3 => mM X d 150 0 (mm_L0 150 [(.ref 86), .int x2, .int x4, .int i3, .int i4]) [] σ3 (m0_K (fun σ5 => Q none σ5))))))) : mM X (d + 1) 197 0 (mm_L0 197 [(.ref 86), .int i1, .int i2, .int i3, .int i4]) [] σ Q := by
  intro hp R
  have F : mF hp hp := mF.rf
  show mm_R X (d + 1) 197 0 [some ((.ref 86)), some (.int i1), some (.int i2), some (.int i3), some (.int i4), none] [] hp (mQ hp Q)
  refine mm_R.cS (pc' := 14) (L' := [some ((.ref 86)), some (.int i1), some (.int i2), some (.int i3), some (.int i4), some (.int (((27 : Int32) + ((16 : Int32) * i1)) + i2))]) (st1 := [.int (((27 : Int32) + ((16 : Int32) * i1)) + i2), (.ref 86)]) (as := [.int (((27 : Int32) + ((16 : Int32) * i1)) + i2)]) (rest := [(.ref 86)]) 10 rfl rfl (mw_sp rfl rfl (Nat.le_of_ble_eq_true rfl) (mw_ac rfl mw_an) (mw_ac rfl mw_an)) rfl rfl ((H _ R).mono (fun o hp1 H => ?_))
  obtain ⟨σ1, R, F1, x2, rfl, H⟩ := H
  replace F := F.tr F1
  refine mm_R.cV (pc' := 20) (L' := [some ((.ref 86)), some (.int i1), some (.int i2), some (.int i3), some (.int i4), some (.int (((27 : Int32) + ((16 : Int32) * i1)) + i2))]) (st1 := [.int (((27 : Int32) + ((16 : Int32) * i1)) + i2), (.ref 86), .int x2, (.ref 86)]) (as := [.int (((27 : Int32) + ((16 : Int32) * i1)) + i2)]) (rest := [.int x2, (.ref 86)]) 2 rfl rfl (mw_sp rfl rfl (Nat.le_of_ble_eq_true rfl) (mw_ac rfl (mw_ac rfl mw_an)) (mw_ac rfl (mw_ac rfl mw_an))) rfl rfl (m_rc R rfl) ((H _ R).mono (fun o hp1 H => ?_))
  obtain ⟨σ3, R, F1, x4, rfl, H⟩ := H
  replace F := F.tr F1
  refine mm_R.cV (pc' := 26) (L' := [some ((.ref 86)), some (.int i1), some (.int i2), some (.int i3), some (.int i4), some (.int (((27 : Int32) + ((16 : Int32) * i1)) + i2))]) (st1 := [.int i4, .int i3, .int x4, .int x2, (.ref 86)]) (as := [.int x2, .int x4, .int i3, .int i4]) (rest := []) 2 rfl rfl (mw_sp rfl rfl (Nat.le_of_ble_eq_true rfl) (mw_ac rfl (mw_ac rfl (mw_ac rfl (mw_ac rfl (mw_ac rfl mw_an))))) mw_an) rfl rfl (m_rc R rfl) ((H _ R).mono (fun o hp1 H => ?_))
  obtain ⟨σ5, R, F1, rfl, H⟩ := H
  replace F := F.tr F1
  exact mm_R.rt (pc' := 29) (L' := [some ((.ref 86)), some (.int i1), some (.int i2), some (.int i3), some (.int i4), some (.int (((27 : Int32) + ((16 : Int32) * i1)) + i2))]) (st1 := []) 0 rfl rfl rfl rfl rfl rfl ⟨_, R, F, H⟩
-- StepRunnerModel.finish, from 0
set_option maxRecDepth 10000 in
theorem u198_0 {X : List Int32} {d : Nat} {i1 : Int32} {σ : mS} {Q : Option Value → mS → Prop} (H : ((i1 < (0 : Int32) → Q (some (.int (0 : Int32))) σ) ∧ (¬ i1 < (0 : Int32) → ((i1 < (σ.1 27) → (0 ≤ i1 ∧ Int32.toNatClampNeg i1 < 3) ∧ ∀ σ2, σ2 = mSet σ 27 ((σ.1 27) - (1 : Int32)) → mM X (d + 1) 198 33 [some ((.ref 86)), some (.int i1), some (.int (mGet σ 111 i1)), some (.int i1), none] [] σ2 Q) ∧ (¬ i1 < (σ.1 27) → Q (some (.int (0 : Int32))) σ))))) : mM X (d + 1) 198 0 (mm_L0 198 [(.ref 86), .int i1]) [] σ Q := by
  intro hp R
  have F : mF hp hp := mF.rf
  show mm_R X (d + 1) 198 0 [some ((.ref 86)), some (.int i1), none, none, none] [] hp (mQ hp Q)
  refine mm_R.br (L' := [some ((.ref 86)), some (.int i1), none, none, none]) (st' := []) (t := 12) (u := 4) (b := mm_cc .lt i1 (0 : Int32)) 2 rfl (fun c => ?_) (fun c => ?_)
  · replace H := H.1 (of_decide_eq_true c)
    exact mm_R.rt (pc' := 13) (L' := [some ((.ref 86)), some (.int i1), none, none, none]) (st1 := [.int (0 : Int32)]) 1 rfl rfl rfl rfl rfl rfl ⟨_, R, F, H⟩
  · replace H := H.2 (of_decide_eq_false c)
    refine mm_R.wgi (pc' := 6) (L' := [some ((.ref 86)), some (.int i1), none, none, none]) (r := [.int i1]) 2 rfl rfl (m_gi R rfl ?_)
    refine mm_R.br (L' := [some ((.ref 86)), some (.int i1), none, none, none]) (st' := []) (t := 14) (u := 12) (b := mm_cc .lt i1 (σ.1 27)) 1 rfl (fun c => ?_) (fun c => ?_)
    · replace H := H.1 (of_decide_eq_true c)
      refine mm_R.wgv (pc' := 15) (L' := [some ((.ref 86)), some (.int i1), none, none, none]) (r := []) 1 rfl rfl (m_gv R rfl ?_)
      obtain ⟨hi1, H⟩ := H
      refine mm_R.wai (pc' := 19) (L' := [some ((.ref 86)), some (.int i1), none, none, none]) (r := []) (t := 1000) 1 rfl rfl rfl rfl (m_ai (i := i1) R (n := 3) (by decide) hi1 ?_)
      refine mm_R.wgi (pc' := 23) (L' := [some ((.ref 86)), some (.int i1), some (.int (mGet σ 111 i1)), none, none]) (r := [(.ref 86)]) 3 rfl rfl (m_gi R rfl ?_)
      refine mm_R.wpt (pc' := 28) (L' := [some ((.ref 86)), some (.int i1), some (.int (mGet σ 111 i1)), none, none]) (r := []) 2 rfl rfl (m_pt (v := ((σ.1 27) - (1 : Int32))) R F rfl rfl rfl (fun hp R F => ?_))
      obtain ⟨σ2, es⟩ : ∃ z, z = mSet σ 27 ((σ.1 27) - (1 : Int32)) := ⟨_, rfl⟩
      rw [← es] at R
      replace H := H σ2 es
      exact mm_R.pn (pc' := 33) (L' := [some ((.ref 86)), some (.int i1), some (.int (mGet σ 111 i1)), some (.int i1), none]) (st' := []) 2 rfl (H.use R F)
    · replace H := H.2 (of_decide_eq_false c)
      exact mm_R.rt (pc' := 13) (L' := [some ((.ref 86)), some (.int i1), none, none, none]) (st1 := [.int (0 : Int32)]) 1 rfl rfl rfl rfl rfl rfl ⟨_, R, F, H⟩
-- StepRunnerModel.finish, from 33
set_option maxRecDepth 10000 in
theorem u198_33 {X : List Int32} {d : Nat} {i1 : Int32} {i2 : Int32} {i3 : Int32} {o4 : Option Value} {σ : mS} {Q : Option Value → mS → Prop} (H : (((σ.1 27) ≤ i3 → (0 ≤ i2 ∧ Int32.toNatClampNeg i2 < 96) ∧ ∀ σ2, σ2 = mPut σ 108 i2 (3 : Int32) → mM X d 199 0 (mm_L0 199 [(.ref 86), .int (i2 / (16 : Int32)), .int i2]) [] σ2 (mi_K (fun x4 σ3 => ((¬ x4 = (0 : Int32) → (0 ≤ (i2 / (16 : Int32)) ∧ Int32.toNatClampNeg (i2 / (16 : Int32)) < 6) ∧ ((¬ (mGet σ3 106 (i2 / (16 : Int32))) = (1 : Int32) → mM X d 166 0 (mm_L0 166 [(.ref 86)]) [] σ3 (m0_K (fun σ6 => Q (some (.int (1 : Int32))) σ6))) ∧ ((mGet σ3 106 (i2 / (16 : Int32))) = (1 : Int32) → mM X d 193 0 (mm_L0 193 [(.ref 86), .int (i2 / (16 : Int32))]) [] σ3 (mi_K (fun x8 σ7 => ((x8 = (0 : Int32) → mM X d 166 0 (mm_L0 166 [(.ref 86)]) [] σ7 (m0_K (fun σ9 => Q (some (.int (1 : Int32))) σ9))) ∧ (¬ x8 = (0 : Int32) → mM X d 194 0 (mm_L0 194 [(.ref 86), .int (i2 / (16 : Int32))]) [] σ7 (m0_K (fun σ10 => mM X d 166 0 (mm_L0 166 [(.ref 86)]) [] σ10 (m0_K (fun σ11 => Q (some (.int (1 : Int32))) σ11))))))))))) ∧ (x4 = (0 : Int32) → mM X d 173 0 (mm_L0 173 [(.ref 86), .int (i2 / (16 : Int32))]) [] σ3 (m0_K (fun σ12 => mM X d 166 0 (mm_L0 166 [(.ref 86)]) [] σ12 (m0_K (fun σ13 => Q (some (.int (1 : Int32))) σ13))))))))) ∧ (¬ (σ.1 27) ≤ i3 → (0 ≤ (i3 + (1 : Int32)) ∧ Int32.toNatClampNeg (i3 + (1 : Int32)) < 3) ∧ (0 ≤ i3 ∧ Int32.toNatClampNeg i3 < 3) ∧ ∀ σ16, σ16 = mPut σ 111 i3 (mGet σ 111 (i3 + (1 : Int32))) → mM X (d + 1) 198 33 [some ((.ref 86)), some (.int i1), some (.int i2), some (.int (i3 + (1 : Int32))), o4] [] σ16 Q))) : mM X (d + 1) 198 33 [some ((.ref 86)), some (.int i1), some (.int i2), some (.int i3), o4] [] σ Q := by
  intro hp R
  have F : mF hp hp := mF.rf
  refine mm_R.wgi (pc' := 35) (L' := [some ((.ref 86)), some (.int i1), some (.int i2), some (.int i3), o4]) (r := [.int i3]) 2 rfl rfl (m_gi R rfl ?_)
  refine mm_R.br (L' := [some ((.ref 86)), some (.int i1), some (.int i2), some (.int i3), o4]) (st' := []) (t := 61) (u := 41) (b := mm_cc .ge i3 (σ.1 27)) 1 rfl (fun c => ?_) (fun c => ?_)
  · replace H := H.1 (of_decide_eq_true c)
    refine mm_R.wgv (pc' := 67) (L' := [some ((.ref 86)), some (.int i1), some (.int i2), some (.int (i2 / (16 : Int32))), o4]) (r := []) 5 rfl rfl (m_gv R rfl ?_)
    obtain ⟨hi1, H⟩ := H
    refine mm_R.wsi (pc' := 72) (L' := [some ((.ref 86)), some (.int i1), some (.int i2), some (.int (i2 / (16 : Int32))), o4]) (r := []) (t := 1000) (ty := .int) 2 rfl rfl rfl rfl (m_si (i := i2) (v := (3 : Int32)) R F (n := 96) (by decide) hi1 rfl (fun hp R F => ?_))
    obtain ⟨σ2, es⟩ : ∃ z, z = mPut σ 108 i2 (3 : Int32) := ⟨_, rfl⟩
    rw [← es] at R
    replace H := H σ2 es
    refine mm_R.cV (pc' := 76) (L' := [some ((.ref 86)), some (.int i1), some (.int i2), some (.int (i2 / (16 : Int32))), o4]) (st1 := [.int i2, .int (i2 / (16 : Int32)), (.ref 86)]) (as := [.int (i2 / (16 : Int32)), .int i2]) (rest := []) 3 rfl rfl (mw_sp rfl rfl (Nat.le_of_ble_eq_true rfl) (mw_ac rfl (mw_ac rfl (mw_ac rfl mw_an))) mw_an) rfl rfl (m_rc R rfl) ((H _ R).mono (fun o hp1 H => ?_))
    obtain ⟨σ3, R, F1, x4, rfl, H⟩ := H
    replace F := F.tr F1
    refine mm_R.br (L' := [some ((.ref 86)), some (.int i1), some (.int i2), some (.int (i2 / (16 : Int32))), some (.int x4)]) (st' := []) (t := 94) (u := 86) (b := mm_cc .ne x4 (0 : Int32)) 3 rfl (fun c => ?_) (fun c => ?_)
    · replace H := H.1 (of_decide_eq_true c)
      refine mm_R.wgv (pc' := 95) (L' := [some ((.ref 86)), some (.int i1), some (.int i2), some (.int (i2 / (16 : Int32))), some (.int x4)]) (r := []) 1 rfl rfl (m_gv R rfl ?_)
      obtain ⟨hi5, H⟩ := H
      refine mm_R.wai (pc' := 99) (L' := [some ((.ref 86)), some (.int i1), some (.int i2), some (.int (i2 / (16 : Int32))), some (.int x4)]) (r := []) (t := 1000) 1 rfl rfl rfl rfl (m_ai (i := (i2 / (16 : Int32))) R (n := 6) (by decide) hi5 ?_)
      refine mm_R.br (L' := [some ((.ref 86)), some (.int i1), some (.int i2), some (.int (i2 / (16 : Int32))), some (.int x4)]) (st' := []) (t := 117) (u := 104) (b := mm_cc .ne (mGet σ3 106 (i2 / (16 : Int32))) (1 : Int32)) 2 rfl (fun c => ?_) (fun c => ?_)
      · replace H := H.1 (of_decide_eq_true c)
        refine mm_R.cV (pc' := 118) (L' := [some ((.ref 86)), some (.int i1), some (.int i2), some (.int (i2 / (16 : Int32))), some (.int x4)]) (st1 := [(.ref 86)]) (as := []) (rest := []) 1 rfl rfl (mw_sp rfl rfl (Nat.le_of_ble_eq_true rfl) (mw_ac rfl mw_an) mw_an) rfl rfl (m_rc R rfl) ((H _ R).mono (fun o hp1 H => ?_))
        obtain ⟨σ6, R, F1, rfl, H⟩ := H
        replace F := F.tr F1
        exact mm_R.rt (pc' := 122) (L' := [some ((.ref 86)), some (.int i1), some (.int i2), some (.int (i2 / (16 : Int32))), some (.int x4)]) (st1 := [.int (1 : Int32)]) 1 rfl rfl rfl rfl rfl rfl ⟨_, R, F, H⟩
      · replace H := H.2 (Decidable.of_not_not (of_decide_eq_false c))
        refine mm_R.cV (pc' := 106) (L' := [some ((.ref 86)), some (.int i1), some (.int i2), some (.int (i2 / (16 : Int32))), some (.int x4)]) (st1 := [.int (i2 / (16 : Int32)), (.ref 86)]) (as := [.int (i2 / (16 : Int32))]) (rest := []) 2 rfl rfl (mw_sp rfl rfl (Nat.le_of_ble_eq_true rfl) (mw_ac rfl (mw_ac rfl mw_an)) mw_an) rfl rfl (m_rc R rfl) ((H _ R).mono (fun o hp1 H => ?_))
        obtain ⟨σ7, R, F1, x8, rfl, H⟩ := H
        replace F := F.tr F1
        refine mm_R.br (L' := [some ((.ref 86)), some (.int i1), some (.int i2), some (.int (i2 / (16 : Int32))), some (.int x4)]) (st' := []) (t := 117) (u := 112) (b := mm_cc .eq x8 (0 : Int32)) 1 rfl (fun c => ?_) (fun c => ?_)
        · replace H := H.1 (of_decide_eq_true c)
          refine mm_R.cV (pc' := 118) (L' := [some ((.ref 86)), some (.int i1), some (.int i2), some (.int (i2 / (16 : Int32))), some (.int x4)]) (st1 := [(.ref 86)]) (as := []) (rest := []) 1 rfl rfl (mw_sp rfl rfl (Nat.le_of_ble_eq_true rfl) (mw_ac rfl mw_an) mw_an) rfl rfl (m_rc R rfl) ((H _ R).mono (fun o hp1 H => ?_))
          obtain ⟨σ9, R, F1, rfl, H⟩ := H
          replace F := F.tr F1
          exact mm_R.rt (pc' := 122) (L' := [some ((.ref 86)), some (.int i1), some (.int i2), some (.int (i2 / (16 : Int32))), some (.int x4)]) (st1 := [.int (1 : Int32)]) 1 rfl rfl rfl rfl rfl rfl ⟨_, R, F, H⟩
        · replace H := H.2 (of_decide_eq_false c)
          refine mm_R.cV (pc' := 114) (L' := [some ((.ref 86)), some (.int i1), some (.int i2), some (.int (i2 / (16 : Int32))), some (.int x4)]) (st1 := [.int (i2 / (16 : Int32)), (.ref 86)]) (as := [.int (i2 / (16 : Int32))]) (rest := []) 2 rfl rfl (mw_sp rfl rfl (Nat.le_of_ble_eq_true rfl) (mw_ac rfl (mw_ac rfl mw_an)) mw_an) rfl rfl (m_rc R rfl) ((H _ R).mono (fun o hp1 H => ?_))
          obtain ⟨σ10, R, F1, rfl, H⟩ := H
          replace F := F.tr F1
          refine mm_R.cV (pc' := 118) (L' := [some ((.ref 86)), some (.int i1), some (.int i2), some (.int (i2 / (16 : Int32))), some (.int x4)]) (st1 := [(.ref 86)]) (as := []) (rest := []) 1 rfl rfl (mw_sp rfl rfl (Nat.le_of_ble_eq_true rfl) (mw_ac rfl mw_an) mw_an) rfl rfl (m_rc R rfl) ((H _ R).mono (fun o hp1 H => ?_))
          obtain ⟨σ11, R, F1, rfl, H⟩ := H
          replace F := F.tr F1
          exact mm_R.rt (pc' := 122) (L' := [some ((.ref 86)), some (.int i1), some (.int i2), some (.int (i2 / (16 : Int32))), some (.int x4)]) (st1 := [.int (1 : Int32)]) 1 rfl rfl rfl rfl rfl rfl ⟨_, R, F, H⟩
    · replace H := H.2 (Decidable.of_not_not (of_decide_eq_false c))
      refine mm_R.cV (pc' := 88) (L' := [some ((.ref 86)), some (.int i1), some (.int i2), some (.int (i2 / (16 : Int32))), some (.int x4)]) (st1 := [.int (i2 / (16 : Int32)), (.ref 86)]) (as := [.int (i2 / (16 : Int32))]) (rest := []) 2 rfl rfl (mw_sp rfl rfl (Nat.le_of_ble_eq_true rfl) (mw_ac rfl (mw_ac rfl mw_an)) mw_an) rfl rfl (m_rc R rfl) ((H _ R).mono (fun o hp1 H => ?_))
      obtain ⟨σ12, R, F1, rfl, H⟩ := H
      replace F := F.tr F1
      refine mm_R.cV (pc' := 118) (L' := [some ((.ref 86)), some (.int i1), some (.int i2), some (.int (i2 / (16 : Int32))), some (.int x4)]) (st1 := [(.ref 86)]) (as := []) (rest := []) 2 rfl rfl (mw_sp rfl rfl (Nat.le_of_ble_eq_true rfl) (mw_ac rfl mw_an) mw_an) rfl rfl (m_rc R rfl) ((H _ R).mono (fun o hp1 H => ?_))
      obtain ⟨σ13, R, F1, rfl, H⟩ := H
      replace F := F.tr F1
      exact mm_R.rt (pc' := 122) (L' := [some ((.ref 86)), some (.int i1), some (.int i2), some (.int (i2 / (16 : Int32))), some (.int x4)]) (st1 := [.int (1 : Int32)]) 1 rfl rfl rfl rfl rfl rfl ⟨_, R, F, H⟩
  · replace H := H.2 (of_decide_eq_false c)
    refine mm_R.wgv (pc' := 42) (L' := [some ((.ref 86)), some (.int i1), some (.int i2), some (.int i3), o4]) (r := []) 1 rfl rfl (m_gv R rfl ?_)
    refine mm_R.wgv (pc' := 47) (L' := [some ((.ref 86)), some (.int i1), some (.int i2), some (.int i3), o4]) (r := [.int i3, (.ref 111)]) 2 rfl rfl (m_gv R rfl ?_)
    obtain ⟨hi14, H⟩ := H
    refine mm_R.wai (pc' := 53) (L' := [some ((.ref 86)), some (.int i1), some (.int i2), some (.int i3), o4]) (r := [.int i3, (.ref 111)]) (t := 1000) 3 rfl rfl rfl rfl (m_ai (i := (i3 + (1 : Int32))) R (n := 3) (by decide) hi14 ?_)
    obtain ⟨hi15, H⟩ := H
    refine mm_R.wsi (pc' := 54) (L' := [some ((.ref 86)), some (.int i1), some (.int i2), some (.int i3), o4]) (r := []) (t := 1000) (ty := .int) 0 rfl rfl rfl rfl (m_si (i := i3) (v := (mGet σ 111 (i3 + (1 : Int32)))) R F (n := 3) (by decide) hi15 rfl (fun hp R F => ?_))
    obtain ⟨σ16, es⟩ : ∃ z, z = mPut σ 111 i3 (mGet σ 111 (i3 + (1 : Int32))) := ⟨_, rfl⟩
    rw [← es] at R
    replace H := H σ16 es
    exact mm_R.pn (pc' := 33) (L' := [some ((.ref 86)), some (.int i1), some (.int i2), some (.int (i3 + (1 : Int32))), o4]) (st' := []) 2 rfl (H.use R F)
-- StepRunnerModel.resulted, from 0
set_option maxRecDepth 10000 in
theorem u199_0 {X : List Int32} {d : Nat} {i1 : Int32} {i2 : Int32} {σ : mS} {Q : Option Value → mS → Prop} (H : (0 ≤ i2 ∧ Int32.toNatClampNeg i2 < 96) ∧ (0 ≤ i1 ∧ Int32.toNatClampNeg i1 < 6) ∧ (0 ≤ (mGet σ 96 i1) ∧ Int32.toNatClampNeg (mGet σ 96 i1) < 4) ∧ mM X d 121 0 (mm_L0 121 [(.ref 86), .int ((27 : Int32) + i2)]) [] σ (m0_K (fun σ4 => ((¬ (mGet σ 91 (mGet σ 96 i1)) = (0 : Int32) → ((¬ (mGet σ 91 (mGet σ 96 i1)) = (1 : Int32) → mM X (d + 1) 199 58 [some ((.ref 86)), some (.int i1), some (.int i2), some (.int ((27 : Int32) + i2)), some (.int (mGet σ 109 i2)), some (.int (mGet σ 91 (mGet σ 96 i1))), none, none] [] σ4 Q) ∧ ((mGet σ 91 (mGet σ 96 i1)) = (1 : Int32) → mM X d 122 0 (mm_L0 122 [(.ref 86), .int ((27 : Int32) + i2), .int (1 : Int32), .int (0 : Int32), .int (mGet σ 109 i2)]) [] σ4 (m0_K (fun σ5 => mM X (d + 1) 199 58 [some ((.ref 86)), some (.int i1), some (.int i2), some (.int ((27 : Int32) + i2)), some (.int (mGet σ 109 i2)), some (.int (mGet σ 91 (mGet σ 96 i1))), none, none] [] σ5 Q))))) ∧ ((mGet σ 91 (mGet σ 96 i1)) = (0 : Int32) → mM X d 200 0 (mm_L0 200 [(.ref 86), .int i2, .int ((27 : Int32) + i2)]) [] σ4 (mi_K (fun x7 σ6 => (x7 = 0 ∨ x7 = 1) ∧ Q (some (.int x7)) σ6))))))) : mM X (d + 1) 199 0 (mm_L0 199 [(.ref 86), .int i1, .int i2]) [] σ Q := by
  intro hp R
  have F : mF hp hp := mF.rf
  show mm_R X (d + 1) 199 0 [some ((.ref 86)), some (.int i1), some (.int i2), none, none, none, none, none] [] hp (mQ hp Q)
  refine mm_R.wgv (pc' := 6) (L' := [some ((.ref 86)), some (.int i1), some (.int i2), some (.int ((27 : Int32) + i2)), none, none, none, none]) (r := []) 5 rfl rfl (m_gv R rfl ?_)
  obtain ⟨hi1, H⟩ := H
  refine mm_R.wai (pc' := 10) (L' := [some ((.ref 86)), some (.int i1), some (.int i2), some (.int ((27 : Int32) + i2)), none, none, none, none]) (r := []) (t := 1000) 1 rfl rfl rfl rfl (m_ai (i := i2) R (n := 96) (by decide) hi1 ?_)
  refine mm_R.wgv (pc' := 14) (L' := [some ((.ref 86)), some (.int i1), some (.int i2), some (.int ((27 : Int32) + i2)), some (.int (mGet σ 109 i2)), none, none, none]) (r := []) 2 rfl rfl (m_gv R rfl ?_)
  refine mm_R.wgv (pc' := 18) (L' := [some ((.ref 86)), some (.int i1), some (.int i2), some (.int ((27 : Int32) + i2)), some (.int (mGet σ 109 i2)), none, none, none]) (r := [(.ref 91)]) 1 rfl rfl (m_gv R rfl ?_)
  obtain ⟨hi2, H⟩ := H
  refine mm_R.wai (pc' := 22) (L' := [some ((.ref 86)), some (.int i1), some (.int i2), some (.int ((27 : Int32) + i2)), some (.int (mGet σ 109 i2)), none, none, none]) (r := [(.ref 91)]) (t := 1000) 1 rfl rfl rfl rfl (m_ai (i := i1) R (n := 6) (by decide) hi2 ?_)
  obtain ⟨hi3, H⟩ := H
  refine mm_R.wai (pc' := 23) (L' := [some ((.ref 86)), some (.int i1), some (.int i2), some (.int ((27 : Int32) + i2)), some (.int (mGet σ 109 i2)), none, none, none]) (r := []) (t := 1000) 0 rfl rfl rfl rfl (m_ai (i := (mGet σ 96 i1)) R (n := 4) (by decide) hi3 ?_)
  refine mm_R.cV (pc' := 28) (L' := [some ((.ref 86)), some (.int i1), some (.int i2), some (.int ((27 : Int32) + i2)), some (.int (mGet σ 109 i2)), some (.int (mGet σ 91 (mGet σ 96 i1))), none, none]) (st1 := [.int ((27 : Int32) + i2), (.ref 86)]) (as := [.int ((27 : Int32) + i2)]) (rest := []) 3 rfl rfl (mw_sp rfl rfl (Nat.le_of_ble_eq_true rfl) (mw_ac rfl (mw_ac rfl mw_an)) mw_an) rfl rfl (m_rc R rfl) ((H _ R).mono (fun o hp1 H => ?_))
  obtain ⟨σ4, R, F1, rfl, H⟩ := H
  replace F := F.tr F1
  refine mm_R.br (L' := [some ((.ref 86)), some (.int i1), some (.int i2), some (.int ((27 : Int32) + i2)), some (.int (mGet σ 109 i2)), some (.int (mGet σ 91 (mGet σ 96 i1))), none, none]) (st' := []) (t := 43) (u := 36) (b := mm_cc .ne (mGet σ 91 (mGet σ 96 i1)) (0 : Int32)) 2 rfl (fun c => ?_) (fun c => ?_)
  · replace H := H.1 (of_decide_eq_true c)
    refine mm_R.br (L' := [some ((.ref 86)), some (.int i1), some (.int i2), some (.int ((27 : Int32) + i2)), some (.int (mGet σ 109 i2)), some (.int (mGet σ 91 (mGet σ 96 i1))), none, none]) (st' := []) (t := 58) (u := 49) (b := mm_cc .ne (mGet σ 91 (mGet σ 96 i1)) (1 : Int32)) 3 rfl (fun c => ?_) (fun c => ?_)
    · replace H := H.1 (of_decide_eq_true c)
      exact H.use R F
    · replace H := H.2 (Decidable.of_not_not (of_decide_eq_false c))
      refine mm_R.cV (pc' := 55) (L' := [some ((.ref 86)), some (.int i1), some (.int i2), some (.int ((27 : Int32) + i2)), some (.int (mGet σ 109 i2)), some (.int (mGet σ 91 (mGet σ 96 i1))), none, none]) (st1 := [.int (mGet σ 109 i2), .int (0 : Int32), .int (1 : Int32), .int ((27 : Int32) + i2), (.ref 86)]) (as := [.int ((27 : Int32) + i2), .int (1 : Int32), .int (0 : Int32), .int (mGet σ 109 i2)]) (rest := []) 5 rfl rfl (mw_sp rfl rfl (Nat.le_of_ble_eq_true rfl) (mw_ac rfl (mw_ac rfl (mw_ac rfl (mw_ac rfl (mw_ac rfl mw_an))))) mw_an) rfl rfl (m_rc R rfl) ((H _ R).mono (fun o hp1 H => ?_))
      obtain ⟨σ5, R, F1, rfl, H⟩ := H
      replace F := F.tr F1
      exact H.use R F
  · replace H := H.2 (Decidable.of_not_not (of_decide_eq_false c))
    refine mm_R.cV (pc' := 39) (L' := [some ((.ref 86)), some (.int i1), some (.int i2), some (.int ((27 : Int32) + i2)), some (.int (mGet σ 109 i2)), some (.int (mGet σ 91 (mGet σ 96 i1))), none, none]) (st1 := [.int ((27 : Int32) + i2), .int i2, (.ref 86)]) (as := [.int i2, .int ((27 : Int32) + i2)]) (rest := []) 3 rfl rfl (mw_sp rfl rfl (Nat.le_of_ble_eq_true rfl) (mw_ac rfl (mw_ac rfl (mw_ac rfl mw_an))) mw_an) rfl rfl (m_rc R rfl) ((H _ R).mono (fun o hp1 H => ?_))
    obtain ⟨σ6, R, F1, x7, rfl, H⟩ := H
    replace F := F.tr F1
    exact mm_R.rt (pc' := 42) (L' := [some ((.ref 86)), some (.int i1), some (.int i2), some (.int ((27 : Int32) + i2)), some (.int (mGet σ 109 i2)), some (.int (mGet σ 91 (mGet σ 96 i1))), none, none]) (st1 := [.int x7]) 0 rfl rfl rfl rfl rfl (mw_rvi (ty := .boolean) (m_fz H.1)) ⟨_, R, F, H.2⟩
-- StepRunnerModel.resulted, from 58
set_option maxRecDepth 10000 in
theorem u199_58 {X : List Int32} {d : Nat} {i1 : Int32} {i2 : Int32} {i3 : Int32} {i4 : Int32} {i5 : Int32} {o6 : Option Value} {o7 : Option Value} {σ : mS} {Q : Option Value → mS → Prop} (H : ((¬ i5 = (2 : Int32) → ((¬ i5 = (3 : Int32) → Q (some (.int (1 : Int32))) σ) ∧ (i5 = (3 : Int32) → mM X d 122 0 (mm_L0 122 [(.ref 86), .int i3, .int (3 : Int32), .int (0 : Int32), .int (0 : Int32)]) [] σ (m0_K (fun σ1 => mM X (d + 1) 199 88 [some ((.ref 86)), some (.int i1), some (.int i2), some (.int i3), some (.int i4), some (.int i5), some (.int (0 : Int32)), o7] [] σ1 Q))))) ∧ (i5 = (2 : Int32) → mM X d 201 0 (mm_L0 201 [(.ref 86), .int i2, .int i3]) [] σ (mi_K (fun x3 σ2 => (x3 = 0 ∨ x3 = 1) ∧ Q (some (.int x3)) σ2))))) : mM X (d + 1) 199 58 [some ((.ref 86)), some (.int i1), some (.int i2), some (.int i3), some (.int i4), some (.int i5), o6, o7] [] σ Q := by
  intro hp R
  have F : mF hp hp := mF.rf
  refine mm_R.br (L' := [some ((.ref 86)), some (.int i1), some (.int i2), some (.int i3), some (.int i4), some (.int i5), o6, o7]) (st' := []) (t := 71) (u := 64) (b := mm_cc .ne i5 (2 : Int32)) 3 rfl (fun c => ?_) (fun c => ?_)
  · replace H := H.1 (of_decide_eq_true c)
    refine mm_R.br (L' := [some ((.ref 86)), some (.int i1), some (.int i2), some (.int i3), some (.int i4), some (.int i5), o6, o7]) (st' := []) (t := 161) (u := 77) (b := mm_cc .ne i5 (3 : Int32)) 3 rfl (fun c => ?_) (fun c => ?_)
    · replace H := H.1 (of_decide_eq_true c)
      exact mm_R.rt (pc' := 162) (L' := [some ((.ref 86)), some (.int i1), some (.int i2), some (.int i3), some (.int i4), some (.int i5), o6, o7]) (st1 := [.int (1 : Int32)]) 1 rfl rfl rfl rfl rfl rfl ⟨_, R, F, H⟩
    · replace H := H.2 (Decidable.of_not_not (of_decide_eq_false c))
      refine mm_R.cV (pc' := 82) (L' := [some ((.ref 86)), some (.int i1), some (.int i2), some (.int i3), some (.int i4), some (.int i5), o6, o7]) (st1 := [.int (0 : Int32), .int (0 : Int32), .int (3 : Int32), .int i3, (.ref 86)]) (as := [.int i3, .int (3 : Int32), .int (0 : Int32), .int (0 : Int32)]) (rest := []) 5 rfl rfl (mw_sp rfl rfl (Nat.le_of_ble_eq_true rfl) (mw_ac rfl (mw_ac rfl (mw_ac rfl (mw_ac rfl (mw_ac rfl mw_an))))) mw_an) rfl rfl (m_rc R rfl) ((H _ R).mono (fun o hp1 H => ?_))
      obtain ⟨σ1, R, F1, rfl, H⟩ := H
      replace F := F.tr F1
      exact mm_R.pn (pc' := 88) (L' := [some ((.ref 86)), some (.int i1), some (.int i2), some (.int i3), some (.int i4), some (.int i5), some (.int (0 : Int32)), o7]) (st' := []) 2 rfl (H.use R F)
  · replace H := H.2 (Decidable.of_not_not (of_decide_eq_false c))
    refine mm_R.cV (pc' := 67) (L' := [some ((.ref 86)), some (.int i1), some (.int i2), some (.int i3), some (.int i4), some (.int i5), o6, o7]) (st1 := [.int i3, .int i2, (.ref 86)]) (as := [.int i2, .int i3]) (rest := []) 3 rfl rfl (mw_sp rfl rfl (Nat.le_of_ble_eq_true rfl) (mw_ac rfl (mw_ac rfl (mw_ac rfl mw_an))) mw_an) rfl rfl (m_rc R rfl) ((H _ R).mono (fun o hp1 H => ?_))
    obtain ⟨σ2, R, F1, x3, rfl, H⟩ := H
    replace F := F.tr F1
    exact mm_R.rt (pc' := 70) (L' := [some ((.ref 86)), some (.int i1), some (.int i2), some (.int i3), some (.int i4), some (.int i5), o6, o7]) (st1 := [.int x3]) 0 rfl rfl rfl rfl rfl (mw_rvi (ty := .boolean) (m_fz H.1)) ⟨_, R, F, H.2⟩
-- StepRunnerModel.resulted, from 88
set_option maxRecDepth 10000 in
theorem u199_88 {X : List Int32} {d : Nat} {i1 : Int32} {i2 : Int32} {i3 : Int32} {i4 : Int32} {i5 : Int32} {i6 : Int32} {o7 : Option Value} {σ : mS} {Q : Option Value → mS → Prop} (H : ((i4 ≤ i6 → Q (some (.int (1 : Int32))) σ) ∧ (¬ i4 ≤ i6 → (0 ≤ (((8 : Int32) * i2) + i6) ∧ Int32.toNatClampNeg (((8 : Int32) * i2) + i6) < 768) ∧ mM X d 188 0 (mm_L0 188 [(.ref 86), .int (((600 : Int32) + ((192 : Int32) * i2)) + ((24 : Int32) * i6)), .int (mGet σ 110 (((8 : Int32) * i2) + i6))]) [] σ (mi_K (fun x3 σ2 => ((¬ x3 = (0 : Int32) → (0 ≤ (((8 : Int32) * i2) + i6) ∧ Int32.toNatClampNeg (((8 : Int32) * i2) + i6) < 768) ∧ mM X d 139 0 (mm_L0 139 [(.ref 86), .int i3, .int (1 : Int32), .int (((600 : Int32) + ((192 : Int32) * i2)) + ((24 : Int32) * i6)), .int (mGet σ2 110 (((8 : Int32) * i2) + i6))]) [] σ2 (m0_K (fun σ5 => mM X (d + 1) 199 88 [some ((.ref 86)), some (.int i1), some (.int i2), some (.int i3), some (.int i4), some (.int i5), some (.int (i6 + (1 : Int32))), some (.int (((600 : Int32) + ((192 : Int32) * i2)) + ((24 : Int32) * i6)))] [] σ5 Q))) ∧ (x3 = (0 : Int32) → Q (some (.int (0 : Int32))) σ2))))))) : mM X (d + 1) 199 88 [some ((.ref 86)), some (.int i1), some (.int i2), some (.int i3), some (.int i4), some (.int i5), some (.int i6), o7] [] σ Q := by
  intro hp R
  have F : mF hp hp := mF.rf
  refine mm_R.br (L' := [some ((.ref 86)), some (.int i1), some (.int i2), some (.int i3), some (.int i4), some (.int i5), some (.int i6), o7]) (st' := []) (t := 161) (u := 95) (b := mm_cc .ge i6 i4) 3 rfl (fun c => ?_) (fun c => ?_)
  · replace H := H.1 (of_decide_eq_true c)
    exact mm_R.rt (pc' := 162) (L' := [some ((.ref 86)), some (.int i1), some (.int i2), some (.int i3), some (.int i4), some (.int i5), some (.int i6), o7]) (st1 := [.int (1 : Int32)]) 1 rfl rfl rfl rfl rfl rfl ⟨_, R, F, H⟩
  · replace H := H.2 (of_decide_eq_false c)
    refine mm_R.wgv (pc' := 116) (L' := [some ((.ref 86)), some (.int i1), some (.int i2), some (.int i3), some (.int i4), some (.int i5), some (.int i6), some (.int (((600 : Int32) + ((192 : Int32) * i2)) + ((24 : Int32) * i6)))]) (r := [.int (((600 : Int32) + ((192 : Int32) * i2)) + ((24 : Int32) * i6)), (.ref 86)]) 13 rfl rfl (m_gv R rfl ?_)
    obtain ⟨hi1, H⟩ := H
    refine mm_R.wai (pc' := 126) (L' := [some ((.ref 86)), some (.int i1), some (.int i2), some (.int i3), some (.int i4), some (.int i5), some (.int i6), some (.int (((600 : Int32) + ((192 : Int32) * i2)) + ((24 : Int32) * i6)))]) (r := [.int (((600 : Int32) + ((192 : Int32) * i2)) + ((24 : Int32) * i6)), (.ref 86)]) (t := 1000) 5 rfl rfl rfl rfl (m_ai (i := (((8 : Int32) * i2) + i6)) R (n := 768) (by decide) hi1 ?_)
    refine mm_R.cV (pc' := 127) (L' := [some ((.ref 86)), some (.int i1), some (.int i2), some (.int i3), some (.int i4), some (.int i5), some (.int i6), some (.int (((600 : Int32) + ((192 : Int32) * i2)) + ((24 : Int32) * i6)))]) (st1 := [.int (mGet σ 110 (((8 : Int32) * i2) + i6)), .int (((600 : Int32) + ((192 : Int32) * i2)) + ((24 : Int32) * i6)), (.ref 86)]) (as := [.int (((600 : Int32) + ((192 : Int32) * i2)) + ((24 : Int32) * i6)), .int (mGet σ 110 (((8 : Int32) * i2) + i6))]) (rest := []) 0 rfl rfl (mw_sp rfl rfl (Nat.le_of_ble_eq_true rfl) (mw_ac rfl (mw_ac rfl (mw_ac rfl mw_an))) mw_an) rfl rfl (m_rc R rfl) ((H _ R).mono (fun o hp1 H => ?_))
    obtain ⟨σ2, R, F1, x3, rfl, H⟩ := H
    replace F := F.tr F1
    refine mm_R.br (L' := [some ((.ref 86)), some (.int i1), some (.int i2), some (.int i3), some (.int i4), some (.int i5), some (.int i6), some (.int (((600 : Int32) + ((192 : Int32) * i2)) + ((24 : Int32) * i6)))]) (st' := []) (t := 135) (u := 133) (b := mm_cc .ne x3 (0 : Int32)) 1 rfl (fun c => ?_) (fun c => ?_)
    · replace H := H.1 (of_decide_eq_true c)
      refine mm_R.wgv (pc' := 141) (L' := [some ((.ref 86)), some (.int i1), some (.int i2), some (.int i3), some (.int i4), some (.int i5), some (.int i6), some (.int (((600 : Int32) + ((192 : Int32) * i2)) + ((24 : Int32) * i6)))]) (r := [.int (((600 : Int32) + ((192 : Int32) * i2)) + ((24 : Int32) * i6)), .int (1 : Int32), .int i3, (.ref 86)]) 5 rfl rfl (m_gv R rfl ?_)
      obtain ⟨hi4, H⟩ := H
      refine mm_R.wai (pc' := 151) (L' := [some ((.ref 86)), some (.int i1), some (.int i2), some (.int i3), some (.int i4), some (.int i5), some (.int i6), some (.int (((600 : Int32) + ((192 : Int32) * i2)) + ((24 : Int32) * i6)))]) (r := [.int (((600 : Int32) + ((192 : Int32) * i2)) + ((24 : Int32) * i6)), .int (1 : Int32), .int i3, (.ref 86)]) (t := 1000) 5 rfl rfl rfl rfl (m_ai (i := (((8 : Int32) * i2) + i6)) R (n := 768) (by decide) hi4 ?_)
      refine mm_R.cV (pc' := 152) (L' := [some ((.ref 86)), some (.int i1), some (.int i2), some (.int i3), some (.int i4), some (.int i5), some (.int i6), some (.int (((600 : Int32) + ((192 : Int32) * i2)) + ((24 : Int32) * i6)))]) (st1 := [.int (mGet σ2 110 (((8 : Int32) * i2) + i6)), .int (((600 : Int32) + ((192 : Int32) * i2)) + ((24 : Int32) * i6)), .int (1 : Int32), .int i3, (.ref 86)]) (as := [.int i3, .int (1 : Int32), .int (((600 : Int32) + ((192 : Int32) * i2)) + ((24 : Int32) * i6)), .int (mGet σ2 110 (((8 : Int32) * i2) + i6))]) (rest := []) 0 rfl rfl (mw_sp rfl rfl (Nat.le_of_ble_eq_true rfl) (mw_ac rfl (mw_ac rfl (mw_ac rfl (mw_ac rfl (mw_ac rfl mw_an))))) mw_an) rfl rfl (m_rc R rfl) ((H _ R).mono (fun o hp1 H => ?_))
      obtain ⟨σ5, R, F1, rfl, H⟩ := H
      replace F := F.tr F1
      exact mm_R.pn (pc' := 88) (L' := [some ((.ref 86)), some (.int i1), some (.int i2), some (.int i3), some (.int i4), some (.int i5), some (.int (i6 + (1 : Int32))), some (.int (((600 : Int32) + ((192 : Int32) * i2)) + ((24 : Int32) * i6)))]) (st' := []) 2 rfl (H.use R F)
    · replace H := H.2 (Decidable.of_not_not (of_decide_eq_false c))
      exact mm_R.rt (pc' := 134) (L' := [some ((.ref 86)), some (.int i1), some (.int i2), some (.int i3), some (.int i4), some (.int i5), some (.int i6), some (.int (((600 : Int32) + ((192 : Int32) * i2)) + ((24 : Int32) * i6)))]) (st1 := [.int (0 : Int32)]) 1 rfl rfl rfl rfl rfl rfl ⟨_, R, F, H⟩
-- StepRunnerModel.echoed, from 0
set_option maxRecDepth 10000 in
theorem u200_0 {X : List Int32} {d : Nat} {i1 : Int32} {i2 : Int32} {σ : mS} {Q : Option Value → mS → Prop} (H : mM X (d + 1) 200 5 [some ((.ref 86)), some (.int i1), some (.int i2), some (.int (0 : Int32)), some (.int (0 : Int32)), none, none, none] [] σ Q) : mM X (d + 1) 200 0 (mm_L0 200 [(.ref 86), .int i1, .int i2]) [] σ Q := by
  intro hp R
  have F : mF hp hp := mF.rf
  show mm_R X (d + 1) 200 0 [some ((.ref 86)), some (.int i1), some (.int i2), none, none, none, none, none] [] hp (mQ hp Q)
  exact mm_R.pn (pc' := 5) (L' := [some ((.ref 86)), some (.int i1), some (.int i2), some (.int (0 : Int32)), some (.int (0 : Int32)), none, none, none]) (st' := []) 4 rfl (H.use R F)
-- StepRunnerModel.echoed, from 5
set_option maxRecDepth 10000 in
theorem u200_5 {X : List Int32} {d : Nat} {i1 : Int32} {i2 : Int32} {i3 : Int32} {i4 : Int32} {o5 : Option Value} {o6 : Option Value} {o7 : Option Value} {σ : mS} {Q : Option Value → mS → Prop} (H : (0 ≤ i1 ∧ Int32.toNatClampNeg i1 < 96) ∧ (((mGet σ 109 i1) ≤ i4 → ((i3 ≤ (24 : Int32) → mM X (d + 1) 200 73 [some ((.ref 86)), some (.int i1), some (.int i2), some (.int i3), some (.int ((600 : Int32) + ((192 : Int32) * i1))), some (.int (0 : Int32)), some (.int (0 : Int32)), o7] [] σ Q) ∧ (¬ i3 ≤ (24 : Int32) → Q (some (.int (0 : Int32))) σ))) ∧ (¬ (mGet σ 109 i1) ≤ i4 → (0 ≤ (((8 : Int32) * i1) + i4) ∧ Int32.toNatClampNeg (((8 : Int32) * i1) + i4) < 768) ∧ ((i4 ≤ (0 : Int32) → mM X (d + 1) 200 5 [some ((.ref 86)), some (.int i1), some (.int i2), some (.int ((i3 + (mGet σ 110 (((8 : Int32) * i1) + i4))) + (0 : Int32))), some (.int (i4 + (1 : Int32))), o5, o6, o7] [] σ Q) ∧ (¬ i4 ≤ (0 : Int32) → mM X (d + 1) 200 5 [some ((.ref 86)), some (.int i1), some (.int i2), some (.int ((i3 + (mGet σ 110 (((8 : Int32) * i1) + i4))) + (1 : Int32))), some (.int (i4 + (1 : Int32))), o5, o6, o7] [] σ Q))))) : mM X (d + 1) 200 5 [some ((.ref 86)), some (.int i1), some (.int i2), some (.int i3), some (.int i4), o5, o6, o7] [] σ Q := by
  intro hp R
  have F : mF hp hp := mF.rf
  refine mm_R.wgv (pc' := 8) (L' := [some ((.ref 86)), some (.int i1), some (.int i2), some (.int i3), some (.int i4), o5, o6, o7]) (r := [.int i4]) 2 rfl rfl (m_gv R rfl ?_)
  obtain ⟨hi1, H⟩ := H
  refine mm_R.wai (pc' := 12) (L' := [some ((.ref 86)), some (.int i1), some (.int i2), some (.int i3), some (.int i4), o5, o6, o7]) (r := [.int i4]) (t := 1000) 1 rfl rfl rfl rfl (m_ai (i := i1) R (n := 96) (by decide) hi1 ?_)
  refine mm_R.br (L' := [some ((.ref 86)), some (.int i1), some (.int i2), some (.int i3), some (.int i4), o5, o6, o7]) (st' := []) (t := 48) (u := 16) (b := mm_cc .ge i4 (mGet σ 109 i1)) 1 rfl (fun c => ?_) (fun c => ?_)
  · replace H := H.1 (of_decide_eq_true c)
    refine mm_R.br (L' := [some ((.ref 86)), some (.int i1), some (.int i2), some (.int i3), some (.int i4), o5, o6, o7]) (st' := []) (t := 56) (u := 54) (b := mm_cc .le i3 (24 : Int32)) 3 rfl (fun c => ?_) (fun c => ?_)
    · replace H := H.1 (of_decide_eq_true c)
      exact mm_R.pn (pc' := 73) (L' := [some ((.ref 86)), some (.int i1), some (.int i2), some (.int i3), some (.int ((600 : Int32) + ((192 : Int32) * i1))), some (.int (0 : Int32)), some (.int (0 : Int32)), o7]) (st' := []) 10 rfl (H.use R F)
    · replace H := H.2 (of_decide_eq_false c)
      exact mm_R.rt (pc' := 55) (L' := [some ((.ref 86)), some (.int i1), some (.int i2), some (.int i3), some (.int i4), o5, o6, o7]) (st1 := [.int (0 : Int32)]) 1 rfl rfl rfl rfl rfl rfl ⟨_, R, F, H⟩
  · replace H := H.2 (of_decide_eq_false c)
    refine mm_R.wgv (pc' := 18) (L' := [some ((.ref 86)), some (.int i1), some (.int i2), some (.int i3), some (.int i4), o5, o6, o7]) (r := [.int i3]) 2 rfl rfl (m_gv R rfl ?_)
    obtain ⟨hi2, H⟩ := H
    refine mm_R.wai (pc' := 28) (L' := [some ((.ref 86)), some (.int i1), some (.int i2), some (.int i3), some (.int i4), o5, o6, o7]) (r := [.int i3]) (t := 1000) 5 rfl rfl rfl rfl (m_ai (i := (((8 : Int32) * i1) + i4)) R (n := 768) (by decide) hi2 ?_)
    refine mm_R.br (L' := [some ((.ref 86)), some (.int i1), some (.int i2), some (.int i3), some (.int i4), o5, o6, o7]) (st' := [.int (i3 + (mGet σ 110 (((8 : Int32) * i1) + i4)))]) (t := 39) (u := 35) (b := mm_cc .le i4 (0 : Int32)) 3 rfl (fun c => ?_) (fun c => ?_)
    · replace H := H.1 (of_decide_eq_true c)
      exact mm_R.pn (pc' := 5) (L' := [some ((.ref 86)), some (.int i1), some (.int i2), some (.int ((i3 + (mGet σ 110 (((8 : Int32) * i1) + i4))) + (0 : Int32))), some (.int (i4 + (1 : Int32))), o5, o6, o7]) (st' := []) 5 rfl (H.use R F)
    · replace H := H.2 (of_decide_eq_false c)
      exact mm_R.pn (pc' := 5) (L' := [some ((.ref 86)), some (.int i1), some (.int i2), some (.int ((i3 + (mGet σ 110 (((8 : Int32) * i1) + i4))) + (1 : Int32))), some (.int (i4 + (1 : Int32))), o5, o6, o7]) (st' := []) 6 rfl (H.use R F)
-- StepRunnerModel.echoed, from 73
set_option maxRecDepth 10000 in
theorem u200_73 {X : List Int32} {d : Nat} {i1 : Int32} {i2 : Int32} {i3 : Int32} {i4 : Int32} {i5 : Int32} {i6 : Int32} {o7 : Option Value} {σ : mS} {Q : Option Value → mS → Prop} (H : (0 ≤ i1 ∧ Int32.toNatClampNeg i1 < 96) ∧ (((mGet σ 109 i1) ≤ i6 → mM X d 139 0 (mm_L0 139 [(.ref 86), .int i2, .int (0 : Int32), .int i4, .int i3]) [] σ (m0_K (fun σ2 => mM X d 188 0 (mm_L0 188 [(.ref 86), .int i4, .int i3]) [] σ2 (mi_K (fun x4 σ3 => (x4 = 0 ∨ x4 = 1) ∧ Q (some (.int x4)) σ3))))) ∧ (¬ (mGet σ 109 i1) ≤ i6 → ((i6 ≤ (0 : Int32) → mM X (d + 1) 200 106 [some ((.ref 86)), some (.int i1), some (.int i2), some (.int i3), some (.int i4), some (.int i5), some (.int i6), some (.int (0 : Int32))] [] σ Q) ∧ (¬ i6 ≤ (0 : Int32) → mM X d 138 0 (mm_L0 138 [(.ref 86), .int (i4 + i5), .int (32 : Int32)]) [] σ (m0_K (fun σ5 => mM X (d + 1) 200 106 [some ((.ref 86)), some (.int i1), some (.int i2), some (.int i3), some (.int i4), some (.int (i5 + (1 : Int32))), some (.int i6), some (.int (0 : Int32))] [] σ5 Q))))))) : mM X (d + 1) 200 73 [some ((.ref 86)), some (.int i1), some (.int i2), some (.int i3), some (.int i4), some (.int i5), some (.int i6), o7] [] σ Q := by
  intro hp R
  have F : mF hp hp := mF.rf
  refine mm_R.wgv (pc' := 76) (L' := [some ((.ref 86)), some (.int i1), some (.int i2), some (.int i3), some (.int i4), some (.int i5), some (.int i6), o7]) (r := [.int i6]) 2 rfl rfl (m_gv R rfl ?_)
  obtain ⟨hi1, H⟩ := H
  refine mm_R.wai (pc' := 80) (L' := [some ((.ref 86)), some (.int i1), some (.int i2), some (.int i3), some (.int i4), some (.int i5), some (.int i6), o7]) (r := [.int i6]) (t := 1000) 1 rfl rfl rfl rfl (m_ai (i := i1) R (n := 96) (by decide) hi1 ?_)
  refine mm_R.br (L' := [some ((.ref 86)), some (.int i1), some (.int i2), some (.int i3), some (.int i4), some (.int i5), some (.int i6), o7]) (st' := []) (t := 162) (u := 84) (b := mm_cc .ge i6 (mGet σ 109 i1)) 1 rfl (fun c => ?_) (fun c => ?_)
  · replace H := H.1 (of_decide_eq_true c)
    refine mm_R.cV (pc' := 168) (L' := [some ((.ref 86)), some (.int i1), some (.int i2), some (.int i3), some (.int i4), some (.int i5), some (.int i6), o7]) (st1 := [.int i3, .int i4, .int (0 : Int32), .int i2, (.ref 86)]) (as := [.int i2, .int (0 : Int32), .int i4, .int i3]) (rest := []) 5 rfl rfl (mw_sp rfl rfl (Nat.le_of_ble_eq_true rfl) (mw_ac rfl (mw_ac rfl (mw_ac rfl (mw_ac rfl (mw_ac rfl mw_an))))) mw_an) rfl rfl (m_rc R rfl) ((H _ R).mono (fun o hp1 H => ?_))
    obtain ⟨σ2, R, F1, rfl, H⟩ := H
    replace F := F.tr F1
    refine mm_R.cV (pc' := 175) (L' := [some ((.ref 86)), some (.int i1), some (.int i2), some (.int i3), some (.int i4), some (.int i5), some (.int i6), o7]) (st1 := [.int i3, .int i4, (.ref 86)]) (as := [.int i4, .int i3]) (rest := []) 3 rfl rfl (mw_sp rfl rfl (Nat.le_of_ble_eq_true rfl) (mw_ac rfl (mw_ac rfl (mw_ac rfl mw_an))) mw_an) rfl rfl (m_rc R rfl) ((H _ R).mono (fun o hp1 H => ?_))
    obtain ⟨σ3, R, F1, x4, rfl, H⟩ := H
    replace F := F.tr F1
    exact mm_R.rt (pc' := 178) (L' := [some ((.ref 86)), some (.int i1), some (.int i2), some (.int i3), some (.int i4), some (.int i5), some (.int i6), o7]) (st1 := [.int x4]) 0 rfl rfl rfl rfl rfl (mw_rvi (ty := .boolean) (m_fz H.1)) ⟨_, R, F, H.2⟩
  · replace H := H.2 (of_decide_eq_false c)
    refine mm_R.br (L' := [some ((.ref 86)), some (.int i1), some (.int i2), some (.int i3), some (.int i4), some (.int i5), some (.int i6), o7]) (st' := []) (t := 103) (u := 89) (b := mm_cc .le i6 (0 : Int32)) 2 rfl (fun c => ?_) (fun c => ?_)
    · replace H := H.1 (of_decide_eq_true c)
      exact mm_R.pn (pc' := 106) (L' := [some ((.ref 86)), some (.int i1), some (.int i2), some (.int i3), some (.int i4), some (.int i5), some (.int i6), some (.int (0 : Int32))]) (st' := []) 2 rfl (H.use R F)
    · replace H := H.2 (of_decide_eq_false c)
      refine mm_R.cV (pc' := 97) (L' := [some ((.ref 86)), some (.int i1), some (.int i2), some (.int i3), some (.int i4), some (.int i5), some (.int i6), o7]) (st1 := [.int (32 : Int32), .int (i4 + i5), (.ref 86)]) (as := [.int (i4 + i5), .int (32 : Int32)]) (rest := []) 5 rfl rfl (mw_sp rfl rfl (Nat.le_of_ble_eq_true rfl) (mw_ac rfl (mw_ac rfl (mw_ac rfl mw_an))) mw_an) rfl rfl (m_rc R rfl) ((H _ R).mono (fun o hp1 H => ?_))
      obtain ⟨σ5, R, F1, rfl, H⟩ := H
      replace F := F.tr F1
      exact mm_R.pn (pc' := 106) (L' := [some ((.ref 86)), some (.int i1), some (.int i2), some (.int i3), some (.int i4), some (.int (i5 + (1 : Int32))), some (.int i6), some (.int (0 : Int32))]) (st' := []) 3 rfl (H.use R F)
-- StepRunnerModel.echoed, from 106
set_option maxRecDepth 10000 in
theorem u200_106 {X : List Int32} {d : Nat} {i1 : Int32} {i2 : Int32} {i3 : Int32} {i4 : Int32} {i5 : Int32} {i6 : Int32} {i7 : Int32} {σ : mS} {Q : Option Value → mS → Prop} (H : (0 ≤ (((8 : Int32) * i1) + i6) ∧ Int32.toNatClampNeg (((8 : Int32) * i1) + i6) < 768) ∧ (((mGet σ 110 (((8 : Int32) * i1) + i6)) ≤ i7 → mM X (d + 1) 200 73 [some ((.ref 86)), some (.int i1), some (.int i2), some (.int i3), some (.int i4), some (.int i5), some (.int (i6 + (1 : Int32))), some (.int i7)] [] σ Q) ∧ (¬ (mGet σ 110 (((8 : Int32) * i1) + i6)) ≤ i7 → mM X d 154 0 (mm_L0 154 [(.ref 86), .int ((i4 + ((24 : Int32) * i6)) + i7)]) [] σ (mi_K (fun x3 σ2 => mM X d 138 0 (mm_L0 138 [(.ref 86), .int (i4 + i5), .int x3]) [] σ2 (m0_K (fun σ4 => mM X (d + 1) 200 106 [some ((.ref 86)), some (.int i1), some (.int i2), some (.int i3), some (.int i4), some (.int (i5 + (1 : Int32))), some (.int i6), some (.int (i7 + (1 : Int32)))] [] σ4 Q))))))) : mM X (d + 1) 200 106 [some ((.ref 86)), some (.int i1), some (.int i2), some (.int i3), some (.int i4), some (.int i5), some (.int i6), some (.int i7)] [] σ Q := by
  intro hp R
  have F : mF hp hp := mF.rf
  refine mm_R.wgv (pc' := 109) (L' := [some ((.ref 86)), some (.int i1), some (.int i2), some (.int i3), some (.int i4), some (.int i5), some (.int i6), some (.int i7)]) (r := [.int i7]) 2 rfl rfl (m_gv R rfl ?_)
  obtain ⟨hi1, H⟩ := H
  refine mm_R.wai (pc' := 119) (L' := [some ((.ref 86)), some (.int i1), some (.int i2), some (.int i3), some (.int i4), some (.int i5), some (.int i6), some (.int i7)]) (r := [.int i7]) (t := 1000) 5 rfl rfl rfl rfl (m_ai (i := (((8 : Int32) * i1) + i6)) R (n := 768) (by decide) hi1 ?_)
  refine mm_R.br (L' := [some ((.ref 86)), some (.int i1), some (.int i2), some (.int i3), some (.int i4), some (.int i5), some (.int i6), some (.int i7)]) (st' := []) (t := 156) (u := 123) (b := mm_cc .ge i7 (mGet σ 110 (((8 : Int32) * i1) + i6))) 1 rfl (fun c => ?_) (fun c => ?_)
  · replace H := H.1 (of_decide_eq_true c)
    exact mm_R.pn (pc' := 73) (L' := [some ((.ref 86)), some (.int i1), some (.int i2), some (.int i3), some (.int i4), some (.int i5), some (.int (i6 + (1 : Int32))), some (.int i7)]) (st' := []) 2 rfl (H.use R F)
  · replace H := H.2 (of_decide_eq_false c)
    refine mm_R.cV (pc' := 141) (L' := [some ((.ref 86)), some (.int i1), some (.int i2), some (.int i3), some (.int i4), some (.int i5), some (.int i6), some (.int i7)]) (st1 := [.int ((i4 + ((24 : Int32) * i6)) + i7), (.ref 86), .int (i4 + i5), (.ref 86)]) (as := [.int ((i4 + ((24 : Int32) * i6)) + i7)]) (rest := [.int (i4 + i5), (.ref 86)]) 12 rfl rfl (mw_sp rfl rfl (Nat.le_of_ble_eq_true rfl) (mw_ac rfl (mw_ac rfl mw_an)) (mw_ac rfl (mw_ac rfl mw_an))) rfl rfl (m_rc R rfl) ((H _ R).mono (fun o hp1 H => ?_))
    obtain ⟨σ2, R, F1, x3, rfl, H⟩ := H
    replace F := F.tr F1
    refine mm_R.cV (pc' := 144) (L' := [some ((.ref 86)), some (.int i1), some (.int i2), some (.int i3), some (.int i4), some (.int i5), some (.int i6), some (.int i7)]) (st1 := [.int x3, .int (i4 + i5), (.ref 86)]) (as := [.int (i4 + i5), .int x3]) (rest := []) 0 rfl rfl (mw_sp rfl rfl (Nat.le_of_ble_eq_true rfl) (mw_ac rfl (mw_ac rfl (mw_ac rfl mw_an))) mw_an) rfl rfl (m_rc R rfl) ((H _ R).mono (fun o hp1 H => ?_))
    obtain ⟨σ4, R, F1, rfl, H⟩ := H
    replace F := F.tr F1
    exact mm_R.pn (pc' := 106) (L' := [some ((.ref 86)), some (.int i1), some (.int i2), some (.int i3), some (.int i4), some (.int (i5 + (1 : Int32))), some (.int i6), some (.int (i7 + (1 : Int32)))]) (st' := []) 3 rfl (H.use R F)
-- StepRunnerModel.summed, from 0
set_option maxRecDepth 10000 in
theorem u201_0 {X : List Int32} {d : Nat} {i1 : Int32} {i2 : Int32} {σ : mS} {Q : Option Value → mS → Prop} (H : mM X (d + 1) 201 5 [some ((.ref 86)), some (.int i1), some (.int i2), some (.int (0 : Int32)), some (.int (0 : Int32)), none, none, none, none, none, none] [] σ Q) : mM X (d + 1) 201 0 (mm_L0 201 [(.ref 86), .int i1, .int i2]) [] σ Q := by
  intro hp R
  have F : mF hp hp := mF.rf
  show mm_R X (d + 1) 201 0 [some ((.ref 86)), some (.int i1), some (.int i2), none, none, none, none, none, none, none, none] [] hp (mQ hp Q)
  exact mm_R.pn (pc' := 5) (L' := [some ((.ref 86)), some (.int i1), some (.int i2), some (.int (0 : Int32)), some (.int (0 : Int32)), none, none, none, none, none, none]) (st' := []) 4 rfl (H.use R F)
-- StepRunnerModel.summed, from 5
set_option maxRecDepth 10000 in
theorem u201_5 {X : List Int32} {d : Nat} {i1 : Int32} {i2 : Int32} {i3 : Int32} {i4 : Int32} {o5 : Option Value} {o6 : Option Value} {o7 : Option Value} {o8 : Option Value} {o9 : Option Value} {o10 : Option Value} {σ : mS} {Q : Option Value → mS → Prop} (H : (0 ≤ i1 ∧ Int32.toNatClampNeg i1 < 96) ∧ (((mGet σ 109 i1) ≤ i4 → mM X d 122 0 (mm_L0 122 [(.ref 86), .int i2, .int (1 : Int32), .int (0 : Int32), .int i3]) [] σ (m0_K (fun σ2 => mM X d 127 0 (mm_L0 127 [.int i3, .int (-999999 : Int32), .int (999999 : Int32)]) [] σ2 (mi_K (fun x4 σ3 => (x4 = 0 ∨ x4 = 1) ∧ Q (some (.int x4)) σ3))))) ∧ (¬ (mGet σ 109 i1) ≤ i4 → (0 ≤ (((8 : Int32) * i1) + i4) ∧ Int32.toNatClampNeg (((8 : Int32) * i1) + i4) < 768) ∧ (((mGet σ 110 (((8 : Int32) * i1) + i4)) ≤ (0 : Int32) → (((0 : Int32) = (0 : Int32) → mM X (d + 1) 201 80 [some ((.ref 86)), some (.int i1), some (.int i2), some (.int i3), some (.int i4), some (.int (((600 : Int32) + ((192 : Int32) * i1)) + ((24 : Int32) * i4))), some (.int (mGet σ 110 (((8 : Int32) * i1) + i4))), some (.int (0 : Int32)), o8, o9, o10] [.int (0 : Int32)] σ Q) ∧ (¬ (0 : Int32) = (0 : Int32) → mM X (d + 1) 201 80 [some ((.ref 86)), some (.int i1), some (.int i2), some (.int i3), some (.int i4), some (.int (((600 : Int32) + ((192 : Int32) * i1)) + ((24 : Int32) * i4))), some (.int (mGet σ 110 (((8 : Int32) * i1) + i4))), some (.int (0 : Int32)), o8, o9, o10] [.int (1 : Int32)] σ Q))) ∧ (¬ (mGet σ 110 (((8 : Int32) * i1) + i4)) ≤ (0 : Int32) → mM X d 154 0 (mm_L0 154 [(.ref 86), .int (((600 : Int32) + ((192 : Int32) * i1)) + ((24 : Int32) * i4))]) [] σ (mi_K (fun x7 σ6 => ((¬ x7 = (45 : Int32) → (((0 : Int32) = (0 : Int32) → mM X (d + 1) 201 80 [some ((.ref 86)), some (.int i1), some (.int i2), some (.int i3), some (.int i4), some (.int (((600 : Int32) + ((192 : Int32) * i1)) + ((24 : Int32) * i4))), some (.int (mGet σ 110 (((8 : Int32) * i1) + i4))), some (.int (0 : Int32)), o8, o9, o10] [.int (0 : Int32)] σ6 Q) ∧ (¬ (0 : Int32) = (0 : Int32) → mM X (d + 1) 201 80 [some ((.ref 86)), some (.int i1), some (.int i2), some (.int i3), some (.int i4), some (.int (((600 : Int32) + ((192 : Int32) * i1)) + ((24 : Int32) * i4))), some (.int (mGet σ 110 (((8 : Int32) * i1) + i4))), some (.int (0 : Int32)), o8, o9, o10] [.int (1 : Int32)] σ6 Q))) ∧ (x7 = (45 : Int32) → (((1 : Int32) = (0 : Int32) → mM X (d + 1) 201 80 [some ((.ref 86)), some (.int i1), some (.int i2), some (.int i3), some (.int i4), some (.int (((600 : Int32) + ((192 : Int32) * i1)) + ((24 : Int32) * i4))), some (.int (mGet σ 110 (((8 : Int32) * i1) + i4))), some (.int (1 : Int32)), o8, o9, o10] [.int (0 : Int32)] σ6 Q) ∧ (¬ (1 : Int32) = (0 : Int32) → mM X (d + 1) 201 80 [some ((.ref 86)), some (.int i1), some (.int i2), some (.int i3), some (.int i4), some (.int (((600 : Int32) + ((192 : Int32) * i1)) + ((24 : Int32) * i4))), some (.int (mGet σ 110 (((8 : Int32) * i1) + i4))), some (.int (1 : Int32)), o8, o9, o10] [.int (1 : Int32)] σ6 Q))))))))))) : mM X (d + 1) 201 5 [some ((.ref 86)), some (.int i1), some (.int i2), some (.int i3), some (.int i4), o5, o6, o7, o8, o9, o10] [] σ Q := by
  intro hp R
  have F : mF hp hp := mF.rf
  refine mm_R.wgv (pc' := 8) (L' := [some ((.ref 86)), some (.int i1), some (.int i2), some (.int i3), some (.int i4), o5, o6, o7, o8, o9, o10]) (r := [.int i4]) 2 rfl rfl (m_gv R rfl ?_)
  obtain ⟨hi1, H⟩ := H
  refine mm_R.wai (pc' := 12) (L' := [some ((.ref 86)), some (.int i1), some (.int i2), some (.int i3), some (.int i4), o5, o6, o7, o8, o9, o10]) (r := [.int i4]) (t := 1000) 1 rfl rfl rfl rfl (m_ai (i := i1) R (n := 96) (by decide) hi1 ?_)
  refine mm_R.br (L' := [some ((.ref 86)), some (.int i1), some (.int i2), some (.int i3), some (.int i4), o5, o6, o7, o8, o9, o10]) (st' := []) (t := 203) (u := 16) (b := mm_cc .ge i4 (mGet σ 109 i1)) 1 rfl (fun c => ?_) (fun c => ?_)
  · replace H := H.1 (of_decide_eq_true c)
    refine mm_R.cV (pc' := 208) (L' := [some ((.ref 86)), some (.int i1), some (.int i2), some (.int i3), some (.int i4), o5, o6, o7, o8, o9, o10]) (st1 := [.int i3, .int (0 : Int32), .int (1 : Int32), .int i2, (.ref 86)]) (as := [.int i2, .int (1 : Int32), .int (0 : Int32), .int i3]) (rest := []) 5 rfl rfl (mw_sp rfl rfl (Nat.le_of_ble_eq_true rfl) (mw_ac rfl (mw_ac rfl (mw_ac rfl (mw_ac rfl (mw_ac rfl mw_an))))) mw_an) rfl rfl (m_rc R rfl) ((H _ R).mono (fun o hp1 H => ?_))
    obtain ⟨σ2, R, F1, rfl, H⟩ := H
    replace F := F.tr F1
    refine mm_R.cS (pc' := 218) (L' := [some ((.ref 86)), some (.int i1), some (.int i2), some (.int i3), some (.int i4), o5, o6, o7, o8, o9, o10]) (st1 := [.int (999999 : Int32), .int (-999999 : Int32), .int i3]) (as := [.int i3, .int (-999999 : Int32), .int (999999 : Int32)]) (rest := []) 3 rfl rfl (mw_sp rfl rfl (Nat.le_of_ble_eq_true rfl) (mw_ac rfl (mw_ac rfl (mw_ac rfl mw_an))) mw_an) rfl rfl ((H _ R).mono (fun o hp1 H => ?_))
    obtain ⟨σ3, R, F1, x4, rfl, H⟩ := H
    replace F := F.tr F1
    exact mm_R.rt (pc' := 221) (L' := [some ((.ref 86)), some (.int i1), some (.int i2), some (.int i3), some (.int i4), o5, o6, o7, o8, o9, o10]) (st1 := [.int x4]) 0 rfl rfl rfl rfl rfl (mw_rvi (ty := .boolean) (m_fz H.1)) ⟨_, R, F, H.2⟩
  · replace H := H.2 (of_decide_eq_false c)
    refine mm_R.wgv (pc' := 34) (L' := [some ((.ref 86)), some (.int i1), some (.int i2), some (.int i3), some (.int i4), some (.int (((600 : Int32) + ((192 : Int32) * i1)) + ((24 : Int32) * i4))), o6, o7, o8, o9, o10]) (r := []) 11 rfl rfl (m_gv R rfl ?_)
    obtain ⟨hi5, H⟩ := H
    refine mm_R.wai (pc' := 44) (L' := [some ((.ref 86)), some (.int i1), some (.int i2), some (.int i3), some (.int i4), some (.int (((600 : Int32) + ((192 : Int32) * i1)) + ((24 : Int32) * i4))), o6, o7, o8, o9, o10]) (r := []) (t := 1000) 5 rfl rfl rfl rfl (m_ai (i := (((8 : Int32) * i1) + i4)) R (n := 768) (by decide) hi5 ?_)
    refine mm_R.br (L' := [some ((.ref 86)), some (.int i1), some (.int i2), some (.int i3), some (.int i4), some (.int (((600 : Int32) + ((192 : Int32) * i1)) + ((24 : Int32) * i4))), some (.int (mGet σ 110 (((8 : Int32) * i1) + i4))), o7, o8, o9, o10]) (st' := []) (t := 67) (u := 52) (b := mm_cc .le (mGet σ 110 (((8 : Int32) * i1) + i4)) (0 : Int32)) 3 rfl (fun c => ?_) (fun c => ?_)
    · replace H := H.1 (of_decide_eq_true c)
      refine mm_R.br (L' := [some ((.ref 86)), some (.int i1), some (.int i2), some (.int i3), some (.int i4), some (.int (((600 : Int32) + ((192 : Int32) * i1)) + ((24 : Int32) * i4))), some (.int (mGet σ 110 (((8 : Int32) * i1) + i4))), some (.int (0 : Int32)), o8, o9, o10]) (st' := []) (t := 79) (u := 75) (b := mm_cc .eq (0 : Int32) (0 : Int32)) 4 rfl (fun c => ?_) (fun c => ?_)
      · replace H := H.1 (of_decide_eq_true c)
        exact mm_R.pn (pc' := 80) (L' := [some ((.ref 86)), some (.int i1), some (.int i2), some (.int i3), some (.int i4), some (.int (((600 : Int32) + ((192 : Int32) * i1)) + ((24 : Int32) * i4))), some (.int (mGet σ 110 (((8 : Int32) * i1) + i4))), some (.int (0 : Int32)), o8, o9, o10]) (st' := [.int (0 : Int32)]) 1 rfl (H.use R F)
      · replace H := H.2 (of_decide_eq_false c)
        exact mm_R.pn (pc' := 80) (L' := [some ((.ref 86)), some (.int i1), some (.int i2), some (.int i3), some (.int i4), some (.int (((600 : Int32) + ((192 : Int32) * i1)) + ((24 : Int32) * i4))), some (.int (mGet σ 110 (((8 : Int32) * i1) + i4))), some (.int (0 : Int32)), o8, o9, o10]) (st' := [.int (1 : Int32)]) 2 rfl (H.use R F)
    · replace H := H.2 (of_decide_eq_false c)
      refine mm_R.cV (pc' := 55) (L' := [some ((.ref 86)), some (.int i1), some (.int i2), some (.int i3), some (.int i4), some (.int (((600 : Int32) + ((192 : Int32) * i1)) + ((24 : Int32) * i4))), some (.int (mGet σ 110 (((8 : Int32) * i1) + i4))), o7, o8, o9, o10]) (st1 := [.int (((600 : Int32) + ((192 : Int32) * i1)) + ((24 : Int32) * i4)), (.ref 86)]) (as := [.int (((600 : Int32) + ((192 : Int32) * i1)) + ((24 : Int32) * i4))]) (rest := []) 2 rfl rfl (mw_sp rfl rfl (Nat.le_of_ble_eq_true rfl) (mw_ac rfl (mw_ac rfl mw_an)) mw_an) rfl rfl (m_rc R rfl) ((H _ R).mono (fun o hp1 H => ?_))
      obtain ⟨σ6, R, F1, x7, rfl, H⟩ := H
      replace F := F.tr F1
      refine mm_R.br (L' := [some ((.ref 86)), some (.int i1), some (.int i2), some (.int i3), some (.int i4), some (.int (((600 : Int32) + ((192 : Int32) * i1)) + ((24 : Int32) * i4))), some (.int (mGet σ 110 (((8 : Int32) * i1) + i4))), o7, o8, o9, o10]) (st' := []) (t := 67) (u := 63) (b := mm_cc .ne x7 (45 : Int32)) 2 rfl (fun c => ?_) (fun c => ?_)
      · replace H := H.1 (of_decide_eq_true c)
        refine mm_R.br (L' := [some ((.ref 86)), some (.int i1), some (.int i2), some (.int i3), some (.int i4), some (.int (((600 : Int32) + ((192 : Int32) * i1)) + ((24 : Int32) * i4))), some (.int (mGet σ 110 (((8 : Int32) * i1) + i4))), some (.int (0 : Int32)), o8, o9, o10]) (st' := []) (t := 79) (u := 75) (b := mm_cc .eq (0 : Int32) (0 : Int32)) 4 rfl (fun c => ?_) (fun c => ?_)
        · replace H := H.1 (of_decide_eq_true c)
          exact mm_R.pn (pc' := 80) (L' := [some ((.ref 86)), some (.int i1), some (.int i2), some (.int i3), some (.int i4), some (.int (((600 : Int32) + ((192 : Int32) * i1)) + ((24 : Int32) * i4))), some (.int (mGet σ 110 (((8 : Int32) * i1) + i4))), some (.int (0 : Int32)), o8, o9, o10]) (st' := [.int (0 : Int32)]) 1 rfl (H.use R F)
        · replace H := H.2 (of_decide_eq_false c)
          exact mm_R.pn (pc' := 80) (L' := [some ((.ref 86)), some (.int i1), some (.int i2), some (.int i3), some (.int i4), some (.int (((600 : Int32) + ((192 : Int32) * i1)) + ((24 : Int32) * i4))), some (.int (mGet σ 110 (((8 : Int32) * i1) + i4))), some (.int (0 : Int32)), o8, o9, o10]) (st' := [.int (1 : Int32)]) 2 rfl (H.use R F)
      · replace H := H.2 (Decidable.of_not_not (of_decide_eq_false c))
        refine mm_R.br (L' := [some ((.ref 86)), some (.int i1), some (.int i2), some (.int i3), some (.int i4), some (.int (((600 : Int32) + ((192 : Int32) * i1)) + ((24 : Int32) * i4))), some (.int (mGet σ 110 (((8 : Int32) * i1) + i4))), some (.int (1 : Int32)), o8, o9, o10]) (st' := []) (t := 79) (u := 75) (b := mm_cc .eq (1 : Int32) (0 : Int32)) 5 rfl (fun c => ?_) (fun c => ?_)
        · replace H := H.1 (of_decide_eq_true c)
          exact mm_R.pn (pc' := 80) (L' := [some ((.ref 86)), some (.int i1), some (.int i2), some (.int i3), some (.int i4), some (.int (((600 : Int32) + ((192 : Int32) * i1)) + ((24 : Int32) * i4))), some (.int (mGet σ 110 (((8 : Int32) * i1) + i4))), some (.int (1 : Int32)), o8, o9, o10]) (st' := [.int (0 : Int32)]) 1 rfl (H.use R F)
        · replace H := H.2 (of_decide_eq_false c)
          exact mm_R.pn (pc' := 80) (L' := [some ((.ref 86)), some (.int i1), some (.int i2), some (.int i3), some (.int i4), some (.int (((600 : Int32) + ((192 : Int32) * i1)) + ((24 : Int32) * i4))), some (.int (mGet σ 110 (((8 : Int32) * i1) + i4))), some (.int (1 : Int32)), o8, o9, o10]) (st' := [.int (1 : Int32)]) 2 rfl (H.use R F)
-- StepRunnerModel.summed, from 80
set_option maxRecDepth 10000 in
theorem u201_80 {X : List Int32} {d : Nat} {i1 : Int32} {i2 : Int32} {i3 : Int32} {i4 : Int32} {i5 : Int32} {i6 : Int32} {i7 : Int32} {o8 : Option Value} {o9 : Option Value} {o10 : Option Value} {s0 : Int32} {σ : mS} {Q : Option Value → mS → Prop} (H : (((i6 - s0) < (1 : Int32) → Q (some (.int (0 : Int32))) σ) ∧ (¬ (i6 - s0) < (1 : Int32) → (((6 : Int32) < (i6 - s0) → Q (some (.int (0 : Int32))) σ) ∧ (¬ (6 : Int32) < (i6 - s0) → mM X d 154 0 (mm_L0 154 [(.ref 86), .int (i5 + s0)]) [] σ (mi_K (fun x2 σ1 => ((¬ x2 = (48 : Int32) → mM X (d + 1) 201 130 [some ((.ref 86)), some (.int i1), some (.int i2), some (.int i3), some (.int i4), some (.int i5), some (.int i6), some (.int i7), some (.int s0), some (.int (0 : Int32)), some (.int s0)] [] σ1 Q) ∧ (x2 = (48 : Int32) → ((i6 ≤ (1 : Int32) → mM X (d + 1) 201 130 [some ((.ref 86)), some (.int i1), some (.int i2), some (.int i3), some (.int i4), some (.int i5), some (.int i6), some (.int i7), some (.int s0), some (.int (0 : Int32)), some (.int s0)] [] σ1 Q) ∧ (¬ i6 ≤ (1 : Int32) → Q (some (.int (0 : Int32))) σ1))))))))))) : mM X (d + 1) 201 80 [some ((.ref 86)), some (.int i1), some (.int i2), some (.int i3), some (.int i4), some (.int i5), some (.int i6), some (.int i7), o8, o9, o10] [.int s0] σ Q := by
  intro hp R
  have F : mF hp hp := mF.rf
  refine mm_R.br (L' := [some ((.ref 86)), some (.int i1), some (.int i2), some (.int i3), some (.int i4), some (.int i5), some (.int i6), some (.int i7), some (.int s0), o9, o10]) (st' := []) (t := 121) (u := 91) (b := mm_cc .lt (i6 - s0) (1 : Int32)) 6 rfl (fun c => ?_) (fun c => ?_)
  · replace H := H.1 (of_decide_eq_true c)
    exact mm_R.rt (pc' := 122) (L' := [some ((.ref 86)), some (.int i1), some (.int i2), some (.int i3), some (.int i4), some (.int i5), some (.int i6), some (.int i7), some (.int s0), o9, o10]) (st1 := [.int (0 : Int32)]) 1 rfl rfl rfl rfl rfl rfl ⟨_, R, F, H⟩
  · replace H := H.2 (of_decide_eq_false c)
    refine mm_R.br (L' := [some ((.ref 86)), some (.int i1), some (.int i2), some (.int i3), some (.int i4), some (.int i5), some (.int i6), some (.int i7), some (.int s0), o9, o10]) (st' := []) (t := 121) (u := 101) (b := mm_cc .gt (i6 - s0) (6 : Int32)) 5 rfl (fun c => ?_) (fun c => ?_)
    · replace H := H.1 (of_decide_eq_true c)
      exact mm_R.rt (pc' := 122) (L' := [some ((.ref 86)), some (.int i1), some (.int i2), some (.int i3), some (.int i4), some (.int i5), some (.int i6), some (.int i7), some (.int s0), o9, o10]) (st1 := [.int (0 : Int32)]) 1 rfl rfl rfl rfl rfl rfl ⟨_, R, F, H⟩
    · replace H := H.2 (of_decide_eq_false c)
      refine mm_R.cV (pc' := 107) (L' := [some ((.ref 86)), some (.int i1), some (.int i2), some (.int i3), some (.int i4), some (.int i5), some (.int i6), some (.int i7), some (.int s0), o9, o10]) (st1 := [.int (i5 + s0), (.ref 86)]) (as := [.int (i5 + s0)]) (rest := []) 4 rfl rfl (mw_sp rfl rfl (Nat.le_of_ble_eq_true rfl) (mw_ac rfl (mw_ac rfl mw_an)) mw_an) rfl rfl (m_rc R rfl) ((H _ R).mono (fun o hp1 H => ?_))
      obtain ⟨σ1, R, F1, x2, rfl, H⟩ := H
      replace F := F.tr F1
      refine mm_R.br (L' := [some ((.ref 86)), some (.int i1), some (.int i2), some (.int i3), some (.int i4), some (.int i5), some (.int i6), some (.int i7), some (.int s0), o9, o10]) (st' := []) (t := 123) (u := 115) (b := mm_cc .ne x2 (48 : Int32)) 2 rfl (fun c => ?_) (fun c => ?_)
      · replace H := H.1 (of_decide_eq_true c)
        exact mm_R.pn (pc' := 130) (L' := [some ((.ref 86)), some (.int i1), some (.int i2), some (.int i3), some (.int i4), some (.int i5), some (.int i6), some (.int i7), some (.int s0), some (.int (0 : Int32)), some (.int s0)]) (st' := []) 4 rfl (H.use R F)
      · replace H := H.2 (Decidable.of_not_not (of_decide_eq_false c))
        refine mm_R.br (L' := [some ((.ref 86)), some (.int i1), some (.int i2), some (.int i3), some (.int i4), some (.int i5), some (.int i6), some (.int i7), some (.int s0), o9, o10]) (st' := []) (t := 123) (u := 121) (b := mm_cc .le i6 (1 : Int32)) 3 rfl (fun c => ?_) (fun c => ?_)
        · replace H := H.1 (of_decide_eq_true c)
          exact mm_R.pn (pc' := 130) (L' := [some ((.ref 86)), some (.int i1), some (.int i2), some (.int i3), some (.int i4), some (.int i5), some (.int i6), some (.int i7), some (.int s0), some (.int (0 : Int32)), some (.int s0)]) (st' := []) 4 rfl (H.use R F)
        · replace H := H.2 (of_decide_eq_false c)
          exact mm_R.rt (pc' := 122) (L' := [some ((.ref 86)), some (.int i1), some (.int i2), some (.int i3), some (.int i4), some (.int i5), some (.int i6), some (.int i7), some (.int s0), o9, o10]) (st1 := [.int (0 : Int32)]) 1 rfl rfl rfl rfl rfl rfl ⟨_, R, F, H⟩
-- StepRunnerModel.summed, from 130
set_option maxRecDepth 10000 in
theorem u201_130 {X : List Int32} {d : Nat} {i1 : Int32} {i2 : Int32} {i3 : Int32} {i4 : Int32} {i5 : Int32} {i6 : Int32} {i7 : Int32} {i8 : Int32} {i9 : Int32} {i10 : Int32} {σ : mS} {Q : Option Value → mS → Prop} (H : ((i6 ≤ i10 → ((i7 = (0 : Int32) → mM X (d + 1) 201 5 [some ((.ref 86)), some (.int i1), some (.int i2), some (.int (i3 + i9)), some (.int (i4 + (1 : Int32))), some (.int i5), some (.int i6), some (.int i7), some (.int i8), some (.int i9), some (.int i10)] [] σ Q) ∧ (¬ i7 = (0 : Int32) → mM X (d + 1) 201 5 [some ((.ref 86)), some (.int i1), some (.int i2), some (.int (i3 - i9)), some (.int (i4 + (1 : Int32))), some (.int i5), some (.int i6), some (.int i7), some (.int i8), some (.int i9), some (.int i10)] [] σ Q))) ∧ (¬ i6 ≤ i10 → mM X d 154 0 (mm_L0 154 [(.ref 86), .int (i5 + i10)]) [] σ (mi_K (fun x2 σ1 => mM X d 141 0 (mm_L0 141 [.int x2]) [] σ1 (mi_K (fun x4 σ3 => ((¬ x4 = (0 : Int32) → mM X d 154 0 (mm_L0 154 [(.ref 86), .int (i5 + i10)]) [] σ3 (mi_K (fun x6 σ5 => mM X (d + 1) 201 130 [some ((.ref 86)), some (.int i1), some (.int i2), some (.int i3), some (.int i4), some (.int i5), some (.int i6), some (.int i7), some (.int i8), some (.int ((((10 : Int32) * i9) + x6) - (48 : Int32))), some (.int (i10 + (1 : Int32)))] [] σ5 Q))) ∧ (x4 = (0 : Int32) → Q (some (.int (0 : Int32))) σ3))))))))) : mM X (d + 1) 201 130 [some ((.ref 86)), some (.int i1), some (.int i2), some (.int i3), some (.int i4), some (.int i5), some (.int i6), some (.int i7), some (.int i8), some (.int i9), some (.int i10)] [] σ Q := by
  intro hp R
  have F : mF hp hp := mF.rf
  refine mm_R.br (L' := [some ((.ref 86)), some (.int i1), some (.int i2), some (.int i3), some (.int i4), some (.int i5), some (.int i6), some (.int i7), some (.int i8), some (.int i9), some (.int i10)]) (st' := []) (t := 180) (u := 137) (b := mm_cc .ge i10 i6) 3 rfl (fun c => ?_) (fun c => ?_)
  · replace H := H.1 (of_decide_eq_true c)
    refine mm_R.br (L' := [some ((.ref 86)), some (.int i1), some (.int i2), some (.int i3), some (.int i4), some (.int i5), some (.int i6), some (.int i7), some (.int i8), some (.int i9), some (.int i10)]) (st' := []) (t := 192) (u := 185) (b := mm_cc .eq i7 (0 : Int32)) 2 rfl (fun c => ?_) (fun c => ?_)
    · replace H := H.1 (of_decide_eq_true c)
      exact mm_R.pn (pc' := 5) (L' := [some ((.ref 86)), some (.int i1), some (.int i2), some (.int (i3 + i9)), some (.int (i4 + (1 : Int32))), some (.int i5), some (.int i6), some (.int i7), some (.int i8), some (.int i9), some (.int i10)]) (st' := []) 6 rfl (H.use R F)
    · replace H := H.2 (of_decide_eq_false c)
      exact mm_R.pn (pc' := 5) (L' := [some ((.ref 86)), some (.int i1), some (.int i2), some (.int (i3 - i9)), some (.int (i4 + (1 : Int32))), some (.int i5), some (.int i6), some (.int i7), some (.int i8), some (.int i9), some (.int i10)]) (st' := []) 7 rfl (H.use R F)
  · replace H := H.2 (of_decide_eq_false c)
    refine mm_R.cV (pc' := 143) (L' := [some ((.ref 86)), some (.int i1), some (.int i2), some (.int i3), some (.int i4), some (.int i5), some (.int i6), some (.int i7), some (.int i8), some (.int i9), some (.int i10)]) (st1 := [.int (i5 + i10), (.ref 86)]) (as := [.int (i5 + i10)]) (rest := []) 4 rfl rfl (mw_sp rfl rfl (Nat.le_of_ble_eq_true rfl) (mw_ac rfl (mw_ac rfl mw_an)) mw_an) rfl rfl (m_rc R rfl) ((H _ R).mono (fun o hp1 H => ?_))
    obtain ⟨σ1, R, F1, x2, rfl, H⟩ := H
    replace F := F.tr F1
    refine mm_R.cS (pc' := 146) (L' := [some ((.ref 86)), some (.int i1), some (.int i2), some (.int i3), some (.int i4), some (.int i5), some (.int i6), some (.int i7), some (.int i8), some (.int i9), some (.int i10)]) (st1 := [.int x2]) (as := [.int x2]) (rest := []) 0 rfl rfl (mw_sp rfl rfl (Nat.le_of_ble_eq_true rfl) (mw_ac rfl mw_an) mw_an) rfl rfl ((H _ R).mono (fun o hp1 H => ?_))
    obtain ⟨σ3, R, F1, x4, rfl, H⟩ := H
    replace F := F.tr F1
    refine mm_R.br (L' := [some ((.ref 86)), some (.int i1), some (.int i2), some (.int i3), some (.int i4), some (.int i5), some (.int i6), some (.int i7), some (.int i8), some (.int i9), some (.int i10)]) (st' := []) (t := 154) (u := 152) (b := mm_cc .ne x4 (0 : Int32)) 1 rfl (fun c => ?_) (fun c => ?_)
    · replace H := H.1 (of_decide_eq_true c)
      refine mm_R.cV (pc' := 165) (L' := [some ((.ref 86)), some (.int i1), some (.int i2), some (.int i3), some (.int i4), some (.int i5), some (.int i6), some (.int i7), some (.int i8), some (.int i9), some (.int i10)]) (st1 := [.int (i5 + i10), (.ref 86), .int ((10 : Int32) * i9)]) (as := [.int (i5 + i10)]) (rest := [.int ((10 : Int32) * i9)]) 7 rfl rfl (mw_sp rfl rfl (Nat.le_of_ble_eq_true rfl) (mw_ac rfl (mw_ac rfl mw_an)) (mw_ac rfl mw_an)) rfl rfl (m_rc R rfl) ((H _ R).mono (fun o hp1 H => ?_))
      obtain ⟨σ5, R, F1, x6, rfl, H⟩ := H
      replace F := F.tr F1
      exact mm_R.pn (pc' := 130) (L' := [some ((.ref 86)), some (.int i1), some (.int i2), some (.int i3), some (.int i4), some (.int i5), some (.int i6), some (.int i7), some (.int i8), some (.int ((((10 : Int32) * i9) + x6) - (48 : Int32))), some (.int (i10 + (1 : Int32)))]) (st' := []) 6 rfl (H.use R F)
    · replace H := H.2 (Decidable.of_not_not (of_decide_eq_false c))
      exact mm_R.rt (pc' := 153) (L' := [some ((.ref 86)), some (.int i1), some (.int i2), some (.int i3), some (.int i4), some (.int i5), some (.int i6), some (.int i7), some (.int i8), some (.int i9), some (.int i10)]) (st1 := [.int (0 : Int32)]) 1 rfl rfl rfl rfl rfl rfl ⟨_, R, F, H⟩
