-- StepRunnerModel.isLength, from 0
set_option maxRecDepth 10000 in
theorem w159_0 {X : List Int32} {d : Nat} {a0 : Nat} {i1 : Int32} {hp : mm_H} {Q : Option Value → mm_H → Prop} (H : mw_rc (.ref a0) 136 hp ∧ mm_R X d 136 0 (mm_L0 136 [(.ref a0), .int i1]) [] hp (mw_ri (fun x3 hp2 => ((¬ x3 = (46 : Int32) → Q (some (.int (0 : Int32))) hp2) ∧ (x3 = (46 : Int32) → mw_rc (.ref a0) 136 hp2 ∧ mm_R X d 136 0 (mm_L0 136 [(.ref a0), .int (i1 + (1 : Int32))]) [] hp2 (mw_ri (fun x6 hp5 => ((¬ x6 = (108 : Int32) → Q (some (.int (0 : Int32))) hp5) ∧ (x6 = (108 : Int32) → mw_rc (.ref a0) 136 hp5 ∧ mm_R X d 136 0 (mm_L0 136 [(.ref a0), .int (i1 + (2 : Int32))]) [] hp5 (mw_ri (fun x9 hp8 => ((¬ x9 = (101 : Int32) → Q (some (.int (0 : Int32))) hp8) ∧ (x9 = (101 : Int32) → mw_rc (.ref a0) 136 hp8 ∧ mm_R X d 136 0 (mm_L0 136 [(.ref a0), .int (i1 + (3 : Int32))]) [] hp8 (mw_ri (fun x12 hp11 => ((¬ x12 = (110 : Int32) → Q (some (.int (0 : Int32))) hp11) ∧ (x12 = (110 : Int32) → mw_rc (.ref a0) 136 hp11 ∧ mm_R X d 136 0 (mm_L0 136 [(.ref a0), .int (i1 + (4 : Int32))]) [] hp11 (mw_ri (fun x15 hp14 => ((¬ x15 = (103 : Int32) → Q (some (.int (0 : Int32))) hp14) ∧ (x15 = (103 : Int32) → mw_rc (.ref a0) 136 hp14 ∧ mm_R X d 136 0 (mm_L0 136 [(.ref a0), .int (i1 + (5 : Int32))]) [] hp14 (mw_ri (fun x18 hp17 => ((¬ x18 = (116 : Int32) → Q (some (.int (0 : Int32))) hp17) ∧ (x18 = (116 : Int32) → mw_rc (.ref a0) 136 hp17 ∧ mm_R X d 136 0 (mm_L0 136 [(.ref a0), .int (i1 + (6 : Int32))]) [] hp17 (mw_ri (fun x21 hp20 => ((¬ x21 = (104 : Int32) → Q (some (.int (0 : Int32))) hp20) ∧ (x21 = (104 : Int32) → Q (some (.int (1 : Int32))) hp20))))))))))))))))))))))))))))) : mm_R X (d + 1) 159 0 (mm_L0 159 [(.ref a0), .int i1]) [] hp Q := by
  show mm_R X (d + 1) 159 0 [some ((.ref a0)), some (.int i1)] [] hp Q
  obtain ⟨hc1, H⟩ := H
  refine mm_R.cV (pc' := 2) (L' := [some ((.ref a0)), some (.int i1)]) (st1 := [.int i1, (.ref a0)]) (as := [.int i1]) (rest := []) 2 rfl rfl (mw_sp rfl rfl (Nat.le_of_ble_eq_true rfl) (mw_ac rfl (mw_ac rfl mw_an)) mw_an) rfl rfl hc1 (H.mono (fun o hp2 H => ?_))
  obtain ⟨x3, rfl, H⟩ := H
  refine mm_R.br (L' := [some ((.ref a0)), some (.int i1)]) (st' := []) (t := 87) (u := 10) (b := mm_cc .ne x3 (46 : Int32)) 2 rfl (fun c => ?_) (fun c => ?_)
  · replace H := H.1 (of_decide_eq_true c)
    exact mm_R.rt (pc' := 88) (L' := [some ((.ref a0)), some (.int i1)]) (st1 := [.int (0 : Int32)]) 1 rfl rfl rfl rfl rfl rfl H
  · replace H := H.2 (Decidable.of_not_not (of_decide_eq_false c))
    obtain ⟨hc4, H⟩ := H
    refine mm_R.cV (pc' := 14) (L' := [some ((.ref a0)), some (.int i1)]) (st1 := [.int (i1 + (1 : Int32)), (.ref a0)]) (as := [.int (i1 + (1 : Int32))]) (rest := []) 4 rfl rfl (mw_sp rfl rfl (Nat.le_of_ble_eq_true rfl) (mw_ac rfl (mw_ac rfl mw_an)) mw_an) rfl rfl hc4 (H.mono (fun o hp5 H => ?_))
    obtain ⟨x6, rfl, H⟩ := H
    refine mm_R.br (L' := [some ((.ref a0)), some (.int i1)]) (st' := []) (t := 87) (u := 22) (b := mm_cc .ne x6 (108 : Int32)) 2 rfl (fun c => ?_) (fun c => ?_)
    · replace H := H.1 (of_decide_eq_true c)
      exact mm_R.rt (pc' := 88) (L' := [some ((.ref a0)), some (.int i1)]) (st1 := [.int (0 : Int32)]) 1 rfl rfl rfl rfl rfl rfl H
    · replace H := H.2 (Decidable.of_not_not (of_decide_eq_false c))
      obtain ⟨hc7, H⟩ := H
      refine mm_R.cV (pc' := 26) (L' := [some ((.ref a0)), some (.int i1)]) (st1 := [.int (i1 + (2 : Int32)), (.ref a0)]) (as := [.int (i1 + (2 : Int32))]) (rest := []) 4 rfl rfl (mw_sp rfl rfl (Nat.le_of_ble_eq_true rfl) (mw_ac rfl (mw_ac rfl mw_an)) mw_an) rfl rfl hc7 (H.mono (fun o hp8 H => ?_))
      obtain ⟨x9, rfl, H⟩ := H
      refine mm_R.br (L' := [some ((.ref a0)), some (.int i1)]) (st' := []) (t := 87) (u := 34) (b := mm_cc .ne x9 (101 : Int32)) 2 rfl (fun c => ?_) (fun c => ?_)
      · replace H := H.1 (of_decide_eq_true c)
        exact mm_R.rt (pc' := 88) (L' := [some ((.ref a0)), some (.int i1)]) (st1 := [.int (0 : Int32)]) 1 rfl rfl rfl rfl rfl rfl H
      · replace H := H.2 (Decidable.of_not_not (of_decide_eq_false c))
        obtain ⟨hc10, H⟩ := H
        refine mm_R.cV (pc' := 38) (L' := [some ((.ref a0)), some (.int i1)]) (st1 := [.int (i1 + (3 : Int32)), (.ref a0)]) (as := [.int (i1 + (3 : Int32))]) (rest := []) 4 rfl rfl (mw_sp rfl rfl (Nat.le_of_ble_eq_true rfl) (mw_ac rfl (mw_ac rfl mw_an)) mw_an) rfl rfl hc10 (H.mono (fun o hp11 H => ?_))
        obtain ⟨x12, rfl, H⟩ := H
        refine mm_R.br (L' := [some ((.ref a0)), some (.int i1)]) (st' := []) (t := 87) (u := 46) (b := mm_cc .ne x12 (110 : Int32)) 2 rfl (fun c => ?_) (fun c => ?_)
        · replace H := H.1 (of_decide_eq_true c)
          exact mm_R.rt (pc' := 88) (L' := [some ((.ref a0)), some (.int i1)]) (st1 := [.int (0 : Int32)]) 1 rfl rfl rfl rfl rfl rfl H
        · replace H := H.2 (Decidable.of_not_not (of_decide_eq_false c))
          obtain ⟨hc13, H⟩ := H
          refine mm_R.cV (pc' := 50) (L' := [some ((.ref a0)), some (.int i1)]) (st1 := [.int (i1 + (4 : Int32)), (.ref a0)]) (as := [.int (i1 + (4 : Int32))]) (rest := []) 4 rfl rfl (mw_sp rfl rfl (Nat.le_of_ble_eq_true rfl) (mw_ac rfl (mw_ac rfl mw_an)) mw_an) rfl rfl hc13 (H.mono (fun o hp14 H => ?_))
          obtain ⟨x15, rfl, H⟩ := H
          refine mm_R.br (L' := [some ((.ref a0)), some (.int i1)]) (st' := []) (t := 87) (u := 58) (b := mm_cc .ne x15 (103 : Int32)) 2 rfl (fun c => ?_) (fun c => ?_)
          · replace H := H.1 (of_decide_eq_true c)
            exact mm_R.rt (pc' := 88) (L' := [some ((.ref a0)), some (.int i1)]) (st1 := [.int (0 : Int32)]) 1 rfl rfl rfl rfl rfl rfl H
          · replace H := H.2 (Decidable.of_not_not (of_decide_eq_false c))
            obtain ⟨hc16, H⟩ := H
            refine mm_R.cV (pc' := 62) (L' := [some ((.ref a0)), some (.int i1)]) (st1 := [.int (i1 + (5 : Int32)), (.ref a0)]) (as := [.int (i1 + (5 : Int32))]) (rest := []) 4 rfl rfl (mw_sp rfl rfl (Nat.le_of_ble_eq_true rfl) (mw_ac rfl (mw_ac rfl mw_an)) mw_an) rfl rfl hc16 (H.mono (fun o hp17 H => ?_))
            obtain ⟨x18, rfl, H⟩ := H
            refine mm_R.br (L' := [some ((.ref a0)), some (.int i1)]) (st' := []) (t := 87) (u := 70) (b := mm_cc .ne x18 (116 : Int32)) 2 rfl (fun c => ?_) (fun c => ?_)
            · replace H := H.1 (of_decide_eq_true c)
              exact mm_R.rt (pc' := 88) (L' := [some ((.ref a0)), some (.int i1)]) (st1 := [.int (0 : Int32)]) 1 rfl rfl rfl rfl rfl rfl H
            · replace H := H.2 (Decidable.of_not_not (of_decide_eq_false c))
              obtain ⟨hc19, H⟩ := H
              refine mm_R.cV (pc' := 75) (L' := [some ((.ref a0)), some (.int i1)]) (st1 := [.int (i1 + (6 : Int32)), (.ref a0)]) (as := [.int (i1 + (6 : Int32))]) (rest := []) 4 rfl rfl (mw_sp rfl rfl (Nat.le_of_ble_eq_true rfl) (mw_ac rfl (mw_ac rfl mw_an)) mw_an) rfl rfl hc19 (H.mono (fun o hp20 H => ?_))
              obtain ⟨x21, rfl, H⟩ := H
              refine mm_R.br (L' := [some ((.ref a0)), some (.int i1)]) (st' := []) (t := 87) (u := 83) (b := mm_cc .ne x21 (104 : Int32)) 2 rfl (fun c => ?_) (fun c => ?_)
              · replace H := H.1 (of_decide_eq_true c)
                exact mm_R.rt (pc' := 88) (L' := [some ((.ref a0)), some (.int i1)]) (st1 := [.int (0 : Int32)]) 1 rfl rfl rfl rfl rfl rfl H
              · replace H := H.2 (Decidable.of_not_not (of_decide_eq_false c))
                exact mm_R.rt (pc' := 88) (L' := [some ((.ref a0)), some (.int i1)]) (st1 := [.int (1 : Int32)]) 2 rfl rfl rfl rfl rfl rfl H
-- StepRunnerModel.when, from 0
set_option maxRecDepth 10000 in
theorem w160_0 {X : List Int32} {d : Nat} {a0 : Nat} {i1 : Int32} {hp : mm_H} {Q : Option Value → mm_H → Prop} (H : mw_rc (.ref a0) 126 hp ∧ mm_R X d 126 0 (mm_L0 126 [(.ref a0)]) [] hp (mw_ri (fun x3 hp2 => ((x3 = (0 : Int32) → mm_R X (d + 1) 160 20 [some ((.ref a0)), some (.int i1), none] [.int (0 : Int32)] hp2 Q) ∧ (¬ x3 = (0 : Int32) → mw_rc (.ref a0) 131 hp2 ∧ mm_R X d 131 0 (mm_L0 131 [(.ref a0), .int i1]) [] hp2 (mw_ri (fun x6 hp5 => ((x6 = (0 : Int32) → mm_R X (d + 1) 160 20 [some ((.ref a0)), some (.int i1), none] [.int (0 : Int32)] hp5 Q) ∧ (¬ x6 = (0 : Int32) → mm_R X (d + 1) 160 20 [some ((.ref a0)), some (.int i1), none] [.int (1 : Int32)] hp5 Q))))))))) : mm_R X (d + 1) 160 0 (mm_L0 160 [(.ref a0), .int i1]) [] hp Q := by
  show mm_R X (d + 1) 160 0 [some ((.ref a0)), some (.int i1), none] [] hp Q
  obtain ⟨hc1, H⟩ := H
  refine mm_R.cV (pc' := 1) (L' := [some ((.ref a0)), some (.int i1), none]) (st1 := [(.ref a0)]) (as := []) (rest := []) 1 rfl rfl (mw_sp rfl rfl (Nat.le_of_ble_eq_true rfl) (mw_ac rfl mw_an) mw_an) rfl rfl hc1 (H.mono (fun o hp2 H => ?_))
  obtain ⟨x3, rfl, H⟩ := H
  refine mm_R.br (L' := [some ((.ref a0)), some (.int i1), none]) (st' := []) (t := 19) (u := 7) (b := mm_cc .eq x3 (0 : Int32)) 1 rfl (fun c => ?_) (fun c => ?_)
  · replace H := H.1 (of_decide_eq_true c)
    exact mm_R.pn (pc' := 20) (L' := [some ((.ref a0)), some (.int i1), none]) (st' := [.int (0 : Int32)]) 1 rfl H
  · replace H := H.2 (of_decide_eq_false c)
    obtain ⟨hc4, H⟩ := H
    refine mm_R.cV (pc' := 9) (L' := [some ((.ref a0)), some (.int i1), none]) (st1 := [.int i1, (.ref a0)]) (as := [.int i1]) (rest := []) 2 rfl rfl (mw_sp rfl rfl (Nat.le_of_ble_eq_true rfl) (mw_ac rfl (mw_ac rfl mw_an)) mw_an) rfl rfl hc4 (H.mono (fun o hp5 H => ?_))
    obtain ⟨x6, rfl, H⟩ := H
    refine mm_R.br (L' := [some ((.ref a0)), some (.int i1), none]) (st' := []) (t := 19) (u := 15) (b := mm_cc .eq x6 (0 : Int32)) 1 rfl (fun c => ?_) (fun c => ?_)
    · replace H := H.1 (of_decide_eq_true c)
      exact mm_R.pn (pc' := 20) (L' := [some ((.ref a0)), some (.int i1), none]) (st' := [.int (0 : Int32)]) 1 rfl H
    · replace H := H.2 (of_decide_eq_false c)
      exact mm_R.pn (pc' := 20) (L' := [some ((.ref a0)), some (.int i1), none]) (st' := [.int (1 : Int32)]) 2 rfl H
-- StepRunnerModel.when, from 20
set_option maxRecDepth 10000 in
theorem w160_20 {X : List Int32} {d : Nat} {a0 : Nat} {i1 : Int32} {o2 : Option Value} {s0 : Int32} {hp : mm_H} {Q : Option Value → mm_H → Prop} (H : ((s0 = (0 : Int32) → mw_rc (.ref a0) 156 hp ∧ mm_R X d 156 0 (mm_L0 156 [(.ref a0), .int s0, .int (0 : Int32)]) [] hp (mw_ri (fun x3 hp2 => mm_fv .boolean (.int x3) = true ∧ Q (some (.int x3)) hp2))) ∧ (¬ s0 = (0 : Int32) → mw_rc (.ref a0) 156 hp ∧ mm_R X d 156 0 (mm_L0 156 [(.ref a0), .int s0, .int ((24 : Int32) + i1)]) [] hp (mw_ri (fun x6 hp5 => mm_fv .boolean (.int x6) = true ∧ Q (some (.int x6)) hp5))))) : mm_R X (d + 1) 160 20 [some ((.ref a0)), some (.int i1), o2] [.int s0] hp Q := by
  refine mm_R.br (L' := [some ((.ref a0)), some (.int i1), some (.int s0)]) (st' := [.int s0, (.ref a0)]) (t := 34) (u := 27) (b := mm_cc .eq s0 (0 : Int32)) 5 rfl (fun c => ?_) (fun c => ?_)
  · replace H := H.1 (of_decide_eq_true c)
    obtain ⟨hc1, H⟩ := H
    refine mm_R.cV (pc' := 35) (L' := [some ((.ref a0)), some (.int i1), some (.int s0)]) (st1 := [.int (0 : Int32), .int s0, (.ref a0)]) (as := [.int s0, .int (0 : Int32)]) (rest := []) 1 rfl rfl (mw_sp rfl rfl (Nat.le_of_ble_eq_true rfl) (mw_ac rfl (mw_ac rfl (mw_ac rfl mw_an))) mw_an) rfl rfl hc1 (H.mono (fun o hp2 H => ?_))
    obtain ⟨x3, rfl, H⟩ := H
    exact mm_R.rt (pc' := 38) (L' := [some ((.ref a0)), some (.int i1), some (.int s0)]) (st1 := [.int x3]) 0 rfl rfl rfl rfl rfl (mw_rvi (ty := .boolean) H.1) H.2
  · replace H := H.2 (of_decide_eq_false c)
    obtain ⟨hc4, H⟩ := H
    refine mm_R.cV (pc' := 35) (L' := [some ((.ref a0)), some (.int i1), some (.int s0)]) (st1 := [.int ((24 : Int32) + i1), .int s0, (.ref a0)]) (as := [.int s0, .int ((24 : Int32) + i1)]) (rest := []) 4 rfl rfl (mw_sp rfl rfl (Nat.le_of_ble_eq_true rfl) (mw_ac rfl (mw_ac rfl (mw_ac rfl mw_an))) mw_an) rfl rfl hc4 (H.mono (fun o hp5 H => ?_))
    obtain ⟨x6, rfl, H⟩ := H
    exact mm_R.rt (pc' := 38) (L' := [some ((.ref a0)), some (.int i1), some (.int s0)]) (st1 := [.int x6]) 0 rfl rfl rfl rfl rfl (mw_rvi (ty := .boolean) H.1) H.2
-- StepRunnerModel.scatter, from 0
set_option maxRecDepth 10000 in
theorem w161_0 {X : List Int32} {d : Nat} {a0 : Nat} {i1 : Int32} {i2 : Int32} {i3 : Int32} {hp : mm_H} {Q : Option Value → mm_H → Prop} (H : mw_rc (.ref a0) 126 hp ∧ mm_R X d 126 0 (mm_L0 126 [(.ref a0)]) [] hp (mw_ri (fun x3 hp2 => ((x3 = (0 : Int32) → Q (some (.int (0 : Int32))) hp2) ∧ (¬ x3 = (0 : Int32) → mw_rc (.ref a0) 131 hp2 ∧ mm_R X d 131 0 (mm_L0 131 [(.ref a0), .int i1]) [] hp2 (mw_ri (fun x6 hp5 => ((x6 = (0 : Int32) → Q (some (.int (0 : Int32))) hp5) ∧ (¬ x6 = (0 : Int32) → mm_R X d 127 0 (mm_L0 127 [.int i2, .int (0 : Int32), .int (15 : Int32)]) [] hp5 (mw_ri (fun x8 hp7 => ((x8 = (0 : Int32) → Q (some (.int (0 : Int32))) hp7) ∧ (¬ x8 = (0 : Int32) → mm_R X d 127 0 (mm_L0 127 [.int i3, .int (0 : Int32), .int (2 : Int32)]) [] hp7 (mw_ri (fun x10 hp9 => ((¬ x10 = (0 : Int32) → mw_gv 10 14 (.ref a0) hp9 (fun v11 => mw_si 1000 .int v11 i1 i2 hp9 (fun hp12 => mw_gv 10 15 (.ref a0) hp12 (fun v13 => mw_si 1000 .int v13 i1 i3 hp12 (fun hp14 => Q (some (.int (1 : Int32))) hp14))))) ∧ (x10 = (0 : Int32) → Q (some (.int (0 : Int32))) hp9))))))))))))))))) : mm_R X (d + 1) 161 0 (mm_L0 161 [(.ref a0), .int i1, .int i2, .int i3]) [] hp Q := by
  show mm_R X (d + 1) 161 0 [some ((.ref a0)), some (.int i1), some (.int i2), some (.int i3)] [] hp Q
  obtain ⟨hc1, H⟩ := H
  refine mm_R.cV (pc' := 1) (L' := [some ((.ref a0)), some (.int i1), some (.int i2), some (.int i3)]) (st1 := [(.ref a0)]) (as := []) (rest := []) 1 rfl rfl (mw_sp rfl rfl (Nat.le_of_ble_eq_true rfl) (mw_ac rfl mw_an) mw_an) rfl rfl hc1 (H.mono (fun o hp2 H => ?_))
  obtain ⟨x3, rfl, H⟩ := H
  refine mm_R.br (L' := [some ((.ref a0)), some (.int i1), some (.int i2), some (.int i3)]) (st' := []) (t := 34) (u := 7) (b := mm_cc .eq x3 (0 : Int32)) 1 rfl (fun c => ?_) (fun c => ?_)
  · replace H := H.1 (of_decide_eq_true c)
    exact mm_R.rt (pc' := 35) (L' := [some ((.ref a0)), some (.int i1), some (.int i2), some (.int i3)]) (st1 := [.int (0 : Int32)]) 1 rfl rfl rfl rfl rfl rfl H
  · replace H := H.2 (of_decide_eq_false c)
    obtain ⟨hc4, H⟩ := H
    refine mm_R.cV (pc' := 9) (L' := [some ((.ref a0)), some (.int i1), some (.int i2), some (.int i3)]) (st1 := [.int i1, (.ref a0)]) (as := [.int i1]) (rest := []) 2 rfl rfl (mw_sp rfl rfl (Nat.le_of_ble_eq_true rfl) (mw_ac rfl (mw_ac rfl mw_an)) mw_an) rfl rfl hc4 (H.mono (fun o hp5 H => ?_))
    obtain ⟨x6, rfl, H⟩ := H
    refine mm_R.br (L' := [some ((.ref a0)), some (.int i1), some (.int i2), some (.int i3)]) (st' := []) (t := 34) (u := 15) (b := mm_cc .eq x6 (0 : Int32)) 1 rfl (fun c => ?_) (fun c => ?_)
    · replace H := H.1 (of_decide_eq_true c)
      exact mm_R.rt (pc' := 35) (L' := [some ((.ref a0)), some (.int i1), some (.int i2), some (.int i3)]) (st1 := [.int (0 : Int32)]) 1 rfl rfl rfl rfl rfl rfl H
    · replace H := H.2 (of_decide_eq_false c)
      refine mm_R.cS (pc' := 19) (L' := [some ((.ref a0)), some (.int i1), some (.int i2), some (.int i3)]) (st1 := [.int (15 : Int32), .int (0 : Int32), .int i2]) (as := [.int i2, .int (0 : Int32), .int (15 : Int32)]) (rest := []) 3 rfl rfl (mw_sp rfl rfl (Nat.le_of_ble_eq_true rfl) (mw_ac rfl (mw_ac rfl (mw_ac rfl mw_an))) mw_an) rfl rfl (H.mono (fun o hp7 H => ?_))
      obtain ⟨x8, rfl, H⟩ := H
      refine mm_R.br (L' := [some ((.ref a0)), some (.int i1), some (.int i2), some (.int i3)]) (st' := []) (t := 34) (u := 25) (b := mm_cc .eq x8 (0 : Int32)) 1 rfl (fun c => ?_) (fun c => ?_)
      · replace H := H.1 (of_decide_eq_true c)
        exact mm_R.rt (pc' := 35) (L' := [some ((.ref a0)), some (.int i1), some (.int i2), some (.int i3)]) (st1 := [.int (0 : Int32)]) 1 rfl rfl rfl rfl rfl rfl H
      · replace H := H.2 (of_decide_eq_false c)
        refine mm_R.cS (pc' := 28) (L' := [some ((.ref a0)), some (.int i1), some (.int i2), some (.int i3)]) (st1 := [.int (2 : Int32), .int (0 : Int32), .int i3]) (as := [.int i3, .int (0 : Int32), .int (2 : Int32)]) (rest := []) 3 rfl rfl (mw_sp rfl rfl (Nat.le_of_ble_eq_true rfl) (mw_ac rfl (mw_ac rfl (mw_ac rfl mw_an))) mw_an) rfl rfl (H.mono (fun o hp9 H => ?_))
        obtain ⟨x10, rfl, H⟩ := H
        refine mm_R.br (L' := [some ((.ref a0)), some (.int i1), some (.int i2), some (.int i3)]) (st' := []) (t := 36) (u := 34) (b := mm_cc .ne x10 (0 : Int32)) 1 rfl (fun c => ?_) (fun c => ?_)
        · replace H := H.1 (of_decide_eq_true c)
          refine mm_R.wgv (pc' := 37) (L' := [some ((.ref a0)), some (.int i1), some (.int i2), some (.int i3)]) (r := []) 1 rfl rfl (H.mono (fun v11 H => ?_))
          refine mm_R.wsi (pc' := 42) (L' := [some ((.ref a0)), some (.int i1), some (.int i2), some (.int i3)]) (r := []) (t := 1000) (ty := .int) 2 rfl rfl rfl rfl (H.mono (fun hp12 H => ?_))
          refine mm_R.wgv (pc' := 44) (L' := [some ((.ref a0)), some (.int i1), some (.int i2), some (.int i3)]) (r := []) 1 rfl rfl (H.mono (fun v13 H => ?_))
          refine mm_R.wsi (pc' := 49) (L' := [some ((.ref a0)), some (.int i1), some (.int i2), some (.int i3)]) (r := []) (t := 1000) (ty := .int) 2 rfl rfl rfl rfl (H.mono (fun hp14 H => ?_))
          exact mm_R.rt (pc' := 51) (L' := [some ((.ref a0)), some (.int i1), some (.int i2), some (.int i3)]) (st1 := [.int (1 : Int32)]) 1 rfl rfl rfl rfl rfl rfl H
        · replace H := H.2 (Decidable.of_not_not (of_decide_eq_false c))
          exact mm_R.rt (pc' := 35) (L' := [some ((.ref a0)), some (.int i1), some (.int i2), some (.int i3)]) (st1 := [.int (0 : Int32)]) 1 rfl rfl rfl rfl rfl rfl H
-- StepRunnerModel.input, from 0
set_option maxRecDepth 10000 in
theorem w162_0 {X : List Int32} {d : Nat} {a0 : Nat} {i1 : Int32} {hp : mm_H} {Q : Option Value → mm_H → Prop} (H : mw_rc (.ref a0) 126 hp ∧ mm_R X d 126 0 (mm_L0 126 [(.ref a0)]) [] hp (mw_ri (fun x3 hp2 => ((x3 = (0 : Int32) → mm_R X (d + 1) 162 20 [some ((.ref a0)), some (.int i1), none] [] hp2 Q) ∧ (¬ x3 = (0 : Int32) → mm_R X d 127 0 (mm_L0 127 [.int i1, .int (0 : Int32), .int (2 : Int32)]) [] hp2 (mw_ri (fun x5 hp4 => ((x5 = (0 : Int32) → mm_R X (d + 1) 162 20 [some ((.ref a0)), some (.int i1), none] [] hp4 Q) ∧ (¬ x5 = (0 : Int32) → (((1 : Int32) = (0 : Int32) → mw_rc (.ref a0) 134 hp4 ∧ mm_R X d 134 0 (mm_L0 134 [(.ref a0), .int (1 : Int32), .int (0 : Int32)]) [] hp4 (mw_ri (fun x8 hp7 => mm_fv .boolean (.int x8) = true ∧ Q (some (.int x8)) hp7))) ∧ (¬ (1 : Int32) = (0 : Int32) → mw_rc (.ref a0) 134 hp4 ∧ mm_R X d 134 0 (mm_L0 134 [(.ref a0), .int (1 : Int32), .int i1]) [] hp4 (mw_ri (fun x11 hp10 => mm_fv .boolean (.int x11) = true ∧ Q (some (.int x11)) hp10))))))))))))) : mm_R X (d + 1) 162 0 (mm_L0 162 [(.ref a0), .int i1]) [] hp Q := by
  show mm_R X (d + 1) 162 0 [some ((.ref a0)), some (.int i1), none] [] hp Q
  obtain ⟨hc1, H⟩ := H
  refine mm_R.cV (pc' := 1) (L' := [some ((.ref a0)), some (.int i1), none]) (st1 := [(.ref a0)]) (as := []) (rest := []) 1 rfl rfl (mw_sp rfl rfl (Nat.le_of_ble_eq_true rfl) (mw_ac rfl mw_an) mw_an) rfl rfl hc1 (H.mono (fun o hp2 H => ?_))
  obtain ⟨x3, rfl, H⟩ := H
  refine mm_R.br (L' := [some ((.ref a0)), some (.int i1), none]) (st' := []) (t := 20) (u := 7) (b := mm_cc .eq x3 (0 : Int32)) 1 rfl (fun c => ?_) (fun c => ?_)
  · replace H := H.1 (of_decide_eq_true c)
    exact H
  · replace H := H.2 (of_decide_eq_false c)
    refine mm_R.cS (pc' := 10) (L' := [some ((.ref a0)), some (.int i1), none]) (st1 := [.int (2 : Int32), .int (0 : Int32), .int i1]) (as := [.int i1, .int (0 : Int32), .int (2 : Int32)]) (rest := []) 3 rfl rfl (mw_sp rfl rfl (Nat.le_of_ble_eq_true rfl) (mw_ac rfl (mw_ac rfl (mw_ac rfl mw_an))) mw_an) rfl rfl (H.mono (fun o hp4 H => ?_))
    obtain ⟨x5, rfl, H⟩ := H
    refine mm_R.br (L' := [some ((.ref a0)), some (.int i1), none]) (st' := []) (t := 20) (u := 16) (b := mm_cc .eq x5 (0 : Int32)) 1 rfl (fun c => ?_) (fun c => ?_)
    · replace H := H.1 (of_decide_eq_true c)
      exact H
    · replace H := H.2 (of_decide_eq_false c)
      refine mm_R.br (L' := [some ((.ref a0)), some (.int i1), some (.int (1 : Int32))]) (st' := [.int (1 : Int32), (.ref a0)]) (t := 32) (u := 28) (b := mm_cc .eq (1 : Int32) (0 : Int32)) 7 rfl (fun c => ?_) (fun c => ?_)
      · replace H := H.1 (of_decide_eq_true c)
        obtain ⟨hc6, H⟩ := H
        refine mm_R.cV (pc' := 33) (L' := [some ((.ref a0)), some (.int i1), some (.int (1 : Int32))]) (st1 := [.int (0 : Int32), .int (1 : Int32), (.ref a0)]) (as := [.int (1 : Int32), .int (0 : Int32)]) (rest := []) 1 rfl rfl (mw_sp rfl rfl (Nat.le_of_ble_eq_true rfl) (mw_ac rfl (mw_ac rfl (mw_ac rfl mw_an))) mw_an) rfl rfl hc6 (H.mono (fun o hp7 H => ?_))
        obtain ⟨x8, rfl, H⟩ := H
        exact mm_R.rt (pc' := 36) (L' := [some ((.ref a0)), some (.int i1), some (.int (1 : Int32))]) (st1 := [.int x8]) 0 rfl rfl rfl rfl rfl (mw_rvi (ty := .boolean) H.1) H.2
      · replace H := H.2 (of_decide_eq_false c)
        obtain ⟨hc9, H⟩ := H
        refine mm_R.cV (pc' := 33) (L' := [some ((.ref a0)), some (.int i1), some (.int (1 : Int32))]) (st1 := [.int i1, .int (1 : Int32), (.ref a0)]) (as := [.int (1 : Int32), .int i1]) (rest := []) 2 rfl rfl (mw_sp rfl rfl (Nat.le_of_ble_eq_true rfl) (mw_ac rfl (mw_ac rfl (mw_ac rfl mw_an))) mw_an) rfl rfl hc9 (H.mono (fun o hp10 H => ?_))
        obtain ⟨x11, rfl, H⟩ := H
        exact mm_R.rt (pc' := 36) (L' := [some ((.ref a0)), some (.int i1), some (.int (1 : Int32))]) (st1 := [.int x11]) 0 rfl rfl rfl rfl rfl (mw_rvi (ty := .boolean) H.1) H.2
-- StepRunnerModel.input, from 20
set_option maxRecDepth 10000 in
theorem w162_20 {X : List Int32} {d : Nat} {a0 : Nat} {i1 : Int32} {o2 : Option Value} {hp : mm_H} {Q : Option Value → mm_H → Prop} (H : (((0 : Int32) = (0 : Int32) → mw_rc (.ref a0) 134 hp ∧ mm_R X d 134 0 (mm_L0 134 [(.ref a0), .int (0 : Int32), .int (0 : Int32)]) [] hp (mw_ri (fun x3 hp2 => mm_fv .boolean (.int x3) = true ∧ Q (some (.int x3)) hp2))) ∧ (¬ (0 : Int32) = (0 : Int32) → mw_rc (.ref a0) 134 hp ∧ mm_R X d 134 0 (mm_L0 134 [(.ref a0), .int (0 : Int32), .int i1]) [] hp (mw_ri (fun x6 hp5 => mm_fv .boolean (.int x6) = true ∧ Q (some (.int x6)) hp5))))) : mm_R X (d + 1) 162 20 [some ((.ref a0)), some (.int i1), o2] [] hp Q := by
  refine mm_R.br (L' := [some ((.ref a0)), some (.int i1), some (.int (0 : Int32))]) (st' := [.int (0 : Int32), (.ref a0)]) (t := 32) (u := 28) (b := mm_cc .eq (0 : Int32) (0 : Int32)) 6 rfl (fun c => ?_) (fun c => ?_)
  · replace H := H.1 (of_decide_eq_true c)
    obtain ⟨hc1, H⟩ := H
    refine mm_R.cV (pc' := 33) (L' := [some ((.ref a0)), some (.int i1), some (.int (0 : Int32))]) (st1 := [.int (0 : Int32), .int (0 : Int32), (.ref a0)]) (as := [.int (0 : Int32), .int (0 : Int32)]) (rest := []) 1 rfl rfl (mw_sp rfl rfl (Nat.le_of_ble_eq_true rfl) (mw_ac rfl (mw_ac rfl (mw_ac rfl mw_an))) mw_an) rfl rfl hc1 (H.mono (fun o hp2 H => ?_))
    obtain ⟨x3, rfl, H⟩ := H
    exact mm_R.rt (pc' := 36) (L' := [some ((.ref a0)), some (.int i1), some (.int (0 : Int32))]) (st1 := [.int x3]) 0 rfl rfl rfl rfl rfl (mw_rvi (ty := .boolean) H.1) H.2
  · replace H := H.2 (of_decide_eq_false c)
    obtain ⟨hc4, H⟩ := H
    refine mm_R.cV (pc' := 33) (L' := [some ((.ref a0)), some (.int i1), some (.int (0 : Int32))]) (st1 := [.int i1, .int (0 : Int32), (.ref a0)]) (as := [.int (0 : Int32), .int i1]) (rest := []) 2 rfl rfl (mw_sp rfl rfl (Nat.le_of_ble_eq_true rfl) (mw_ac rfl (mw_ac rfl (mw_ac rfl mw_an))) mw_an) rfl rfl hc4 (H.mono (fun o hp5 H => ?_))
    obtain ⟨x6, rfl, H⟩ := H
    exact mm_R.rt (pc' := 36) (L' := [some ((.ref a0)), some (.int i1), some (.int (0 : Int32))]) (st1 := [.int x6]) 0 rfl rfl rfl rfl rfl (mw_rvi (ty := .boolean) H.1) H.2
-- StepRunnerModel.start, from 0
set_option maxRecDepth 10000 in
theorem w163_0 {X : List Int32} {d : Nat} {a0 : Nat} {i1 : Int32} {hp : mm_H} {Q : Option Value → mm_H → Prop} (H : mw_gi 10 23 (.ref a0) hp (fun x1 => ((x1 = (1 : Int32) → Q (some (.int (-1 : Int32))) hp) ∧ (¬ x1 = (1 : Int32) → mm_R X d 127 0 (mm_L0 127 [.int i1, .int (1 : Int32), .int (3 : Int32)]) [] hp (mw_ri (fun x3 hp2 => ((¬ x3 = (0 : Int32) → mm_R X (d + 1) 163 21 [some ((.ref a0)), some (.int i1), some (.int (0 : Int32)), none] [] hp2 Q) ∧ (x3 = (0 : Int32) → Q (some (.int (-1 : Int32))) hp2)))))))) : mm_R X (d + 1) 163 0 (mm_L0 163 [(.ref a0), .int i1]) [] hp Q := by
  show mm_R X (d + 1) 163 0 [some ((.ref a0)), some (.int i1), none, none] [] hp Q
  refine mm_R.wgi (pc' := 1) (L' := [some ((.ref a0)), some (.int i1), none, none]) (r := []) 1 rfl rfl (H.mono (fun x1 H => ?_))
  refine mm_R.br (L' := [some ((.ref a0)), some (.int i1), none, none]) (st' := []) (t := 17) (u := 8) (b := mm_cc .eq x1 (1 : Int32)) 2 rfl (fun c => ?_) (fun c => ?_)
  · replace H := H.1 (of_decide_eq_true c)
    exact mm_R.rt (pc' := 18) (L' := [some ((.ref a0)), some (.int i1), none, none]) (st1 := [.int (-1 : Int32)]) 1 rfl rfl rfl rfl rfl rfl H
  · replace H := H.2 (of_decide_eq_false c)
    refine mm_R.cS (pc' := 11) (L' := [some ((.ref a0)), some (.int i1), none, none]) (st1 := [.int (3 : Int32), .int (1 : Int32), .int i1]) (as := [.int i1, .int (1 : Int32), .int (3 : Int32)]) (rest := []) 3 rfl rfl (mw_sp rfl rfl (Nat.le_of_ble_eq_true rfl) (mw_ac rfl (mw_ac rfl (mw_ac rfl mw_an))) mw_an) rfl rfl (H.mono (fun o hp2 H => ?_))
    obtain ⟨x3, rfl, H⟩ := H
    refine mm_R.br (L' := [some ((.ref a0)), some (.int i1), none, none]) (st' := []) (t := 19) (u := 17) (b := mm_cc .ne x3 (0 : Int32)) 1 rfl (fun c => ?_) (fun c => ?_)
    · replace H := H.1 (of_decide_eq_true c)
      exact mm_R.pn (pc' := 21) (L' := [some ((.ref a0)), some (.int i1), some (.int (0 : Int32)), none]) (st' := []) 2 rfl H
    · replace H := H.2 (Decidable.of_not_not (of_decide_eq_false c))
      exact mm_R.rt (pc' := 18) (L' := [some ((.ref a0)), some (.int i1), none, none]) (st1 := [.int (-1 : Int32)]) 1 rfl rfl rfl rfl rfl rfl H
-- StepRunnerModel.start, from 21
set_option maxRecDepth 10000 in
theorem w163_21 {X : List Int32} {d : Nat} {a0 : Nat} {i1 : Int32} {i2 : Int32} {o3 : Option Value} {hp : mm_H} {Q : Option Value → mm_H → Prop} (H : mw_gi 10 12 (.ref a0) hp (fun x1 => ((x1 ≤ i2 → mw_rc (.ref a0) 165 hp ∧ mm_R X d 165 0 (mm_L0 165 [(.ref a0)]) [] hp (mw_ri (fun x4 hp3 => ((x4 = (0 : Int32) → mw_pt 10 24 (.ref a0) (.int i1) hp3 (fun hp5 => mw_pt 10 23 (.ref a0) (.int (1 : Int32)) hp5 (fun hp6 => mw_gi 10 12 (.ref a0) hp6 (fun x7 => mw_pt 10 25 (.ref a0) (.int x7) hp6 (fun hp8 => mw_pt 10 26 (.ref a0) (.int (0 : Int32)) hp8 (fun hp9 => mw_pt 10 27 (.ref a0) (.int (0 : Int32)) hp9 (fun hp10 => mw_pt 10 28 (.ref a0) (.int (0 : Int32)) hp10 (fun hp11 => mm_R X (d + 1) 163 107 [some ((.ref a0)), some (.int i1), some (.int (0 : Int32)), o3] [] hp11 Q)))))))) ∧ (¬ x4 = (0 : Int32) → Q (some (.int (2 : Int32))) hp3))))) ∧ (¬ x1 ≤ i2 → mw_gi 10 12 (.ref a0) hp (fun x12 => mm_R X (d + 1) 163 34 [some ((.ref a0)), some (.int i1), some (.int i2), some (.int x12)] [] hp Q))))) : mm_R X (d + 1) 163 21 [some ((.ref a0)), some (.int i1), some (.int i2), o3] [] hp Q := by
  refine mm_R.wgi (pc' := 23) (L' := [some ((.ref a0)), some (.int i1), some (.int i2), o3]) (r := [.int i2]) 2 rfl rfl (H.mono (fun x1 H => ?_))
  refine mm_R.br (L' := [some ((.ref a0)), some (.int i1), some (.int i2), o3]) (st' := []) (t := 63) (u := 29) (b := mm_cc .ge i2 x1) 1 rfl (fun c => ?_) (fun c => ?_)
  · replace H := H.1 (of_decide_eq_true c)
    obtain ⟨hc2, H⟩ := H
    refine mm_R.cV (pc' := 64) (L' := [some ((.ref a0)), some (.int i1), some (.int i2), o3]) (st1 := [(.ref a0)]) (as := []) (rest := []) 1 rfl rfl (mw_sp rfl rfl (Nat.le_of_ble_eq_true rfl) (mw_ac rfl mw_an) mw_an) rfl rfl hc2 (H.mono (fun o hp3 H => ?_))
    obtain ⟨x4, rfl, H⟩ := H
    refine mm_R.br (L' := [some ((.ref a0)), some (.int i1), some (.int i2), o3]) (st' := []) (t := 72) (u := 70) (b := mm_cc .eq x4 (0 : Int32)) 1 rfl (fun c => ?_) (fun c => ?_)
    · replace H := H.1 (of_decide_eq_true c)
      refine mm_R.wpt (pc' := 74) (L' := [some ((.ref a0)), some (.int i1), some (.int i2), o3]) (r := []) 2 rfl rfl (H.mono (fun hp5 H => ?_))
      refine mm_R.wpt (pc' := 79) (L' := [some ((.ref a0)), some (.int i1), some (.int i2), o3]) (r := []) 2 rfl rfl (H.mono (fun hp6 H => ?_))
      refine mm_R.wgi (pc' := 84) (L' := [some ((.ref a0)), some (.int i1), some (.int i2), o3]) (r := [(.ref a0)]) 2 rfl rfl (H.mono (fun x7 H => ?_))
      refine mm_R.wpt (pc' := 87) (L' := [some ((.ref a0)), some (.int i1), some (.int i2), o3]) (r := []) 0 rfl rfl (H.mono (fun hp8 H => ?_))
      refine mm_R.wpt (pc' := 92) (L' := [some ((.ref a0)), some (.int i1), some (.int i2), o3]) (r := []) 2 rfl rfl (H.mono (fun hp9 H => ?_))
      refine mm_R.wpt (pc' := 97) (L' := [some ((.ref a0)), some (.int i1), some (.int i2), o3]) (r := []) 2 rfl rfl (H.mono (fun hp10 H => ?_))
      refine mm_R.wpt (pc' := 102) (L' := [some ((.ref a0)), some (.int i1), some (.int i2), o3]) (r := []) 2 rfl rfl (H.mono (fun hp11 H => ?_))
      exact mm_R.pn (pc' := 107) (L' := [some ((.ref a0)), some (.int i1), some (.int (0 : Int32)), o3]) (st' := []) 2 rfl H
    · replace H := H.2 (of_decide_eq_false c)
      exact mm_R.rt (pc' := 71) (L' := [some ((.ref a0)), some (.int i1), some (.int i2), o3]) (st1 := [.int (2 : Int32)]) 1 rfl rfl rfl rfl rfl rfl H
  · replace H := H.2 (of_decide_eq_false c)
    refine mm_R.wgi (pc' := 30) (L' := [some ((.ref a0)), some (.int i1), some (.int i2), o3]) (r := []) 1 rfl rfl (H.mono (fun x12 H => ?_))
    exact mm_R.pn (pc' := 34) (L' := [some ((.ref a0)), some (.int i1), some (.int i2), some (.int x12)]) (st' := []) 1 rfl H
-- StepRunnerModel.start, from 34
set_option maxRecDepth 10000 in
theorem w163_34 {X : List Int32} {d : Nat} {a0 : Nat} {i1 : Int32} {i2 : Int32} {i3 : Int32} {hp : mm_H} {Q : Option Value → mm_H → Prop} (H : (((6 : Int32) ≤ i3 → mm_R X (d + 1) 163 21 [some ((.ref a0)), some (.int i1), some (.int (i2 + (1 : Int32))), some (.int i3)] [] hp Q) ∧ (¬ (6 : Int32) ≤ i3 → mw_rc (.ref a0) 164 hp ∧ mm_R X d 164 0 (mm_L0 164 [(.ref a0), .int i2, .int i3]) [] hp (mw_ri (fun x3 hp2 => ((x3 = (0 : Int32) → mm_R X (d + 1) 163 34 [some ((.ref a0)), some (.int i1), some (.int i2), some (.int (i3 + (1 : Int32)))] [] hp2 Q) ∧ (¬ x3 = (0 : Int32) → Q (some (.int (1 : Int32))) hp2))))))) : mm_R X (d + 1) 163 34 [some ((.ref a0)), some (.int i1), some (.int i2), some (.int i3)] [] hp Q := by
  refine mm_R.br (L' := [some ((.ref a0)), some (.int i1), some (.int i2), some (.int i3)]) (st' := []) (t := 57) (u := 40) (b := mm_cc .ge i3 (6 : Int32)) 3 rfl (fun c => ?_) (fun c => ?_)
  · replace H := H.1 (of_decide_eq_true c)
    exact mm_R.pn (pc' := 21) (L' := [some ((.ref a0)), some (.int i1), some (.int (i2 + (1 : Int32))), some (.int i3)]) (st' := []) 2 rfl H
  · replace H := H.2 (of_decide_eq_false c)
    obtain ⟨hc1, H⟩ := H
    refine mm_R.cV (pc' := 43) (L' := [some ((.ref a0)), some (.int i1), some (.int i2), some (.int i3)]) (st1 := [.int i3, .int i2, (.ref a0)]) (as := [.int i2, .int i3]) (rest := []) 3 rfl rfl (mw_sp rfl rfl (Nat.le_of_ble_eq_true rfl) (mw_ac rfl (mw_ac rfl (mw_ac rfl mw_an))) mw_an) rfl rfl hc1 (H.mono (fun o hp2 H => ?_))
    obtain ⟨x3, rfl, H⟩ := H
    refine mm_R.br (L' := [some ((.ref a0)), some (.int i1), some (.int i2), some (.int i3)]) (st' := []) (t := 51) (u := 49) (b := mm_cc .eq x3 (0 : Int32)) 1 rfl (fun c => ?_) (fun c => ?_)
    · replace H := H.1 (of_decide_eq_true c)
      exact mm_R.pn (pc' := 34) (L' := [some ((.ref a0)), some (.int i1), some (.int i2), some (.int (i3 + (1 : Int32)))]) (st' := []) 2 rfl H
    · replace H := H.2 (of_decide_eq_false c)
      exact mm_R.rt (pc' := 50) (L' := [some ((.ref a0)), some (.int i1), some (.int i2), some (.int i3)]) (st1 := [.int (1 : Int32)]) 1 rfl rfl rfl rfl rfl rfl H
-- StepRunnerModel.start, from 107
set_option maxRecDepth 10000 in
theorem w163_107 {X : List Int32} {d : Nat} {a0 : Nat} {i1 : Int32} {i2 : Int32} {o3 : Option Value} {hp : mm_H} {Q : Option Value → mm_H → Prop} (H : (((6 : Int32) ≤ i2 → mm_R X (d + 1) 163 135 [some ((.ref a0)), some (.int i1), some (.int (0 : Int32)), o3] [] hp Q) ∧ (¬ (6 : Int32) ≤ i2 → mw_gv 10 29 (.ref a0) hp (fun v1 => mw_si 1000 .int v1 i2 (0 : Int32) hp (fun hp2 => mw_gv 10 30 (.ref a0) hp2 (fun v3 => mw_si 1000 .int v3 i2 (0 : Int32) hp2 (fun hp4 => mm_R X (d + 1) 163 107 [some ((.ref a0)), some (.int i1), some (.int (i2 + (1 : Int32))), o3] [] hp4 Q))))))) : mm_R X (d + 1) 163 107 [some ((.ref a0)), some (.int i1), some (.int i2), o3] [] hp Q := by
  refine mm_R.br (L' := [some ((.ref a0)), some (.int i1), some (.int i2), o3]) (st' := []) (t := 133) (u := 113) (b := mm_cc .ge i2 (6 : Int32)) 3 rfl (fun c => ?_) (fun c => ?_)
  · replace H := H.1 (of_decide_eq_true c)
    exact mm_R.pn (pc' := 135) (L' := [some ((.ref a0)), some (.int i1), some (.int (0 : Int32)), o3]) (st' := []) 2 rfl H
  · replace H := H.2 (of_decide_eq_false c)
    refine mm_R.wgv (pc' := 114) (L' := [some ((.ref a0)), some (.int i1), some (.int i2), o3]) (r := []) 1 rfl rfl (H.mono (fun v1 H => ?_))
    refine mm_R.wsi (pc' := 119) (L' := [some ((.ref a0)), some (.int i1), some (.int i2), o3]) (r := []) (t := 1000) (ty := .int) 2 rfl rfl rfl rfl (H.mono (fun hp2 H => ?_))
    refine mm_R.wgv (pc' := 121) (L' := [some ((.ref a0)), some (.int i1), some (.int i2), o3]) (r := []) 1 rfl rfl (H.mono (fun v3 H => ?_))
    refine mm_R.wsi (pc' := 126) (L' := [some ((.ref a0)), some (.int i1), some (.int i2), o3]) (r := []) (t := 1000) (ty := .int) 2 rfl rfl rfl rfl (H.mono (fun hp4 H => ?_))
    exact mm_R.pn (pc' := 107) (L' := [some ((.ref a0)), some (.int i1), some (.int (i2 + (1 : Int32))), o3]) (st' := []) 2 rfl H
-- StepRunnerModel.start, from 135
set_option maxRecDepth 10000 in
theorem w163_135 {X : List Int32} {d : Nat} {a0 : Nat} {i1 : Int32} {i2 : Int32} {o3 : Option Value} {hp : mm_H} {Q : Option Value → mm_H → Prop} (H : (((96 : Int32) ≤ i2 → mw_rc (.ref a0) 166 hp ∧ mm_R X d 166 0 (mm_L0 166 [(.ref a0)]) [] hp (mw_r0 (fun hp2 => Q (some (.int (0 : Int32))) hp2))) ∧ (¬ (96 : Int32) ≤ i2 → mw_gv 10 31 (.ref a0) hp (fun v3 => mw_si 1000 .int v3 i2 (0 : Int32) hp (fun hp4 => mm_R X (d + 1) 163 135 [some ((.ref a0)), some (.int i1), some (.int (i2 + (1 : Int32))), o3] [] hp4 Q))))) : mm_R X (d + 1) 163 135 [some ((.ref a0)), some (.int i1), some (.int i2), o3] [] hp Q := by
  refine mm_R.br (L' := [some ((.ref a0)), some (.int i1), some (.int i2), o3]) (st' := []) (t := 154) (u := 141) (b := mm_cc .ge i2 (96 : Int32)) 3 rfl (fun c => ?_) (fun c => ?_)
  · replace H := H.1 (of_decide_eq_true c)
    obtain ⟨hc1, H⟩ := H
    refine mm_R.cV (pc' := 155) (L' := [some ((.ref a0)), some (.int i1), some (.int i2), o3]) (st1 := [(.ref a0)]) (as := []) (rest := []) 1 rfl rfl (mw_sp rfl rfl (Nat.le_of_ble_eq_true rfl) (mw_ac rfl mw_an) mw_an) rfl rfl hc1 (H.mono (fun o hp2 H => ?_))
    obtain ⟨rfl, H⟩ := H
    exact mm_R.rt (pc' := 159) (L' := [some ((.ref a0)), some (.int i1), some (.int i2), o3]) (st1 := [.int (0 : Int32)]) 1 rfl rfl rfl rfl rfl rfl H
  · replace H := H.2 (of_decide_eq_false c)
    refine mm_R.wgv (pc' := 142) (L' := [some ((.ref a0)), some (.int i1), some (.int i2), o3]) (r := []) 1 rfl rfl (H.mono (fun v3 H => ?_))
    refine mm_R.wsi (pc' := 147) (L' := [some ((.ref a0)), some (.int i1), some (.int i2), o3]) (r := []) (t := 1000) (ty := .int) 2 rfl rfl rfl rfl (H.mono (fun hp4 H => ?_))
    exact mm_R.pn (pc' := 135) (L' := [some ((.ref a0)), some (.int i1), some (.int (i2 + (1 : Int32))), o3]) (st' := []) 2 rfl H
-- StepRunnerModel.needs, from 0
set_option maxRecDepth 10000 in
theorem w164_0 {X : List Int32} {d : Nat} {a0 : Nat} {i1 : Int32} {i2 : Int32} {hp : mm_H} {Q : Option Value → mm_H → Prop} (H : mm_R X (d + 1) 164 5 [some ((.ref a0)), some (.int i1), some (.int i2), some (.int (0 : Int32)), some (.int (0 : Int32)), none, none] [] hp Q) : mm_R X (d + 1) 164 0 (mm_L0 164 [(.ref a0), .int i1, .int i2]) [] hp Q := by
  show mm_R X (d + 1) 164 0 [some ((.ref a0)), some (.int i1), some (.int i2), none, none, none, none] [] hp Q
  exact mm_R.pn (pc' := 5) (L' := [some ((.ref a0)), some (.int i1), some (.int i2), some (.int (0 : Int32)), some (.int (0 : Int32)), none, none]) (st' := []) 4 rfl H
-- StepRunnerModel.needs, from 5
set_option maxRecDepth 10000 in
theorem w164_5 {X : List Int32} {d : Nat} {a0 : Nat} {i1 : Int32} {i2 : Int32} {i3 : Int32} {i4 : Int32} {o5 : Option Value} {o6 : Option Value} {hp : mm_H} {Q : Option Value → mm_H → Prop} (H : mw_gv 10 8 (.ref a0) hp (fun v1 => mw_gv 10 13 (.ref a0) hp (fun v2 => mw_ai 1000 v2 i1 hp (fun x3 => mw_ai 1000 v1 x3 hp (fun x4 => ((x4 ≤ i4 → mm_fv .boolean (.int i3) = true ∧ Q (some (.int i3)) hp) ∧ (¬ x4 ≤ i4 → mm_R X (d + 1) 164 32 [some ((.ref a0)), some (.int i1), some (.int i2), some (.int i3), some (.int i4), some (.int (((4 : Int32) * i1) + i4)), some (.int (0 : Int32))] [] hp Q))))))) : mm_R X (d + 1) 164 5 [some ((.ref a0)), some (.int i1), some (.int i2), some (.int i3), some (.int i4), o5, o6] [] hp Q := by
  refine mm_R.wgv (pc' := 8) (L' := [some ((.ref a0)), some (.int i1), some (.int i2), some (.int i3), some (.int i4), o5, o6]) (r := [.int i4]) 2 rfl rfl (H.mono (fun v1 H => ?_))
  refine mm_R.wgv (pc' := 12) (L' := [some ((.ref a0)), some (.int i1), some (.int i2), some (.int i3), some (.int i4), o5, o6]) (r := [v1, .int i4]) 1 rfl rfl (H.mono (fun v2 H => ?_))
  refine mm_R.wai (pc' := 16) (L' := [some ((.ref a0)), some (.int i1), some (.int i2), some (.int i3), some (.int i4), o5, o6]) (r := [v1, .int i4]) (t := 1000) 1 rfl rfl rfl rfl (H.mono (fun x3 H => ?_))
  refine mm_R.wai (pc' := 17) (L' := [some ((.ref a0)), some (.int i1), some (.int i2), some (.int i3), some (.int i4), o5, o6]) (r := [.int i4]) (t := 1000) 0 rfl rfl rfl rfl (H.mono (fun x4 H => ?_))
  refine mm_R.br (L' := [some ((.ref a0)), some (.int i1), some (.int i2), some (.int i3), some (.int i4), o5, o6]) (st' := []) (t := 85) (u := 21) (b := mm_cc .ge i4 x4) 1 rfl (fun c => ?_) (fun c => ?_)
  · replace H := H.1 (of_decide_eq_true c)
    exact mm_R.rt (pc' := 86) (L' := [some ((.ref a0)), some (.int i1), some (.int i2), some (.int i3), some (.int i4), o5, o6]) (st1 := [.int i3]) 1 rfl rfl rfl rfl rfl (mw_rvi (ty := .boolean) H.1) H.2
  · replace H := H.2 (of_decide_eq_false c)
    exact mm_R.pn (pc' := 32) (L' := [some ((.ref a0)), some (.int i1), some (.int i2), some (.int i3), some (.int i4), some (.int (((4 : Int32) * i1) + i4)), some (.int (0 : Int32))]) (st' := []) 8 rfl H
-- StepRunnerModel.needs, from 32
set_option maxRecDepth 10000 in
theorem w164_32 {X : List Int32} {d : Nat} {a0 : Nat} {i1 : Int32} {i2 : Int32} {i3 : Int32} {i4 : Int32} {i5 : Int32} {i6 : Int32} {hp : mm_H} {Q : Option Value → mm_H → Prop} (H : mw_gv 10 16 (.ref a0) hp (fun v1 => mw_ai 1000 v1 i5 hp (fun x2 => ((x2 ≤ i6 → mm_R X (d + 1) 164 5 [some ((.ref a0)), some (.int i1), some (.int i2), some (.int i3), some (.int (i4 + (1 : Int32))), some (.int i5), some (.int i6)] [] hp Q) ∧ (¬ x2 ≤ i6 → ((¬ i3 = (0 : Int32) → mm_R X (d + 1) 164 32 [some ((.ref a0)), some (.int i1), some (.int i2), some (.int (1 : Int32)), some (.int i4), some (.int i5), some (.int (i6 + (1 : Int32)))] [] hp Q) ∧ (i3 = (0 : Int32) → mw_gv 10 17 (.ref a0) hp (fun v3 => mw_ai 1000 v3 (((3 : Int32) * i5) + i6) hp (fun x4 => ((¬ x4 = ((10 : Int32) + i2) → mm_R X (d + 1) 164 32 [some ((.ref a0)), some (.int i1), some (.int i2), some (.int (0 : Int32)), some (.int i4), some (.int i5), some (.int (i6 + (1 : Int32)))] [] hp Q) ∧ (x4 = ((10 : Int32) + i2) → mm_R X (d + 1) 164 32 [some ((.ref a0)), some (.int i1), some (.int i2), some (.int (1 : Int32)), some (.int i4), some (.int i5), some (.int (i6 + (1 : Int32)))] [] hp Q))))))))))) : mm_R X (d + 1) 164 32 [some ((.ref a0)), some (.int i1), some (.int i2), some (.int i3), some (.int i4), some (.int i5), some (.int i6)] [] hp Q := by
  refine mm_R.wgv (pc' := 35) (L' := [some ((.ref a0)), some (.int i1), some (.int i2), some (.int i3), some (.int i4), some (.int i5), some (.int i6)]) (r := [.int i6]) 2 rfl rfl (H.mono (fun v1 H => ?_))
  refine mm_R.wai (pc' := 40) (L' := [some ((.ref a0)), some (.int i1), some (.int i2), some (.int i3), some (.int i4), some (.int i5), some (.int i6)]) (r := [.int i6]) (t := 1000) 1 rfl rfl rfl rfl (H.mono (fun x2 H => ?_))
  refine mm_R.br (L' := [some ((.ref a0)), some (.int i1), some (.int i2), some (.int i3), some (.int i4), some (.int i5), some (.int i6)]) (st' := []) (t := 79) (u := 44) (b := mm_cc .ge i6 x2) 1 rfl (fun c => ?_) (fun c => ?_)
  · replace H := H.1 (of_decide_eq_true c)
    exact mm_R.pn (pc' := 5) (L' := [some ((.ref a0)), some (.int i1), some (.int i2), some (.int i3), some (.int (i4 + (1 : Int32))), some (.int i5), some (.int i6)]) (st' := []) 2 rfl H
  · replace H := H.2 (of_decide_eq_false c)
    refine mm_R.br (L' := [some ((.ref a0)), some (.int i1), some (.int i2), some (.int i3), some (.int i4), some (.int i5), some (.int i6)]) (st' := []) (t := 67) (u := 48) (b := mm_cc .ne i3 (0 : Int32)) 2 rfl (fun c => ?_) (fun c => ?_)
    · replace H := H.1 (of_decide_eq_true c)
      exact mm_R.pn (pc' := 32) (L' := [some ((.ref a0)), some (.int i1), some (.int i2), some (.int (1 : Int32)), some (.int i4), some (.int i5), some (.int (i6 + (1 : Int32)))]) (st' := []) 5 rfl H
    · replace H := H.2 (Decidable.of_not_not (of_decide_eq_false c))
      refine mm_R.wgv (pc' := 49) (L' := [some ((.ref a0)), some (.int i1), some (.int i2), some (.int i3), some (.int i4), some (.int i5), some (.int i6)]) (r := []) 1 rfl rfl (H.mono (fun v3 H => ?_))
      refine mm_R.wai (pc' := 59) (L' := [some ((.ref a0)), some (.int i1), some (.int i2), some (.int i3), some (.int i4), some (.int i5), some (.int i6)]) (r := []) (t := 1000) 5 rfl rfl rfl rfl (H.mono (fun x4 H => ?_))
      refine mm_R.br (L' := [some ((.ref a0)), some (.int i1), some (.int i2), some (.int i3), some (.int i4), some (.int i5), some (.int i6)]) (st' := []) (t := 71) (u := 67) (b := mm_cc .ne x4 ((10 : Int32) + i2)) 4 rfl (fun c => ?_) (fun c => ?_)
      · replace H := H.1 (of_decide_eq_true c)
        exact mm_R.pn (pc' := 32) (L' := [some ((.ref a0)), some (.int i1), some (.int i2), some (.int (0 : Int32)), some (.int i4), some (.int i5), some (.int (i6 + (1 : Int32)))]) (st' := []) 4 rfl H
      · replace H := H.2 (Decidable.of_not_not (of_decide_eq_false c))
        exact mm_R.pn (pc' := 32) (L' := [some ((.ref a0)), some (.int i1), some (.int i2), some (.int (1 : Int32)), some (.int i4), some (.int i5), some (.int (i6 + (1 : Int32)))]) (st' := []) 5 rfl H
-- StepRunnerModel.isRound, from 0
set_option maxRecDepth 10000 in
theorem w165_0 {X : List Int32} {d : Nat} {a0 : Nat} {hp : mm_H} {Q : Option Value → mm_H → Prop} (H : mm_R X (d + 1) 165 4 [some ((.ref a0)), some (.int (0 : Int32)), some (.int (0 : Int32)), none, none, none] [] hp Q) : mm_R X (d + 1) 165 0 (mm_L0 165 [(.ref a0)]) [] hp Q := by
  show mm_R X (d + 1) 165 0 [some ((.ref a0)), none, none, none, none, none] [] hp Q
  exact mm_R.pn (pc' := 4) (L' := [some ((.ref a0)), some (.int (0 : Int32)), some (.int (0 : Int32)), none, none, none]) (st' := []) 4 rfl H
-- StepRunnerModel.isRound, from 4
set_option maxRecDepth 10000 in
theorem w165_4 {X : List Int32} {d : Nat} {a0 : Nat} {i1 : Int32} {i2 : Int32} {o3 : Option Value} {o4 : Option Value} {o5 : Option Value} {hp : mm_H} {Q : Option Value → mm_H → Prop} (H : (((6 : Int32) ≤ i2 → mw_gi 10 12 (.ref a0) hp (fun x1 => ((i1 = (((1 : Int32) <<< (x1 &&& 31)) - (1 : Int32)) → Q (some (.int (0 : Int32))) hp) ∧ (¬ i1 = (((1 : Int32) <<< (x1 &&& 31)) - (1 : Int32)) → Q (some (.int (1 : Int32))) hp)))) ∧ (¬ (6 : Int32) ≤ i2 → mm_R X (d + 1) 165 12 [some ((.ref a0)), some (.int i1), some (.int i2), some (.int (0 : Int32)), o4, o5] [] hp Q))) : mm_R X (d + 1) 165 4 [some ((.ref a0)), some (.int i1), some (.int i2), o3, o4, o5] [] hp Q := by
  refine mm_R.br (L' := [some ((.ref a0)), some (.int i1), some (.int i2), o3, o4, o5]) (st' := []) (t := 100) (u := 10) (b := mm_cc .ge i2 (6 : Int32)) 3 rfl (fun c => ?_) (fun c => ?_)
  · replace H := H.1 (of_decide_eq_true c)
    refine mm_R.wgi (pc' := 103) (L' := [some ((.ref a0)), some (.int i1), some (.int i2), o3, o4, o5]) (r := [.int (1 : Int32), .int i1]) 3 rfl rfl (H.mono (fun x1 H => ?_))
    refine mm_R.br (L' := [some ((.ref a0)), some (.int i1), some (.int i2), o3, o4, o5]) (st' := []) (t := 116) (u := 112) (b := mm_cc .eq i1 (((1 : Int32) <<< (x1 &&& 31)) - (1 : Int32))) 4 rfl (fun c => ?_) (fun c => ?_)
    · replace H := H.1 (of_decide_eq_true c)
      exact mm_R.rt (pc' := 117) (L' := [some ((.ref a0)), some (.int i1), some (.int i2), o3, o4, o5]) (st1 := [.int (0 : Int32)]) 1 rfl rfl rfl rfl rfl rfl H
    · replace H := H.2 (of_decide_eq_false c)
      exact mm_R.rt (pc' := 117) (L' := [some ((.ref a0)), some (.int i1), some (.int i2), o3, o4, o5]) (st1 := [.int (1 : Int32)]) 2 rfl rfl rfl rfl rfl rfl H
  · replace H := H.2 (of_decide_eq_false c)
    exact mm_R.pn (pc' := 12) (L' := [some ((.ref a0)), some (.int i1), some (.int i2), some (.int (0 : Int32)), o4, o5]) (st' := []) 2 rfl H
-- StepRunnerModel.isRound, from 12
set_option maxRecDepth 10000 in
theorem w165_12 {X : List Int32} {d : Nat} {a0 : Nat} {i1 : Int32} {i2 : Int32} {i3 : Int32} {o4 : Option Value} {o5 : Option Value} {hp : mm_H} {Q : Option Value → mm_H → Prop} (H : mw_gi 10 12 (.ref a0) hp (fun x1 => ((x1 ≤ i3 → mm_R X (d + 1) 165 4 [some ((.ref a0)), some (.int i1), some (.int (i2 + (1 : Int32))), some (.int i3), o4, o5] [] hp Q) ∧ (¬ x1 ≤ i3 → mm_R X (d + 1) 165 26 [some ((.ref a0)), some (.int i1), some (.int i2), some (.int i3), some (.int (1 : Int32)), some (.int (0 : Int32))] [] hp Q)))) : mm_R X (d + 1) 165 12 [some ((.ref a0)), some (.int i1), some (.int i2), some (.int i3), o4, o5] [] hp Q := by
  refine mm_R.wgi (pc' := 14) (L' := [some ((.ref a0)), some (.int i1), some (.int i2), some (.int i3), o4, o5]) (r := [.int i3]) 2 rfl rfl (H.mono (fun x1 H => ?_))
  refine mm_R.br (L' := [some ((.ref a0)), some (.int i1), some (.int i2), some (.int i3), o4, o5]) (st' := []) (t := 94) (u := 20) (b := mm_cc .ge i3 x1) 1 rfl (fun c => ?_) (fun c => ?_)
  · replace H := H.1 (of_decide_eq_true c)
    exact mm_R.pn (pc' := 4) (L' := [some ((.ref a0)), some (.int i1), some (.int (i2 + (1 : Int32))), some (.int i3), o4, o5]) (st' := []) 2 rfl H
  · replace H := H.2 (of_decide_eq_false c)
    exact mm_R.pn (pc' := 26) (L' := [some ((.ref a0)), some (.int i1), some (.int i2), some (.int i3), some (.int (1 : Int32)), some (.int (0 : Int32))]) (st' := []) 4 rfl H
-- StepRunnerModel.isRound, from 26
set_option maxRecDepth 10000 in
theorem w165_26 {X : List Int32} {d : Nat} {a0 : Nat} {i1 : Int32} {i2 : Int32} {i3 : Int32} {i4 : Int32} {i5 : Int32} {hp : mm_H} {Q : Option Value → mm_H → Prop} (H : mw_gi 10 12 (.ref a0) hp (fun x1 => ((x1 ≤ i5 → ((i4 = (0 : Int32) → mm_R X (d + 1) 165 12 [some ((.ref a0)), some (.int i1), some (.int i2), some (.int (i3 + (1 : Int32))), some (.int i4), some (.int i5)] [] hp Q) ∧ (¬ i4 = (0 : Int32) → mm_R X (d + 1) 165 12 [some ((.ref a0)), some (.int (i1 ||| ((1 : Int32) <<< (i3 &&& 31)))), some (.int i2), some (.int (i3 + (1 : Int32))), some (.int i4), some (.int i5)] [] hp Q))) ∧ (¬ x1 ≤ i5 → ((i4 = (0 : Int32) → mm_R X (d + 1) 165 26 [some ((.ref a0)), some (.int i1), some (.int i2), some (.int i3), some (.int (0 : Int32)), some (.int (i5 + (1 : Int32)))] [] hp Q) ∧ (¬ i4 = (0 : Int32) → mw_rc (.ref a0) 164 hp ∧ mm_R X d 164 0 (mm_L0 164 [(.ref a0), .int i3, .int i5]) [] hp (mw_ri (fun x4 hp3 => ((x4 = (0 : Int32) → mm_R X (d + 1) 165 26 [some ((.ref a0)), some (.int i1), some (.int i2), some (.int i3), some (.int (1 : Int32)), some (.int (i5 + (1 : Int32)))] [] hp3 Q) ∧ (¬ x4 = (0 : Int32) → ((¬ ((i1 >>> (i5 &&& 31)) &&& (1 : Int32)) = (1 : Int32) → mm_R X (d + 1) 165 26 [some ((.ref a0)), some (.int i1), some (.int i2), some (.int i3), some (.int (0 : Int32)), some (.int (i5 + (1 : Int32)))] [] hp3 Q) ∧ (((i1 >>> (i5 &&& 31)) &&& (1 : Int32)) = (1 : Int32) → mm_R X (d + 1) 165 26 [some ((.ref a0)), some (.int i1), some (.int i2), some (.int i3), some (.int (1 : Int32)), some (.int (i5 + (1 : Int32)))] [] hp3 Q)))))))))))) : mm_R X (d + 1) 165 26 [some ((.ref a0)), some (.int i1), some (.int i2), some (.int i3), some (.int i4), some (.int i5)] [] hp Q := by
  refine mm_R.wgi (pc' := 29) (L' := [some ((.ref a0)), some (.int i1), some (.int i2), some (.int i3), some (.int i4), some (.int i5)]) (r := [.int i5]) 2 rfl rfl (H.mono (fun x1 H => ?_))
  refine mm_R.br (L' := [some ((.ref a0)), some (.int i1), some (.int i2), some (.int i3), some (.int i4), some (.int i5)]) (st' := []) (t := 73) (u := 35) (b := mm_cc .ge i5 x1) 1 rfl (fun c => ?_) (fun c => ?_)
  · replace H := H.1 (of_decide_eq_true c)
    refine mm_R.br (L' := [some ((.ref a0)), some (.int i1), some (.int i2), some (.int i3), some (.int i4), some (.int i5)]) (st' := []) (t := 86) (u := 78) (b := mm_cc .eq i4 (0 : Int32)) 2 rfl (fun c => ?_) (fun c => ?_)
    · replace H := H.1 (of_decide_eq_true c)
      exact mm_R.pn (pc' := 12) (L' := [some ((.ref a0)), some (.int i1), some (.int i2), some (.int (i3 + (1 : Int32))), some (.int i4), some (.int i5)]) (st' := []) 4 rfl H
    · replace H := H.2 (of_decide_eq_false c)
      exact mm_R.pn (pc' := 12) (L' := [some ((.ref a0)), some (.int (i1 ||| ((1 : Int32) <<< (i3 &&& 31)))), some (.int i2), some (.int (i3 + (1 : Int32))), some (.int i4), some (.int i5)]) (st' := []) 9 rfl H
  · replace H := H.2 (of_decide_eq_false c)
    refine mm_R.br (L' := [some ((.ref a0)), some (.int i1), some (.int i2), some (.int i3), some (.int i4), some (.int i5)]) (st' := []) (t := 64) (u := 40) (b := mm_cc .eq i4 (0 : Int32)) 2 rfl (fun c => ?_) (fun c => ?_)
    · replace H := H.1 (of_decide_eq_true c)
      exact mm_R.pn (pc' := 26) (L' := [some ((.ref a0)), some (.int i1), some (.int i2), some (.int i3), some (.int (0 : Int32)), some (.int (i5 + (1 : Int32)))]) (st' := []) 4 rfl H
    · replace H := H.2 (of_decide_eq_false c)
      obtain ⟨hc2, H⟩ := H
      refine mm_R.cV (pc' := 44) (L' := [some ((.ref a0)), some (.int i1), some (.int i2), some (.int i3), some (.int i4), some (.int i5)]) (st1 := [.int i5, .int i3, (.ref a0)]) (as := [.int i3, .int i5]) (rest := []) 3 rfl rfl (mw_sp rfl rfl (Nat.le_of_ble_eq_true rfl) (mw_ac rfl (mw_ac rfl (mw_ac rfl mw_an))) mw_an) rfl rfl hc2 (H.mono (fun o hp3 H => ?_))
      obtain ⟨x4, rfl, H⟩ := H
      refine mm_R.br (L' := [some ((.ref a0)), some (.int i1), some (.int i2), some (.int i3), some (.int i4), some (.int i5)]) (st' := []) (t := 60) (u := 50) (b := mm_cc .eq x4 (0 : Int32)) 1 rfl (fun c => ?_) (fun c => ?_)
      · replace H := H.1 (of_decide_eq_true c)
        exact mm_R.pn (pc' := 26) (L' := [some ((.ref a0)), some (.int i1), some (.int i2), some (.int i3), some (.int (1 : Int32)), some (.int (i5 + (1 : Int32)))]) (st' := []) 5 rfl H
      · replace H := H.2 (of_decide_eq_false c)
        refine mm_R.br (L' := [some ((.ref a0)), some (.int i1), some (.int i2), some (.int i3), some (.int i4), some (.int i5)]) (st' := []) (t := 64) (u := 60) (b := mm_cc .ne ((i1 >>> (i5 &&& 31)) &&& (1 : Int32)) (1 : Int32)) 7 rfl (fun c => ?_) (fun c => ?_)
        · replace H := H.1 (of_decide_eq_true c)
          exact mm_R.pn (pc' := 26) (L' := [some ((.ref a0)), some (.int i1), some (.int i2), some (.int i3), some (.int (0 : Int32)), some (.int (i5 + (1 : Int32)))]) (st' := []) 4 rfl H
        · replace H := H.2 (Decidable.of_not_not (of_decide_eq_false c))
          exact mm_R.pn (pc' := 26) (L' := [some ((.ref a0)), some (.int i1), some (.int i2), some (.int i3), some (.int (1 : Int32)), some (.int (i5 + (1 : Int32)))]) (st' := []) 5 rfl H
-- StepRunnerModel.goOn, from 0
set_option maxRecDepth 10000 in
theorem w166_0 {X : List Int32} {d : Nat} {a0 : Nat} {hp : mm_H} {Q : Option Value → mm_H → Prop} (H : mw_gi 10 28 (.ref a0) hp (fun x1 => ((x1 = (0 : Int32) → mw_rc (.ref a0) 167 hp ∧ mm_R X d 167 0 (mm_L0 167 [(.ref a0)]) [] hp (mw_ri (fun x4 hp3 => mm_R X (d + 1) 166 16 [some ((.ref a0)), some (.int x4), none] [] hp3 Q))) ∧ (¬ x1 = (0 : Int32) → mm_R X (d + 1) 166 16 [some ((.ref a0)), some (.int (-1 : Int32)), none] [] hp Q)))) : mm_R X (d + 1) 166 0 (mm_L0 166 [(.ref a0)]) [] hp Q := by
  show mm_R X (d + 1) 166 0 [some ((.ref a0)), none, none] [] hp Q
  refine mm_R.wgi (pc' := 1) (L' := [some ((.ref a0)), none, none]) (r := []) 1 rfl rfl (H.mono (fun x1 H => ?_))
  refine mm_R.br (L' := [some ((.ref a0)), none, none]) (st' := []) (t := 11) (u := 7) (b := mm_cc .eq x1 (0 : Int32)) 1 rfl (fun c => ?_) (fun c => ?_)
  · replace H := H.1 (of_decide_eq_true c)
    obtain ⟨hc2, H⟩ := H
    refine mm_R.cV (pc' := 12) (L' := [some ((.ref a0)), none, none]) (st1 := [(.ref a0)]) (as := []) (rest := []) 1 rfl rfl (mw_sp rfl rfl (Nat.le_of_ble_eq_true rfl) (mw_ac rfl mw_an) mw_an) rfl rfl hc2 (H.mono (fun o hp3 H => ?_))
    obtain ⟨x4, rfl, H⟩ := H
    exact mm_R.pn (pc' := 16) (L' := [some ((.ref a0)), some (.int x4), none]) (st' := []) 1 rfl H
  · replace H := H.2 (of_decide_eq_false c)
    exact mm_R.pn (pc' := 16) (L' := [some ((.ref a0)), some (.int (-1 : Int32)), none]) (st' := []) 3 rfl H
-- StepRunnerModel.goOn, from 16
set_option maxRecDepth 10000 in
theorem w166_16 {X : List Int32} {d : Nat} {a0 : Nat} {i1 : Int32} {o2 : Option Value} {hp : mm_H} {Q : Option Value → mm_H → Prop} (H : ((i1 < (0 : Int32) → mm_R X (d + 1) 166 46 [some ((.ref a0)), some (.int i1), some (.int (0 : Int32))] [] hp Q) ∧ (¬ i1 < (0 : Int32) → mw_rc (.ref a0) 168 hp ∧ mm_R X d 168 0 (mm_L0 168 [(.ref a0), .int i1]) [] hp (mw_r0 (fun hp2 => mw_gi 10 28 (.ref a0) hp2 (fun x3 => ((x3 = (0 : Int32) → mw_rc (.ref a0) 167 hp2 ∧ mm_R X d 167 0 (mm_L0 167 [(.ref a0)]) [] hp2 (mw_ri (fun x6 hp5 => mm_R X (d + 1) 166 16 [some ((.ref a0)), some (.int x6), o2] [] hp5 Q))) ∧ (¬ x3 = (0 : Int32) → mm_R X (d + 1) 166 16 [some ((.ref a0)), some (.int (-1 : Int32)), o2] [] hp2 Q)))))))) : mm_R X (d + 1) 166 16 [some ((.ref a0)), some (.int i1), o2] [] hp Q := by
  refine mm_R.br (L' := [some ((.ref a0)), some (.int i1), o2]) (st' := []) (t := 44) (u := 20) (b := mm_cc .lt i1 (0 : Int32)) 2 rfl (fun c => ?_) (fun c => ?_)
  · replace H := H.1 (of_decide_eq_true c)
    exact mm_R.pn (pc' := 46) (L' := [some ((.ref a0)), some (.int i1), some (.int (0 : Int32))]) (st' := []) 2 rfl H
  · replace H := H.2 (of_decide_eq_false c)
    obtain ⟨hc1, H⟩ := H
    refine mm_R.cV (pc' := 22) (L' := [some ((.ref a0)), some (.int i1), o2]) (st1 := [.int i1, (.ref a0)]) (as := [.int i1]) (rest := []) 2 rfl rfl (mw_sp rfl rfl (Nat.le_of_ble_eq_true rfl) (mw_ac rfl (mw_ac rfl mw_an)) mw_an) rfl rfl hc1 (H.mono (fun o hp2 H => ?_))
    obtain ⟨rfl, H⟩ := H
    refine mm_R.wgi (pc' := 26) (L' := [some ((.ref a0)), some (.int i1), o2]) (r := []) 1 rfl rfl (H.mono (fun x3 H => ?_))
    refine mm_R.br (L' := [some ((.ref a0)), some (.int i1), o2]) (st' := []) (t := 36) (u := 32) (b := mm_cc .eq x3 (0 : Int32)) 1 rfl (fun c => ?_) (fun c => ?_)
    · replace H := H.1 (of_decide_eq_true c)
      obtain ⟨hc4, H⟩ := H
      refine mm_R.cV (pc' := 37) (L' := [some ((.ref a0)), some (.int i1), o2]) (st1 := [(.ref a0)]) (as := []) (rest := []) 1 rfl rfl (mw_sp rfl rfl (Nat.le_of_ble_eq_true rfl) (mw_ac rfl mw_an) mw_an) rfl rfl hc4 (H.mono (fun o hp5 H => ?_))
      obtain ⟨x6, rfl, H⟩ := H
      exact mm_R.pn (pc' := 16) (L' := [some ((.ref a0)), some (.int x6), o2]) (st' := []) 2 rfl H
    · replace H := H.2 (of_decide_eq_false c)
      exact mm_R.pn (pc' := 16) (L' := [some ((.ref a0)), some (.int (-1 : Int32)), o2]) (st' := []) 4 rfl H
-- StepRunnerModel.goOn, from 46
set_option maxRecDepth 10000 in
theorem w166_46 {X : List Int32} {d : Nat} {a0 : Nat} {i1 : Int32} {i2 : Int32} {hp : mm_H} {Q : Option Value → mm_H → Prop} (H : (((96 : Int32) ≤ i2 → mm_R X (d + 1) 166 123 [some ((.ref a0)), some (.int i1), some (.int i2)] [] hp Q) ∧ (¬ (96 : Int32) ≤ i2 → mw_gi 10 28 (.ref a0) hp (fun x1 => ((¬ x1 = (0 : Int32) → mm_R X (d + 1) 166 123 [some ((.ref a0)), some (.int i1), some (.int i2)] [] hp Q) ∧ (x1 = (0 : Int32) → mw_gv 10 31 (.ref a0) hp (fun v2 => mw_ai 1000 v2 i2 hp (fun x3 => ((¬ x3 = (1 : Int32) → mm_R X (d + 1) 166 46 [some ((.ref a0)), some (.int i1), some (.int (i2 + (1 : Int32)))] [] hp Q) ∧ (x3 = (1 : Int32) → mw_gi 10 27 (.ref a0) hp (fun x4 => mw_gi 10 24 (.ref a0) hp (fun x5 => ((x5 ≤ x4 → mm_R X (d + 1) 166 46 [some ((.ref a0)), some (.int i1), some (.int (i2 + (1 : Int32)))] [] hp Q) ∧ (¬ x5 ≤ x4 → mw_gv 10 31 (.ref a0) hp (fun v6 => mw_si 1000 .int v6 i2 (2 : Int32) hp (fun hp7 => mw_gv 10 34 (.ref a0) hp7 (fun v8 => mw_gi 10 27 (.ref a0) hp7 (fun x9 => mw_si 1000 .int v8 x9 i2 hp7 (fun hp10 => mw_gi 10 27 (.ref a0) hp10 (fun x11 => mw_pt 10 27 (.ref a0) (.int (x11 + (1 : Int32))) hp10 (fun hp12 => mw_gi 10 26 (.ref a0) hp12 (fun x13 => mw_pt 10 26 (.ref a0) (.int (x13 + (1 : Int32))) hp12 (fun hp14 => mm_R X (d + 1) 166 46 [some ((.ref a0)), some (.int i1), some (.int (i2 + (1 : Int32)))] [] hp14 Q))))))))))))))))))))))) : mm_R X (d + 1) 166 46 [some ((.ref a0)), some (.int i1), some (.int i2)] [] hp Q := by
  refine mm_R.br (L' := [some ((.ref a0)), some (.int i1), some (.int i2)]) (st' := []) (t := 123) (u := 52) (b := mm_cc .ge i2 (96 : Int32)) 3 rfl (fun c => ?_) (fun c => ?_)
  · replace H := H.1 (of_decide_eq_true c)
    exact H
  · replace H := H.2 (of_decide_eq_false c)
    refine mm_R.wgi (pc' := 53) (L' := [some ((.ref a0)), some (.int i1), some (.int i2)]) (r := []) 1 rfl rfl (H.mono (fun x1 H => ?_))
    refine mm_R.br (L' := [some ((.ref a0)), some (.int i1), some (.int i2)]) (st' := []) (t := 123) (u := 59) (b := mm_cc .ne x1 (0 : Int32)) 1 rfl (fun c => ?_) (fun c => ?_)
    · replace H := H.1 (of_decide_eq_true c)
      exact H
    · replace H := H.2 (Decidable.of_not_not (of_decide_eq_false c))
      refine mm_R.wgv (pc' := 60) (L' := [some ((.ref a0)), some (.int i1), some (.int i2)]) (r := []) 1 rfl rfl (H.mono (fun v2 H => ?_))
      refine mm_R.wai (pc' := 64) (L' := [some ((.ref a0)), some (.int i1), some (.int i2)]) (r := []) (t := 1000) 1 rfl rfl rfl rfl (H.mono (fun x3 H => ?_))
      refine mm_R.br (L' := [some ((.ref a0)), some (.int i1), some (.int i2)]) (st' := []) (t := 117) (u := 69) (b := mm_cc .ne x3 (1 : Int32)) 2 rfl (fun c => ?_) (fun c => ?_)
      · replace H := H.1 (of_decide_eq_true c)
        exact mm_R.pn (pc' := 46) (L' := [some ((.ref a0)), some (.int i1), some (.int (i2 + (1 : Int32)))]) (st' := []) 2 rfl H
      · replace H := H.2 (Decidable.of_not_not (of_decide_eq_false c))
        refine mm_R.wgi (pc' := 70) (L' := [some ((.ref a0)), some (.int i1), some (.int i2)]) (r := []) 1 rfl rfl (H.mono (fun x4 H => ?_))
        refine mm_R.wgi (pc' := 74) (L' := [some ((.ref a0)), some (.int i1), some (.int i2)]) (r := [.int x4]) 1 rfl rfl (H.mono (fun x5 H => ?_))
        refine mm_R.br (L' := [some ((.ref a0)), some (.int i1), some (.int i2)]) (st' := []) (t := 117) (u := 80) (b := mm_cc .ge x4 x5) 1 rfl (fun c => ?_) (fun c => ?_)
        · replace H := H.1 (of_decide_eq_true c)
          exact mm_R.pn (pc' := 46) (L' := [some ((.ref a0)), some (.int i1), some (.int (i2 + (1 : Int32)))]) (st' := []) 2 rfl H
        · replace H := H.2 (of_decide_eq_false c)
          refine mm_R.wgv (pc' := 81) (L' := [some ((.ref a0)), some (.int i1), some (.int i2)]) (r := []) 1 rfl rfl (H.mono (fun v6 H => ?_))
          refine mm_R.wsi (pc' := 86) (L' := [some ((.ref a0)), some (.int i1), some (.int i2)]) (r := []) (t := 1000) (ty := .int) 2 rfl rfl rfl rfl (H.mono (fun hp7 H => ?_))
          refine mm_R.wgv (pc' := 88) (L' := [some ((.ref a0)), some (.int i1), some (.int i2)]) (r := []) 1 rfl rfl (H.mono (fun v8 H => ?_))
          refine mm_R.wgi (pc' := 92) (L' := [some ((.ref a0)), some (.int i1), some (.int i2)]) (r := [v8]) 1 rfl rfl (H.mono (fun x9 H => ?_))
          refine mm_R.wsi (pc' := 96) (L' := [some ((.ref a0)), some (.int i1), some (.int i2)]) (r := []) (t := 1000) (ty := .int) 1 rfl rfl rfl rfl (H.mono (fun hp10 H => ?_))
          refine mm_R.wgi (pc' := 99) (L' := [some ((.ref a0)), some (.int i1), some (.int i2)]) (r := [(.ref a0)]) 2 rfl rfl (H.mono (fun x11 H => ?_))
          refine mm_R.wpt (pc' := 104) (L' := [some ((.ref a0)), some (.int i1), some (.int i2)]) (r := []) 2 rfl rfl (H.mono (fun hp12 H => ?_))
          refine mm_R.wgi (pc' := 109) (L' := [some ((.ref a0)), some (.int i1), some (.int i2)]) (r := [(.ref a0)]) 2 rfl rfl (H.mono (fun x13 H => ?_))
          refine mm_R.wpt (pc' := 114) (L' := [some ((.ref a0)), some (.int i1), some (.int i2)]) (r := []) 2 rfl rfl (H.mono (fun hp14 H => ?_))
          exact mm_R.pn (pc' := 46) (L' := [some ((.ref a0)), some (.int i1), some (.int (i2 + (1 : Int32)))]) (st' := []) 2 rfl H
-- StepRunnerModel.goOn, from 123
set_option maxRecDepth 10000 in
theorem w166_123 {X : List Int32} {d : Nat} {a0 : Nat} {i1 : Int32} {i2 : Int32} {hp : mm_H} {Q : Option Value → mm_H → Prop} (H : mw_gi 10 27 (.ref a0) hp (fun x1 => ((¬ x1 = (0 : Int32) → Q none hp) ∧ (x1 = (0 : Int32) → mw_gi 10 28 (.ref a0) hp (fun x2 => ((x2 = (0 : Int32) → mw_pt 10 23 (.ref a0) (.int (2 : Int32)) hp (fun hp3 => Q none hp3)) ∧ (¬ x2 = (0 : Int32) → mw_pt 10 23 (.ref a0) (.int (3 : Int32)) hp (fun hp4 => Q none hp4)))))))) : mm_R X (d + 1) 166 123 [some ((.ref a0)), some (.int i1), some (.int i2)] [] hp Q := by
  refine mm_R.wgi (pc' := 124) (L' := [some ((.ref a0)), some (.int i1), some (.int i2)]) (r := []) 1 rfl rfl (H.mono (fun x1 H => ?_))
  refine mm_R.br (L' := [some ((.ref a0)), some (.int i1), some (.int i2)]) (st' := []) (t := 146) (u := 130) (b := mm_cc .ne x1 (0 : Int32)) 1 rfl (fun c => ?_) (fun c => ?_)
  · replace H := H.1 (of_decide_eq_true c)
    exact mm_R.rt (pc' := 146) (L' := [some ((.ref a0)), some (.int i1), some (.int i2)]) (st1 := []) 0 rfl rfl rfl rfl rfl rfl H
  · replace H := H.2 (Decidable.of_not_not (of_decide_eq_false c))
    refine mm_R.wgi (pc' := 132) (L' := [some ((.ref a0)), some (.int i1), some (.int i2)]) (r := [(.ref a0)]) 2 rfl rfl (H.mono (fun x2 H => ?_))
    refine mm_R.br (L' := [some ((.ref a0)), some (.int i1), some (.int i2)]) (st' := [(.ref a0)]) (t := 142) (u := 138) (b := mm_cc .eq x2 (0 : Int32)) 1 rfl (fun c => ?_) (fun c => ?_)
    · replace H := H.1 (of_decide_eq_true c)
      refine mm_R.wpt (pc' := 143) (L' := [some ((.ref a0)), some (.int i1), some (.int i2)]) (r := []) 1 rfl rfl (H.mono (fun hp3 H => ?_))
      exact mm_R.rt (pc' := 146) (L' := [some ((.ref a0)), some (.int i1), some (.int i2)]) (st1 := []) 0 rfl rfl rfl rfl rfl rfl H
    · replace H := H.2 (of_decide_eq_false c)
      refine mm_R.wpt (pc' := 143) (L' := [some ((.ref a0)), some (.int i1), some (.int i2)]) (r := []) 2 rfl rfl (H.mono (fun hp4 H => ?_))
      exact mm_R.rt (pc' := 146) (L' := [some ((.ref a0)), some (.int i1), some (.int i2)]) (st1 := []) 0 rfl rfl rfl rfl rfl rfl H
