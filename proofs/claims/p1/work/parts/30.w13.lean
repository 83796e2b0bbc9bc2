-- StepRunnerModel.level, from 0
set_option maxRecDepth 10000 in
theorem w145_0 {X : List Int32} {d : Nat} {a0 : Nat} {i1 : Int32} {hp : mm_H} {Q : Option Value → mm_H → Prop} (H : mw_gv 10 4 (.ref a0) hp (fun v1 => mw_al 1004 v1 i1 hp (fun x2 => Q (some (.int (Int64.toInt32 ((x2 >>> (Int32.toInt64 (2 : Int32) &&& 63)) &&& (63 : Int64))))) hp))) : mm_R X (d + 1) 145 0 (mm_L0 145 [(.ref a0), .int i1]) [] hp Q := by
  show mm_R X (d + 1) 145 0 [some ((.ref a0)), some (.int i1)] [] hp Q
  refine mm_R.wgv (pc' := 1) (L' := [some ((.ref a0)), some (.int i1)]) (r := []) 1 rfl rfl (H.mono (fun v1 H => ?_))
  refine mm_R.wal (pc' := 5) (L' := [some ((.ref a0)), some (.int i1)]) (r := []) (t := 1004) 1 rfl rfl rfl rfl (H.mono (fun x2 H => ?_))
  exact mm_R.rt (pc' := 13) (L' := [some ((.ref a0)), some (.int i1)]) (st1 := [.int (Int64.toInt32 ((x2 >>> (Int32.toInt64 (2 : Int32) &&& 63)) &&& (63 : Int64)))]) 5 rfl rfl rfl rfl rfl rfl H
-- StepRunnerModel.elements, from 0
set_option maxRecDepth 10000 in
theorem w146_0 {X : List Int32} {d : Nat} {a0 : Nat} {i1 : Int32} {i2 : Int32} {hp : mm_H} {Q : Option Value → mm_H → Prop} (H : mw_rc (.ref a0) 147 hp ∧ mm_R X d 147 0 (mm_L0 147 [(.ref a0), .int i1, .int i2]) [] hp (mw_ri (fun x3 hp2 => mm_R X (d + 1) 146 15 [some ((.ref a0)), some (.int i1), some (.int i2), some (.int (0 : Int32)), some (.int x3), some (.int (i1 + (1 : Int32)))] [] hp2 Q))) : mm_R X (d + 1) 146 0 (mm_L0 146 [(.ref a0), .int i1, .int i2]) [] hp Q := by
  show mm_R X (d + 1) 146 0 [some ((.ref a0)), some (.int i1), some (.int i2), none, none, none] [] hp Q
  obtain ⟨hc1, H⟩ := H
  refine mm_R.cV (pc' := 5) (L' := [some ((.ref a0)), some (.int i1), some (.int i2), some (.int (0 : Int32)), none, none]) (st1 := [.int i2, .int i1, (.ref a0)]) (as := [.int i1, .int i2]) (rest := []) 5 rfl rfl (mw_sp rfl rfl (Nat.le_of_ble_eq_true rfl) (mw_ac rfl (mw_ac rfl (mw_ac rfl mw_an))) mw_an) rfl rfl hc1 (H.mono (fun o hp2 H => ?_))
  obtain ⟨x3, rfl, H⟩ := H
  exact mm_R.pn (pc' := 15) (L' := [some ((.ref a0)), some (.int i1), some (.int i2), some (.int (0 : Int32)), some (.int x3), some (.int (i1 + (1 : Int32)))]) (st' := []) 5 rfl H
-- StepRunnerModel.elements, from 15
set_option maxRecDepth 10000 in
theorem w146_15 {X : List Int32} {d : Nat} {a0 : Nat} {i1 : Int32} {i2 : Int32} {i3 : Int32} {i4 : Int32} {i5 : Int32} {hp : mm_H} {Q : Option Value → mm_H → Prop} (H : ((i4 ≤ i5 → Q (some (.int i3)) hp) ∧ (¬ i4 ≤ i5 → mw_rc (.ref a0) 147 hp ∧ mm_R X d 147 0 (mm_L0 147 [(.ref a0), .int i5, .int i2]) [] hp (mw_ri (fun x3 hp2 => mm_R X (d + 1) 146 15 [some ((.ref a0)), some (.int i1), some (.int i2), some (.int (i3 + (1 : Int32))), some (.int i4), some (.int x3)] [] hp2 Q))))) : mm_R X (d + 1) 146 15 [some ((.ref a0)), some (.int i1), some (.int i2), some (.int i3), some (.int i4), some (.int i5)] [] hp Q := by
  refine mm_R.br (L' := [some ((.ref a0)), some (.int i1), some (.int i2), some (.int i3), some (.int i4), some (.int i5)]) (st' := []) (t := 37) (u := 22) (b := mm_cc .ge i5 i4) 3 rfl (fun c => ?_) (fun c => ?_)
  · replace H := H.1 (of_decide_eq_true c)
    exact mm_R.rt (pc' := 38) (L' := [some ((.ref a0)), some (.int i1), some (.int i2), some (.int i3), some (.int i4), some (.int i5)]) (st1 := [.int i3]) 1 rfl rfl rfl rfl rfl rfl H
  · replace H := H.2 (of_decide_eq_false c)
    obtain ⟨hc1, H⟩ := H
    refine mm_R.cV (pc' := 29) (L' := [some ((.ref a0)), some (.int i1), some (.int i2), some (.int (i3 + (1 : Int32))), some (.int i4), some (.int i5)]) (st1 := [.int i2, .int i5, (.ref a0)]) (as := [.int i5, .int i2]) (rest := []) 4 rfl rfl (mw_sp rfl rfl (Nat.le_of_ble_eq_true rfl) (mw_ac rfl (mw_ac rfl (mw_ac rfl mw_an))) mw_an) rfl rfl hc1 (H.mono (fun o hp2 H => ?_))
    obtain ⟨x3, rfl, H⟩ := H
    exact mm_R.pn (pc' := 15) (L' := [some ((.ref a0)), some (.int i1), some (.int i2), some (.int (i3 + (1 : Int32))), some (.int i4), some (.int x3)]) (st' := []) 2 rfl H
-- StepRunnerModel.behind, from 0
set_option maxRecDepth 10000 in
theorem w147_0 {X : List Int32} {d : Nat} {a0 : Nat} {i1 : Int32} {i2 : Int32} {hp : mm_H} {Q : Option Value → mm_H → Prop} (H : mm_R X (d + 1) 147 4 [some ((.ref a0)), some (.int i1), some (.int i2), some (.int (i1 + (1 : Int32)))] [] hp Q) : mm_R X (d + 1) 147 0 (mm_L0 147 [(.ref a0), .int i1, .int i2]) [] hp Q := by
  show mm_R X (d + 1) 147 0 [some ((.ref a0)), some (.int i1), some (.int i2), none] [] hp Q
  exact mm_R.pn (pc' := 4) (L' := [some ((.ref a0)), some (.int i1), some (.int i2), some (.int (i1 + (1 : Int32)))]) (st' := []) 4 rfl H
-- StepRunnerModel.behind, from 4
set_option maxRecDepth 10000 in
theorem w147_4 {X : List Int32} {d : Nat} {a0 : Nat} {i1 : Int32} {i2 : Int32} {i3 : Int32} {hp : mm_H} {Q : Option Value → mm_H → Prop} (H : ((i2 ≤ i3 → Q (some (.int i3)) hp) ∧ (¬ i2 ≤ i3 → mw_rc (.ref a0) 145 hp ∧ mm_R X d 145 0 (mm_L0 145 [(.ref a0), .int i3]) [] hp (mw_ri (fun x3 hp2 => mw_rc (.ref a0) 145 hp2 ∧ mm_R X d 145 0 (mm_L0 145 [(.ref a0), .int i1]) [] hp2 (mw_ri (fun x6 hp5 => ((x3 ≤ x6 → Q (some (.int i3)) hp5) ∧ (¬ x3 ≤ x6 → mm_R X (d + 1) 147 4 [some ((.ref a0)), some (.int i1), some (.int i2), some (.int (i3 + (1 : Int32)))] [] hp5 Q))))))))) : mm_R X (d + 1) 147 4 [some ((.ref a0)), some (.int i1), some (.int i2), some (.int i3)] [] hp Q := by
  refine mm_R.br (L' := [some ((.ref a0)), some (.int i1), some (.int i2), some (.int i3)]) (st' := []) (t := 28) (u := 9) (b := mm_cc .ge i3 i2) 3 rfl (fun c => ?_) (fun c => ?_)
  · replace H := H.1 (of_decide_eq_true c)
    exact mm_R.rt (pc' := 29) (L' := [some ((.ref a0)), some (.int i1), some (.int i2), some (.int i3)]) (st1 := [.int i3]) 1 rfl rfl rfl rfl rfl rfl H
  · replace H := H.2 (of_decide_eq_false c)
    obtain ⟨hc1, H⟩ := H
    refine mm_R.cV (pc' := 11) (L' := [some ((.ref a0)), some (.int i1), some (.int i2), some (.int i3)]) (st1 := [.int i3, (.ref a0)]) (as := [.int i3]) (rest := []) 2 rfl rfl (mw_sp rfl rfl (Nat.le_of_ble_eq_true rfl) (mw_ac rfl (mw_ac rfl mw_an)) mw_an) rfl rfl hc1 (H.mono (fun o hp2 H => ?_))
    obtain ⟨x3, rfl, H⟩ := H
    obtain ⟨hc4, H⟩ := H
    refine mm_R.cV (pc' := 16) (L' := [some ((.ref a0)), some (.int i1), some (.int i2), some (.int i3)]) (st1 := [.int i1, (.ref a0), .int x3]) (as := [.int i1]) (rest := [.int x3]) 2 rfl rfl (mw_sp rfl rfl (Nat.le_of_ble_eq_true rfl) (mw_ac rfl (mw_ac rfl mw_an)) (mw_ac rfl mw_an)) rfl rfl hc4 (H.mono (fun o hp5 H => ?_))
    obtain ⟨x6, rfl, H⟩ := H
    refine mm_R.br (L' := [some ((.ref a0)), some (.int i1), some (.int i2), some (.int i3)]) (st' := []) (t := 28) (u := 22) (b := mm_cc .le x3 x6) 1 rfl (fun c => ?_) (fun c => ?_)
    · replace H := H.1 (of_decide_eq_true c)
      exact mm_R.rt (pc' := 29) (L' := [some ((.ref a0)), some (.int i1), some (.int i2), some (.int i3)]) (st1 := [.int i3]) 1 rfl rfl rfl rfl rfl rfl H
    · replace H := H.2 (of_decide_eq_false c)
      exact mm_R.pn (pc' := 4) (L' := [some ((.ref a0)), some (.int i1), some (.int i2), some (.int (i3 + (1 : Int32)))]) (st' := []) 2 rfl H
-- StepRunnerModel.keep, from 0
set_option maxRecDepth 10000 in
theorem w148_0 {X : List Int32} {d : Nat} {a0 : Nat} {i1 : Int32} {hp : mm_H} {Q : Option Value → mm_H → Prop} (H : mw_rc (.ref a0) 149 hp ∧ mm_R X d 149 0 (mm_L0 149 [(.ref a0), .int (141 : Int32), .int i1]) [] hp (mw_r0 (fun hp2 => mm_R X d 123 0 (mm_L0 123 [.int i1]) [] hp2 (mw_ri (fun x4 hp3 => mm_R X (d + 1) 148 13 [some ((.ref a0)), some (.int i1), some (.int x4), none] [] hp3 Q))))) : mm_R X (d + 1) 148 0 (mm_L0 148 [(.ref a0), .int i1]) [] hp Q := by
  show mm_R X (d + 1) 148 0 [some ((.ref a0)), some (.int i1), none, none] [] hp Q
  obtain ⟨hc1, H⟩ := H
  refine mm_R.cV (pc' := 5) (L' := [some ((.ref a0)), some (.int i1), none, none]) (st1 := [.int i1, .int (141 : Int32), (.ref a0)]) (as := [.int (141 : Int32), .int i1]) (rest := []) 3 rfl rfl (mw_sp rfl rfl (Nat.le_of_ble_eq_true rfl) (mw_ac rfl (mw_ac rfl (mw_ac rfl mw_an))) mw_an) rfl rfl hc1 (H.mono (fun o hp2 H => ?_))
  obtain ⟨rfl, H⟩ := H
  refine mm_R.cS (pc' := 9) (L' := [some ((.ref a0)), some (.int i1), none, none]) (st1 := [.int i1]) (as := [.int i1]) (rest := []) 1 rfl rfl (mw_sp rfl rfl (Nat.le_of_ble_eq_true rfl) (mw_ac rfl mw_an) mw_an) rfl rfl (H.mono (fun o hp3 H => ?_))
  obtain ⟨x4, rfl, H⟩ := H
  exact mm_R.pn (pc' := 13) (L' := [some ((.ref a0)), some (.int i1), some (.int x4), none]) (st' := []) 1 rfl H
-- StepRunnerModel.keep, from 13
set_option maxRecDepth 10000 in
theorem w148_13 {X : List Int32} {d : Nat} {a0 : Nat} {i1 : Int32} {i2 : Int32} {o3 : Option Value} {hp : mm_H} {Q : Option Value → mm_H → Prop} (H : mw_rc (.ref a0) 143 hp ∧ mm_R X d 143 0 (mm_L0 143 [(.ref a0), .int i1]) [] hp (mw_ri (fun x3 hp2 => ((x3 ≤ i2 → Q none hp2) ∧ (¬ x3 ≤ i2 → mw_rc (.ref a0) 144 hp2 ∧ mm_R X d 144 0 (mm_L0 144 [(.ref a0), .int i2]) [] hp2 (mw_ri (fun x6 hp5 => ((¬ x6 = (2 : Int32) → mm_R X (d + 1) 148 13 [some ((.ref a0)), some (.int i1), some (.int (i2 + (1 : Int32))), o3] [] hp5 Q) ∧ (x6 = (2 : Int32) → mm_R X (d + 1) 148 33 [some ((.ref a0)), some (.int i1), some (.int i2), some (.int (0 : Int32))] [] hp5 Q))))))))) : mm_R X (d + 1) 148 13 [some ((.ref a0)), some (.int i1), some (.int i2), o3] [] hp Q := by
  obtain ⟨hc1, H⟩ := H
  refine mm_R.cV (pc' := 16) (L' := [some ((.ref a0)), some (.int i1), some (.int i2), o3]) (st1 := [.int i1, (.ref a0), .int i2]) (as := [.int i1]) (rest := [.int i2]) 3 rfl rfl (mw_sp rfl rfl (Nat.le_of_ble_eq_true rfl) (mw_ac rfl (mw_ac rfl mw_an)) (mw_ac rfl mw_an)) rfl rfl hc1 (H.mono (fun o hp2 H => ?_))
  obtain ⟨x3, rfl, H⟩ := H
  refine mm_R.br (L' := [some ((.ref a0)), some (.int i1), some (.int i2), o3]) (st' := []) (t := 103) (u := 22) (b := mm_cc .ge i2 x3) 1 rfl (fun c => ?_) (fun c => ?_)
  · replace H := H.1 (of_decide_eq_true c)
    exact mm_R.rt (pc' := 103) (L' := [some ((.ref a0)), some (.int i1), some (.int i2), o3]) (st1 := []) 0 rfl rfl rfl rfl rfl rfl H
  · replace H := H.2 (of_decide_eq_false c)
    obtain ⟨hc4, H⟩ := H
    refine mm_R.cV (pc' := 24) (L' := [some ((.ref a0)), some (.int i1), some (.int i2), o3]) (st1 := [.int i2, (.ref a0)]) (as := [.int i2]) (rest := []) 2 rfl rfl (mw_sp rfl rfl (Nat.le_of_ble_eq_true rfl) (mw_ac rfl (mw_ac rfl mw_an)) mw_an) rfl rfl hc4 (H.mono (fun o hp5 H => ?_))
    obtain ⟨x6, rfl, H⟩ := H
    refine mm_R.br (L' := [some ((.ref a0)), some (.int i1), some (.int i2), o3]) (st' := []) (t := 97) (u := 31) (b := mm_cc .ne x6 (2 : Int32)) 2 rfl (fun c => ?_) (fun c => ?_)
    · replace H := H.1 (of_decide_eq_true c)
      exact mm_R.pn (pc' := 13) (L' := [some ((.ref a0)), some (.int i1), some (.int (i2 + (1 : Int32))), o3]) (st' := []) 2 rfl H
    · replace H := H.2 (Decidable.of_not_not (of_decide_eq_false c))
      exact mm_R.pn (pc' := 33) (L' := [some ((.ref a0)), some (.int i1), some (.int i2), some (.int (0 : Int32))]) (st' := []) 2 rfl H
-- StepRunnerModel.keep, from 33
set_option maxRecDepth 10000 in
theorem w148_33 {X : List Int32} {d : Nat} {a0 : Nat} {i1 : Int32} {i2 : Int32} {i3 : Int32} {hp : mm_H} {Q : Option Value → mm_H → Prop} (H : mw_rc (.ref a0) 153 hp ∧ mm_R X d 153 0 (mm_L0 153 [(.ref a0), .int i2]) [] hp (mw_ri (fun x3 hp2 => ((x3 ≤ i3 → mw_gi 10 1 (.ref a0) hp2 (fun x4 => mw_rc (.ref a0) 153 hp2 ∧ mm_R X d 153 0 (mm_L0 153 [(.ref a0), .int i2]) [] hp2 (mw_ri (fun x7 hp6 => mw_rc (.ref a0) 140 hp6 ∧ mm_R X d 140 0 (mm_L0 140 [(.ref a0), .int i2, .int x4, .int x7]) [] hp6 (mw_r0 (fun hp9 => mw_gi 10 1 (.ref a0) hp9 (fun x10 => mw_rc (.ref a0) 153 hp9 ∧ mm_R X d 153 0 (mm_L0 153 [(.ref a0), .int i2]) [] hp9 (mw_ri (fun x13 hp12 => mw_pt 10 1 (.ref a0) (.int (x10 + x13)) hp12 (fun hp14 => mm_R X (d + 1) 148 13 [some ((.ref a0)), some (.int i1), some (.int (i2 + (1 : Int32))), some (.int i3)] [] hp14 Q)))))))))) ∧ (¬ x3 ≤ i3 → mw_gi 10 1 (.ref a0) hp2 (fun x15 => mw_rc (.ref a0) 152 hp2 ∧ mm_R X d 152 0 (mm_L0 152 [(.ref a0), .int i2]) [] hp2 (mw_ri (fun x18 hp17 => mw_rc (.ref a0) 154 hp17 ∧ mm_R X d 154 0 (mm_L0 154 [(.ref a0), .int (x18 + i3)]) [] hp17 (mw_ri (fun x21 hp20 => mw_rc (.ref a0) 138 hp20 ∧ mm_R X d 138 0 (mm_L0 138 [(.ref a0), .int (x15 + i3), .int x21]) [] hp20 (mw_r0 (fun hp23 => mm_R X (d + 1) 148 33 [some ((.ref a0)), some (.int i1), some (.int i2), some (.int (i3 + (1 : Int32)))] [] hp23 Q)))))))))))) : mm_R X (d + 1) 148 33 [some ((.ref a0)), some (.int i1), some (.int i2), some (.int i3)] [] hp Q := by
  obtain ⟨hc1, H⟩ := H
  refine mm_R.cV (pc' := 36) (L' := [some ((.ref a0)), some (.int i1), some (.int i2), some (.int i3)]) (st1 := [.int i2, (.ref a0), .int i3]) (as := [.int i2]) (rest := [.int i3]) 3 rfl rfl (mw_sp rfl rfl (Nat.le_of_ble_eq_true rfl) (mw_ac rfl (mw_ac rfl mw_an)) (mw_ac rfl mw_an)) rfl rfl hc1 (H.mono (fun o hp2 H => ?_))
  obtain ⟨x3, rfl, H⟩ := H
  refine mm_R.br (L' := [some ((.ref a0)), some (.int i1), some (.int i2), some (.int i3)]) (st' := []) (t := 69) (u := 42) (b := mm_cc .ge i3 x3) 1 rfl (fun c => ?_) (fun c => ?_)
  · replace H := H.1 (of_decide_eq_true c)
    refine mm_R.wgi (pc' := 72) (L' := [some ((.ref a0)), some (.int i1), some (.int i2), some (.int i3)]) (r := [.int i2, (.ref a0)]) 3 rfl rfl (H.mono (fun x4 H => ?_))
    obtain ⟨hc5, H⟩ := H
    refine mm_R.cV (pc' := 77) (L' := [some ((.ref a0)), some (.int i1), some (.int i2), some (.int i3)]) (st1 := [.int i2, (.ref a0), .int x4, .int i2, (.ref a0)]) (as := [.int i2]) (rest := [.int x4, .int i2, (.ref a0)]) 2 rfl rfl (mw_sp rfl rfl (Nat.le_of_ble_eq_true rfl) (mw_ac rfl (mw_ac rfl mw_an)) (mw_ac rfl (mw_ac rfl (mw_ac rfl mw_an)))) rfl rfl hc5 (H.mono (fun o hp6 H => ?_))
    obtain ⟨x7, rfl, H⟩ := H
    obtain ⟨hc8, H⟩ := H
    refine mm_R.cV (pc' := 80) (L' := [some ((.ref a0)), some (.int i1), some (.int i2), some (.int i3)]) (st1 := [.int x7, .int x4, .int i2, (.ref a0)]) (as := [.int i2, .int x4, .int x7]) (rest := []) 0 rfl rfl (mw_sp rfl rfl (Nat.le_of_ble_eq_true rfl) (mw_ac rfl (mw_ac rfl (mw_ac rfl (mw_ac rfl mw_an)))) mw_an) rfl rfl hc8 (H.mono (fun o hp9 H => ?_))
    obtain ⟨rfl, H⟩ := H
    refine mm_R.wgi (pc' := 85) (L' := [some ((.ref a0)), some (.int i1), some (.int i2), some (.int i3)]) (r := [(.ref a0)]) 2 rfl rfl (H.mono (fun x10 H => ?_))
    obtain ⟨hc11, H⟩ := H
    refine mm_R.cV (pc' := 90) (L' := [some ((.ref a0)), some (.int i1), some (.int i2), some (.int i3)]) (st1 := [.int i2, (.ref a0), .int x10, (.ref a0)]) (as := [.int i2]) (rest := [.int x10, (.ref a0)]) 2 rfl rfl (mw_sp rfl rfl (Nat.le_of_ble_eq_true rfl) (mw_ac rfl (mw_ac rfl mw_an)) (mw_ac rfl (mw_ac rfl mw_an))) rfl rfl hc11 (H.mono (fun o hp12 H => ?_))
    obtain ⟨x13, rfl, H⟩ := H
    refine mm_R.wpt (pc' := 94) (L' := [some ((.ref a0)), some (.int i1), some (.int i2), some (.int i3)]) (r := []) 1 rfl rfl (H.mono (fun hp14 H => ?_))
    exact mm_R.pn (pc' := 13) (L' := [some ((.ref a0)), some (.int i1), some (.int (i2 + (1 : Int32))), some (.int i3)]) (st' := []) 2 rfl H
  · replace H := H.2 (of_decide_eq_false c)
    refine mm_R.wgi (pc' := 44) (L' := [some ((.ref a0)), some (.int i1), some (.int i2), some (.int i3)]) (r := [(.ref a0)]) 2 rfl rfl (H.mono (fun x15 H => ?_))
    obtain ⟨hc16, H⟩ := H
    refine mm_R.cV (pc' := 52) (L' := [some ((.ref a0)), some (.int i1), some (.int i2), some (.int i3)]) (st1 := [.int i2, (.ref a0), (.ref a0), .int (x15 + i3), (.ref a0)]) (as := [.int i2]) (rest := [(.ref a0), .int (x15 + i3), (.ref a0)]) 5 rfl rfl (mw_sp rfl rfl (Nat.le_of_ble_eq_true rfl) (mw_ac rfl (mw_ac rfl mw_an)) (mw_ac rfl (mw_ac rfl (mw_ac rfl mw_an)))) rfl rfl hc16 (H.mono (fun o hp17 H => ?_))
    obtain ⟨x18, rfl, H⟩ := H
    obtain ⟨hc19, H⟩ := H
    refine mm_R.cV (pc' := 57) (L' := [some ((.ref a0)), some (.int i1), some (.int i2), some (.int i3)]) (st1 := [.int (x18 + i3), (.ref a0), .int (x15 + i3), (.ref a0)]) (as := [.int (x18 + i3)]) (rest := [.int (x15 + i3), (.ref a0)]) 2 rfl rfl (mw_sp rfl rfl (Nat.le_of_ble_eq_true rfl) (mw_ac rfl (mw_ac rfl mw_an)) (mw_ac rfl (mw_ac rfl mw_an))) rfl rfl hc19 (H.mono (fun o hp20 H => ?_))
    obtain ⟨x21, rfl, H⟩ := H
    obtain ⟨hc22, H⟩ := H
    refine mm_R.cV (pc' := 60) (L' := [some ((.ref a0)), some (.int i1), some (.int i2), some (.int i3)]) (st1 := [.int x21, .int (x15 + i3), (.ref a0)]) (as := [.int (x15 + i3), .int x21]) (rest := []) 0 rfl rfl (mw_sp rfl rfl (Nat.le_of_ble_eq_true rfl) (mw_ac rfl (mw_ac rfl (mw_ac rfl mw_an))) mw_an) rfl rfl hc22 (H.mono (fun o hp23 H => ?_))
    obtain ⟨rfl, H⟩ := H
    exact mm_R.pn (pc' := 33) (L' := [some ((.ref a0)), some (.int i1), some (.int i2), some (.int (i3 + (1 : Int32)))]) (st' := []) 2 rfl H
-- StepRunnerModel.copySlot, from 0
set_option maxRecDepth 10000 in
theorem w149_0 {X : List Int32} {d : Nat} {a0 : Nat} {i1 : Int32} {i2 : Int32} {hp : mm_H} {Q : Option Value → mm_H → Prop} (H : mw_rc (.ref a0) 121 hp ∧ mm_R X d 121 0 (mm_L0 121 [(.ref a0), .int i2]) [] hp (mw_r0 (fun hp2 => mm_R X d 123 0 (mm_L0 123 [.int i1]) [] hp2 (mw_ri (fun x4 hp3 => mw_rc (.ref a0) 143 hp3 ∧ mm_R X d 143 0 (mm_L0 143 [(.ref a0), .int i1]) [] hp3 (mw_ri (fun x7 hp6 => mw_rc (.ref a0) 150 hp6 ∧ mm_R X d 150 0 (mm_L0 150 [(.ref a0), .int x4, .int x7, .int i2, .int (0 : Int32)]) [] hp6 (mw_r0 (fun hp9 => Q none hp9))))))))) : mm_R X (d + 1) 149 0 (mm_L0 149 [(.ref a0), .int i1, .int i2]) [] hp Q := by
  show mm_R X (d + 1) 149 0 [some ((.ref a0)), some (.int i1), some (.int i2)] [] hp Q
  obtain ⟨hc1, H⟩ := H
  refine mm_R.cV (pc' := 2) (L' := [some ((.ref a0)), some (.int i1), some (.int i2)]) (st1 := [.int i2, (.ref a0)]) (as := [.int i2]) (rest := []) 2 rfl rfl (mw_sp rfl rfl (Nat.le_of_ble_eq_true rfl) (mw_ac rfl (mw_ac rfl mw_an)) mw_an) rfl rfl hc1 (H.mono (fun o hp2 H => ?_))
  obtain ⟨rfl, H⟩ := H
  refine mm_R.cS (pc' := 7) (L' := [some ((.ref a0)), some (.int i1), some (.int i2)]) (st1 := [.int i1, (.ref a0)]) (as := [.int i1]) (rest := [(.ref a0)]) 2 rfl rfl (mw_sp rfl rfl (Nat.le_of_ble_eq_true rfl) (mw_ac rfl mw_an) (mw_ac rfl mw_an)) rfl rfl (H.mono (fun o hp3 H => ?_))
  obtain ⟨x4, rfl, H⟩ := H
  obtain ⟨hc5, H⟩ := H
  refine mm_R.cV (pc' := 12) (L' := [some ((.ref a0)), some (.int i1), some (.int i2)]) (st1 := [.int i1, (.ref a0), .int x4, (.ref a0)]) (as := [.int i1]) (rest := [.int x4, (.ref a0)]) 2 rfl rfl (mw_sp rfl rfl (Nat.le_of_ble_eq_true rfl) (mw_ac rfl (mw_ac rfl mw_an)) (mw_ac rfl (mw_ac rfl mw_an))) rfl rfl hc5 (H.mono (fun o hp6 H => ?_))
  obtain ⟨x7, rfl, H⟩ := H
  obtain ⟨hc8, H⟩ := H
  refine mm_R.cV (pc' := 17) (L' := [some ((.ref a0)), some (.int i1), some (.int i2)]) (st1 := [.int (0 : Int32), .int i2, .int x7, .int x4, (.ref a0)]) (as := [.int x4, .int x7, .int i2, .int (0 : Int32)]) (rest := []) 2 rfl rfl (mw_sp rfl rfl (Nat.le_of_ble_eq_true rfl) (mw_ac rfl (mw_ac rfl (mw_ac rfl (mw_ac rfl (mw_ac rfl mw_an))))) mw_an) rfl rfl hc8 (H.mono (fun o hp9 H => ?_))
  obtain ⟨rfl, H⟩ := H
  exact mm_R.rt (pc' := 20) (L' := [some ((.ref a0)), some (.int i1), some (.int i2)]) (st1 := []) 0 rfl rfl rfl rfl rfl rfl H
-- StepRunnerModel.copy, from 0
set_option maxRecDepth 10000 in
theorem w150_0 {X : List Int32} {d : Nat} {a0 : Nat} {i1 : Int32} {i2 : Int32} {i3 : Int32} {i4 : Int32} {hp : mm_H} {Q : Option Value → mm_H → Prop} (H : mw_rc (.ref a0) 147 hp ∧ mm_R X d 147 0 (mm_L0 147 [(.ref a0), .int i1, .int i2]) [] hp (mw_ri (fun x3 hp2 => mm_R X (d + 1) 150 11 [some ((.ref a0)), some (.int i1), some (.int i2), some (.int i3), some (.int i4), some (.int x3), some (.int i1)] [] hp2 Q))) : mm_R X (d + 1) 150 0 (mm_L0 150 [(.ref a0), .int i1, .int i2, .int i3, .int i4]) [] hp Q := by
  show mm_R X (d + 1) 150 0 [some ((.ref a0)), some (.int i1), some (.int i2), some (.int i3), some (.int i4), none, none] [] hp Q
  obtain ⟨hc1, H⟩ := H
  refine mm_R.cV (pc' := 3) (L' := [some ((.ref a0)), some (.int i1), some (.int i2), some (.int i3), some (.int i4), none, none]) (st1 := [.int i2, .int i1, (.ref a0)]) (as := [.int i1, .int i2]) (rest := []) 3 rfl rfl (mw_sp rfl rfl (Nat.le_of_ble_eq_true rfl) (mw_ac rfl (mw_ac rfl (mw_ac rfl mw_an))) mw_an) rfl rfl hc1 (H.mono (fun o hp2 H => ?_))
  obtain ⟨x3, rfl, H⟩ := H
  exact mm_R.pn (pc' := 11) (L' := [some ((.ref a0)), some (.int i1), some (.int i2), some (.int i3), some (.int i4), some (.int x3), some (.int i1)]) (st' := []) 3 rfl H
-- StepRunnerModel.copy, from 11
set_option maxRecDepth 10000 in
theorem w150_11 {X : List Int32} {d : Nat} {a0 : Nat} {i1 : Int32} {i2 : Int32} {i3 : Int32} {i4 : Int32} {i5 : Int32} {i6 : Int32} {hp : mm_H} {Q : Option Value → mm_H → Prop} (H : ((i5 ≤ i6 → Q none hp) ∧ (¬ i5 ≤ i6 → mw_rc (.ref a0) 144 hp ∧ mm_R X d 144 0 (mm_L0 144 [(.ref a0), .int i6]) [] hp (mw_ri (fun x3 hp2 => mw_rc (.ref a0) 145 hp2 ∧ mm_R X d 145 0 (mm_L0 145 [(.ref a0), .int i6]) [] hp2 (mw_ri (fun x6 hp5 => mw_rc (.ref a0) 145 hp5 ∧ mm_R X d 145 0 (mm_L0 145 [(.ref a0), .int i1]) [] hp5 (mw_ri (fun x9 hp8 => mw_rc (.ref a0) 151 hp8 ∧ mm_R X d 151 0 (mm_L0 151 [(.ref a0), .int i6]) [] hp8 (mw_ri (fun x12 hp11 => mw_rc (.ref a0) 122 hp11 ∧ mm_R X d 122 0 (mm_L0 122 [(.ref a0), .int i3, .int x3, .int ((i4 + x6) - x9), .int x12]) [] hp11 (mw_r0 (fun hp14 => mw_rc (.ref a0) 143 hp14 ∧ mm_R X d 143 0 (mm_L0 143 [(.ref a0), .int i3]) [] hp14 (mw_ri (fun x17 hp16 => mw_rc (.ref a0) 152 hp16 ∧ mm_R X d 152 0 (mm_L0 152 [(.ref a0), .int i6]) [] hp16 (mw_ri (fun x20 hp19 => mw_rc (.ref a0) 153 hp19 ∧ mm_R X d 153 0 (mm_L0 153 [(.ref a0), .int i6]) [] hp19 (mw_ri (fun x23 hp22 => mw_rc (.ref a0) 140 hp22 ∧ mm_R X d 140 0 (mm_L0 140 [(.ref a0), .int (x17 - (1 : Int32)), .int x20, .int x23]) [] hp22 (mw_r0 (fun hp25 => mm_R X (d + 1) 150 11 [some ((.ref a0)), some (.int i1), some (.int i2), some (.int i3), some (.int i4), some (.int i5), some (.int (i6 + (1 : Int32)))] [] hp25 Q))))))))))))))))))))) : mm_R X (d + 1) 150 11 [some ((.ref a0)), some (.int i1), some (.int i2), some (.int i3), some (.int i4), some (.int i5), some (.int i6)] [] hp Q := by
  refine mm_R.br (L' := [some ((.ref a0)), some (.int i1), some (.int i2), some (.int i3), some (.int i4), some (.int i5), some (.int i6)]) (st' := []) (t := 79) (u := 18) (b := mm_cc .ge i6 i5) 3 rfl (fun c => ?_) (fun c => ?_)
  · replace H := H.1 (of_decide_eq_true c)
    exact mm_R.rt (pc' := 79) (L' := [some ((.ref a0)), some (.int i1), some (.int i2), some (.int i3), some (.int i4), some (.int i5), some (.int i6)]) (st1 := []) 0 rfl rfl rfl rfl rfl rfl H
  · replace H := H.2 (of_decide_eq_false c)
    obtain ⟨hc1, H⟩ := H
    refine mm_R.cV (pc' := 23) (L' := [some ((.ref a0)), some (.int i1), some (.int i2), some (.int i3), some (.int i4), some (.int i5), some (.int i6)]) (st1 := [.int i6, (.ref a0), .int i3, (.ref a0)]) (as := [.int i6]) (rest := [.int i3, (.ref a0)]) 4 rfl rfl (mw_sp rfl rfl (Nat.le_of_ble_eq_true rfl) (mw_ac rfl (mw_ac rfl mw_an)) (mw_ac rfl (mw_ac rfl mw_an))) rfl rfl hc1 (H.mono (fun o hp2 H => ?_))
    obtain ⟨x3, rfl, H⟩ := H
    obtain ⟨hc4, H⟩ := H
    refine mm_R.cV (pc' := 31) (L' := [some ((.ref a0)), some (.int i1), some (.int i2), some (.int i3), some (.int i4), some (.int i5), some (.int i6)]) (st1 := [.int i6, (.ref a0), .int i4, .int x3, .int i3, (.ref a0)]) (as := [.int i6]) (rest := [.int i4, .int x3, .int i3, (.ref a0)]) 3 rfl rfl (mw_sp rfl rfl (Nat.le_of_ble_eq_true rfl) (mw_ac rfl (mw_ac rfl mw_an)) (mw_ac rfl (mw_ac rfl (mw_ac rfl (mw_ac rfl mw_an))))) rfl rfl hc4 (H.mono (fun o hp5 H => ?_))
    obtain ⟨x6, rfl, H⟩ := H
    obtain ⟨hc7, H⟩ := H
    refine mm_R.cV (pc' := 37) (L' := [some ((.ref a0)), some (.int i1), some (.int i2), some (.int i3), some (.int i4), some (.int i5), some (.int i6)]) (st1 := [.int i1, (.ref a0), .int (i4 + x6), .int x3, .int i3, (.ref a0)]) (as := [.int i1]) (rest := [.int (i4 + x6), .int x3, .int i3, (.ref a0)]) 3 rfl rfl (mw_sp rfl rfl (Nat.le_of_ble_eq_true rfl) (mw_ac rfl (mw_ac rfl mw_an)) (mw_ac rfl (mw_ac rfl (mw_ac rfl (mw_ac rfl mw_an))))) rfl rfl hc7 (H.mono (fun o hp8 H => ?_))
    obtain ⟨x9, rfl, H⟩ := H
    obtain ⟨hc10, H⟩ := H
    refine mm_R.cV (pc' := 44) (L' := [some ((.ref a0)), some (.int i1), some (.int i2), some (.int i3), some (.int i4), some (.int i5), some (.int i6)]) (st1 := [.int i6, (.ref a0), .int ((i4 + x6) - x9), .int x3, .int i3, (.ref a0)]) (as := [.int i6]) (rest := [.int ((i4 + x6) - x9), .int x3, .int i3, (.ref a0)]) 3 rfl rfl (mw_sp rfl rfl (Nat.le_of_ble_eq_true rfl) (mw_ac rfl (mw_ac rfl mw_an)) (mw_ac rfl (mw_ac rfl (mw_ac rfl (mw_ac rfl mw_an))))) rfl rfl hc10 (H.mono (fun o hp11 H => ?_))
    obtain ⟨x12, rfl, H⟩ := H
    obtain ⟨hc13, H⟩ := H
    refine mm_R.cV (pc' := 47) (L' := [some ((.ref a0)), some (.int i1), some (.int i2), some (.int i3), some (.int i4), some (.int i5), some (.int i6)]) (st1 := [.int x12, .int ((i4 + x6) - x9), .int x3, .int i3, (.ref a0)]) (as := [.int i3, .int x3, .int ((i4 + x6) - x9), .int x12]) (rest := []) 0 rfl rfl (mw_sp rfl rfl (Nat.le_of_ble_eq_true rfl) (mw_ac rfl (mw_ac rfl (mw_ac rfl (mw_ac rfl (mw_ac rfl mw_an))))) mw_an) rfl rfl hc13 (H.mono (fun o hp14 H => ?_))
    obtain ⟨rfl, H⟩ := H
    obtain ⟨hc15, H⟩ := H
    refine mm_R.cV (pc' := 53) (L' := [some ((.ref a0)), some (.int i1), some (.int i2), some (.int i3), some (.int i4), some (.int i5), some (.int i6)]) (st1 := [.int i3, (.ref a0), (.ref a0)]) (as := [.int i3]) (rest := [(.ref a0)]) 3 rfl rfl (mw_sp rfl rfl (Nat.le_of_ble_eq_true rfl) (mw_ac rfl (mw_ac rfl mw_an)) (mw_ac rfl mw_an)) rfl rfl hc15 (H.mono (fun o hp16 H => ?_))
    obtain ⟨x17, rfl, H⟩ := H
    obtain ⟨hc18, H⟩ := H
    refine mm_R.cV (pc' := 61) (L' := [some ((.ref a0)), some (.int i1), some (.int i2), some (.int i3), some (.int i4), some (.int i5), some (.int i6)]) (st1 := [.int i6, (.ref a0), .int (x17 - (1 : Int32)), (.ref a0)]) (as := [.int i6]) (rest := [.int (x17 - (1 : Int32)), (.ref a0)]) 4 rfl rfl (mw_sp rfl rfl (Nat.le_of_ble_eq_true rfl) (mw_ac rfl (mw_ac rfl mw_an)) (mw_ac rfl (mw_ac rfl mw_an))) rfl rfl hc18 (H.mono (fun o hp19 H => ?_))
    obtain ⟨x20, rfl, H⟩ := H
    obtain ⟨hc21, H⟩ := H
    refine mm_R.cV (pc' := 67) (L' := [some ((.ref a0)), some (.int i1), some (.int i2), some (.int i3), some (.int i4), some (.int i5), some (.int i6)]) (st1 := [.int i6, (.ref a0), .int x20, .int (x17 - (1 : Int32)), (.ref a0)]) (as := [.int i6]) (rest := [.int x20, .int (x17 - (1 : Int32)), (.ref a0)]) 2 rfl rfl (mw_sp rfl rfl (Nat.le_of_ble_eq_true rfl) (mw_ac rfl (mw_ac rfl mw_an)) (mw_ac rfl (mw_ac rfl (mw_ac rfl mw_an)))) rfl rfl hc21 (H.mono (fun o hp22 H => ?_))
    obtain ⟨x23, rfl, H⟩ := H
    obtain ⟨hc24, H⟩ := H
    refine mm_R.cV (pc' := 70) (L' := [some ((.ref a0)), some (.int i1), some (.int i2), some (.int i3), some (.int i4), some (.int i5), some (.int i6)]) (st1 := [.int x23, .int x20, .int (x17 - (1 : Int32)), (.ref a0)]) (as := [.int (x17 - (1 : Int32)), .int x20, .int x23]) (rest := []) 0 rfl rfl (mw_sp rfl rfl (Nat.le_of_ble_eq_true rfl) (mw_ac rfl (mw_ac rfl (mw_ac rfl (mw_ac rfl mw_an)))) mw_an) rfl rfl hc24 (H.mono (fun o hp25 H => ?_))
    obtain ⟨rfl, H⟩ := H
    exact mm_R.pn (pc' := 11) (L' := [some ((.ref a0)), some (.int i1), some (.int i2), some (.int i3), some (.int i4), some (.int i5), some (.int (i6 + (1 : Int32)))]) (st' := []) 2 rfl H
-- StepRunnerModel.num, from 0
set_option maxRecDepth 10000 in
theorem w151_0 {X : List Int32} {d : Nat} {a0 : Nat} {i1 : Int32} {hp : mm_H} {Q : Option Value → mm_H → Prop} (H : mw_gv 10 4 (.ref a0) hp (fun v1 => mw_al 1004 v1 i1 hp (fun x2 => Q (some (.int (Int64.toInt32 (x2 >>> (Int32.toInt64 (32 : Int32) &&& 63))))) hp))) : mm_R X (d + 1) 151 0 (mm_L0 151 [(.ref a0), .int i1]) [] hp Q := by
  show mm_R X (d + 1) 151 0 [some ((.ref a0)), some (.int i1)] [] hp Q
  refine mm_R.wgv (pc' := 1) (L' := [some ((.ref a0)), some (.int i1)]) (r := []) 1 rfl rfl (H.mono (fun v1 H => ?_))
  refine mm_R.wal (pc' := 5) (L' := [some ((.ref a0)), some (.int i1)]) (r := []) (t := 1004) 1 rfl rfl rfl rfl (H.mono (fun x2 H => ?_))
  exact mm_R.rt (pc' := 10) (L' := [some ((.ref a0)), some (.int i1)]) (st1 := [.int (Int64.toInt32 (x2 >>> (Int32.toInt64 (32 : Int32) &&& 63)))]) 3 rfl rfl rfl rfl rfl rfl H
-- StepRunnerModel.at, from 0
set_option maxRecDepth 10000 in
theorem w152_0 {X : List Int32} {d : Nat} {a0 : Nat} {i1 : Int32} {hp : mm_H} {Q : Option Value → mm_H → Prop} (H : mw_gv 10 4 (.ref a0) hp (fun v1 => mw_al 1004 v1 i1 hp (fun x2 => Q (some (.int (Int64.toInt32 ((x2 >>> (Int32.toInt64 (14 : Int32) &&& 63)) &&& (32767 : Int64))))) hp))) : mm_R X (d + 1) 152 0 (mm_L0 152 [(.ref a0), .int i1]) [] hp Q := by
  show mm_R X (d + 1) 152 0 [some ((.ref a0)), some (.int i1)] [] hp Q
  refine mm_R.wgv (pc' := 1) (L' := [some ((.ref a0)), some (.int i1)]) (r := []) 1 rfl rfl (H.mono (fun v1 H => ?_))
  refine mm_R.wal (pc' := 5) (L' := [some ((.ref a0)), some (.int i1)]) (r := []) (t := 1004) 1 rfl rfl rfl rfl (H.mono (fun x2 H => ?_))
  exact mm_R.rt (pc' := 14) (L' := [some ((.ref a0)), some (.int i1)]) (st1 := [.int (Int64.toInt32 ((x2 >>> (Int32.toInt64 (14 : Int32) &&& 63)) &&& (32767 : Int64)))]) 5 rfl rfl rfl rfl rfl rfl H
-- StepRunnerModel.len, from 0
set_option maxRecDepth 10000 in
theorem w153_0 {X : List Int32} {d : Nat} {a0 : Nat} {i1 : Int32} {hp : mm_H} {Q : Option Value → mm_H → Prop} (H : mw_gv 10 4 (.ref a0) hp (fun v1 => mw_al 1004 v1 i1 hp (fun x2 => Q (some (.int (Int64.toInt32 ((x2 >>> (Int32.toInt64 (8 : Int32) &&& 63)) &&& (63 : Int64))))) hp))) : mm_R X (d + 1) 153 0 (mm_L0 153 [(.ref a0), .int i1]) [] hp Q := by
  show mm_R X (d + 1) 153 0 [some ((.ref a0)), some (.int i1)] [] hp Q
  refine mm_R.wgv (pc' := 1) (L' := [some ((.ref a0)), some (.int i1)]) (r := []) 1 rfl rfl (H.mono (fun v1 H => ?_))
  refine mm_R.wal (pc' := 5) (L' := [some ((.ref a0)), some (.int i1)]) (r := []) (t := 1004) 1 rfl rfl rfl rfl (H.mono (fun x2 H => ?_))
  exact mm_R.rt (pc' := 14) (L' := [some ((.ref a0)), some (.int i1)]) (st1 := [.int (Int64.toInt32 ((x2 >>> (Int32.toInt64 (8 : Int32) &&& 63)) &&& (63 : Int64)))]) 5 rfl rfl rfl rfl rfl rfl H
-- StepRunnerModel.sign, from 0
set_option maxRecDepth 10000 in
theorem w154_0 {X : List Int32} {d : Nat} {a0 : Nat} {i1 : Int32} {hp : mm_H} {Q : Option Value → mm_H → Prop} (H : mw_gv 10 0 (.ref a0) hp (fun v1 => mw_al 1004 v1 (i1 / (8 : Int32)) hp (fun x2 => mm_fv .char (.int ((Int32.toUInt32 (Int64.toInt32 ((x2 >>> (Int32.toInt64 ((8 : Int32) * (i1 - i1 / (8 : Int32) * (8 : Int32))) &&& 63)) &&& (127 : Int64))) % 65536).toInt32)) = true ∧ Q (some (.int ((Int32.toUInt32 (Int64.toInt32 ((x2 >>> (Int32.toInt64 ((8 : Int32) * (i1 - i1 / (8 : Int32) * (8 : Int32))) &&& 63)) &&& (127 : Int64))) % 65536).toInt32))) hp))) : mm_R X (d + 1) 154 0 (mm_L0 154 [(.ref a0), .int i1]) [] hp Q := by
  show mm_R X (d + 1) 154 0 [some ((.ref a0)), some (.int i1)] [] hp Q
  refine mm_R.wgv (pc' := 1) (L' := [some ((.ref a0)), some (.int i1)]) (r := []) 1 rfl rfl (H.mono (fun v1 H => ?_))
  refine mm_R.wal (pc' := 8) (L' := [some ((.ref a0)), some (.int i1)]) (r := []) (t := 1004) 3 rfl rfl rfl rfl (H.mono (fun x2 H => ?_))
  exact mm_R.rt (pc' := 23) (L' := [some ((.ref a0)), some (.int i1)]) (st1 := [.int ((Int32.toUInt32 (Int64.toInt32 ((x2 >>> (Int32.toInt64 ((8 : Int32) * (i1 - i1 / (8 : Int32) * (8 : Int32))) &&& 63)) &&& (127 : Int64))) % 65536).toInt32)]) 10 rfl rfl rfl rfl rfl (mw_rvi (ty := .char) H.1) H.2
-- StepRunnerModel.from, from 0
set_option maxRecDepth 10000 in
theorem w155_0 {X : List Int32} {d : Nat} {a0 : Nat} {i1 : Int32} {i2 : Int32} {hp : mm_H} {Q : Option Value → mm_H → Prop} (H : mw_rc (.ref a0) 126 hp ∧ mm_R X d 126 0 (mm_L0 126 [(.ref a0)]) [] hp (mw_ri (fun x3 hp2 => ((x3 = (0 : Int32) → mm_R X (d + 1) 155 29 [some ((.ref a0)), some (.int i1), some (.int i2), none] [.int (0 : Int32)] hp2 Q) ∧ (¬ x3 = (0 : Int32) → mw_rc (.ref a0) 131 hp2 ∧ mm_R X d 131 0 (mm_L0 131 [(.ref a0), .int i1]) [] hp2 (mw_ri (fun x6 hp5 => ((x6 = (0 : Int32) → mm_R X (d + 1) 155 29 [some ((.ref a0)), some (.int i1), some (.int i2), none] [.int (0 : Int32)] hp5 Q) ∧ (¬ x6 = (0 : Int32) → mm_R X d 127 0 (mm_L0 127 [.int i2, .int (0 : Int32), .int (3 : Int32)]) [] hp5 (mw_ri (fun x8 hp7 => ((x8 = (0 : Int32) → mm_R X (d + 1) 155 29 [some ((.ref a0)), some (.int i1), some (.int i2), none] [.int (0 : Int32)] hp7 Q) ∧ (¬ x8 = (0 : Int32) → mm_R X (d + 1) 155 29 [some ((.ref a0)), some (.int i1), some (.int i2), none] [.int (1 : Int32)] hp7 Q))))))))))))) : mm_R X (d + 1) 155 0 (mm_L0 155 [(.ref a0), .int i1, .int i2]) [] hp Q := by
  show mm_R X (d + 1) 155 0 [some ((.ref a0)), some (.int i1), some (.int i2), none] [] hp Q
  obtain ⟨hc1, H⟩ := H
  refine mm_R.cV (pc' := 1) (L' := [some ((.ref a0)), some (.int i1), some (.int i2), none]) (st1 := [(.ref a0)]) (as := []) (rest := []) 1 rfl rfl (mw_sp rfl rfl (Nat.le_of_ble_eq_true rfl) (mw_ac rfl mw_an) mw_an) rfl rfl hc1 (H.mono (fun o hp2 H => ?_))
  obtain ⟨x3, rfl, H⟩ := H
  refine mm_R.br (L' := [some ((.ref a0)), some (.int i1), some (.int i2), none]) (st' := []) (t := 28) (u := 7) (b := mm_cc .eq x3 (0 : Int32)) 1 rfl (fun c => ?_) (fun c => ?_)
  · replace H := H.1 (of_decide_eq_true c)
    exact mm_R.pn (pc' := 29) (L' := [some ((.ref a0)), some (.int i1), some (.int i2), none]) (st' := [.int (0 : Int32)]) 1 rfl H
  · replace H := H.2 (of_decide_eq_false c)
    obtain ⟨hc4, H⟩ := H
    refine mm_R.cV (pc' := 9) (L' := [some ((.ref a0)), some (.int i1), some (.int i2), none]) (st1 := [.int i1, (.ref a0)]) (as := [.int i1]) (rest := []) 2 rfl rfl (mw_sp rfl rfl (Nat.le_of_ble_eq_true rfl) (mw_ac rfl (mw_ac rfl mw_an)) mw_an) rfl rfl hc4 (H.mono (fun o hp5 H => ?_))
    obtain ⟨x6, rfl, H⟩ := H
    refine mm_R.br (L' := [some ((.ref a0)), some (.int i1), some (.int i2), none]) (st' := []) (t := 28) (u := 15) (b := mm_cc .eq x6 (0 : Int32)) 1 rfl (fun c => ?_) (fun c => ?_)
    · replace H := H.1 (of_decide_eq_true c)
      exact mm_R.pn (pc' := 29) (L' := [some ((.ref a0)), some (.int i1), some (.int i2), none]) (st' := [.int (0 : Int32)]) 1 rfl H
    · replace H := H.2 (of_decide_eq_false c)
      refine mm_R.cS (pc' := 18) (L' := [some ((.ref a0)), some (.int i1), some (.int i2), none]) (st1 := [.int (3 : Int32), .int (0 : Int32), .int i2]) (as := [.int i2, .int (0 : Int32), .int (3 : Int32)]) (rest := []) 3 rfl rfl (mw_sp rfl rfl (Nat.le_of_ble_eq_true rfl) (mw_ac rfl (mw_ac rfl (mw_ac rfl mw_an))) mw_an) rfl rfl (H.mono (fun o hp7 H => ?_))
      obtain ⟨x8, rfl, H⟩ := H
      refine mm_R.br (L' := [some ((.ref a0)), some (.int i1), some (.int i2), none]) (st' := []) (t := 28) (u := 24) (b := mm_cc .eq x8 (0 : Int32)) 1 rfl (fun c => ?_) (fun c => ?_)
      · replace H := H.1 (of_decide_eq_true c)
        exact mm_R.pn (pc' := 29) (L' := [some ((.ref a0)), some (.int i1), some (.int i2), none]) (st' := [.int (0 : Int32)]) 1 rfl H
      · replace H := H.2 (of_decide_eq_false c)
        exact mm_R.pn (pc' := 29) (L' := [some ((.ref a0)), some (.int i1), some (.int i2), none]) (st' := [.int (1 : Int32)]) 2 rfl H
-- StepRunnerModel.from, from 29
set_option maxRecDepth 10000 in
theorem w155_29 {X : List Int32} {d : Nat} {a0 : Nat} {i1 : Int32} {i2 : Int32} {o3 : Option Value} {s0 : Int32} {hp : mm_H} {Q : Option Value → mm_H → Prop} (H : ((s0 = (0 : Int32) → mw_rc (.ref a0) 156 hp ∧ mm_R X d 156 0 (mm_L0 156 [(.ref a0), .int s0, .int (0 : Int32)]) [] hp (mw_ri (fun x3 hp2 => mm_fv .boolean (.int x3) = true ∧ Q (some (.int x3)) hp2))) ∧ (¬ s0 = (0 : Int32) → mw_rc (.ref a0) 156 hp ∧ mm_R X d 156 0 (mm_L0 156 [(.ref a0), .int s0, .int (((4 : Int32) * i1) + i2)]) [] hp (mw_ri (fun x6 hp5 => mm_fv .boolean (.int x6) = true ∧ Q (some (.int x6)) hp5))))) : mm_R X (d + 1) 155 29 [some ((.ref a0)), some (.int i1), some (.int i2), o3] [.int s0] hp Q := by
  refine mm_R.br (L' := [some ((.ref a0)), some (.int i1), some (.int i2), some (.int s0)]) (st' := [.int s0, (.ref a0)]) (t := 44) (u := 36) (b := mm_cc .eq s0 (0 : Int32)) 5 rfl (fun c => ?_) (fun c => ?_)
  · replace H := H.1 (of_decide_eq_true c)
    obtain ⟨hc1, H⟩ := H
    refine mm_R.cV (pc' := 45) (L' := [some ((.ref a0)), some (.int i1), some (.int i2), some (.int s0)]) (st1 := [.int (0 : Int32), .int s0, (.ref a0)]) (as := [.int s0, .int (0 : Int32)]) (rest := []) 1 rfl rfl (mw_sp rfl rfl (Nat.le_of_ble_eq_true rfl) (mw_ac rfl (mw_ac rfl (mw_ac rfl mw_an))) mw_an) rfl rfl hc1 (H.mono (fun o hp2 H => ?_))
    obtain ⟨x3, rfl, H⟩ := H
    exact mm_R.rt (pc' := 48) (L' := [some ((.ref a0)), some (.int i1), some (.int i2), some (.int s0)]) (st1 := [.int x3]) 0 rfl rfl rfl rfl rfl (mw_rvi (ty := .boolean) H.1) H.2
  · replace H := H.2 (of_decide_eq_false c)
    obtain ⟨hc4, H⟩ := H
    refine mm_R.cV (pc' := 45) (L' := [some ((.ref a0)), some (.int i1), some (.int i2), some (.int s0)]) (st1 := [.int (((4 : Int32) * i1) + i2), .int s0, (.ref a0)]) (as := [.int s0, .int (((4 : Int32) * i1) + i2)]) (rest := []) 6 rfl rfl (mw_sp rfl rfl (Nat.le_of_ble_eq_true rfl) (mw_ac rfl (mw_ac rfl (mw_ac rfl mw_an))) mw_an) rfl rfl hc4 (H.mono (fun o hp5 H => ?_))
    obtain ⟨x6, rfl, H⟩ := H
    exact mm_R.rt (pc' := 48) (L' := [some ((.ref a0)), some (.int i1), some (.int i2), some (.int s0)]) (st1 := [.int x6]) 0 rfl rfl rfl rfl rfl (mw_rvi (ty := .boolean) H.1) H.2
-- StepRunnerModel.keepRule, from 0
set_option maxRecDepth 10000 in
theorem w156_0 {X : List Int32} {d : Nat} {a0 : Nat} {i1 : Int32} {i2 : Int32} {hp : mm_H} {Q : Option Value → mm_H → Prop} (H : ((i1 = (0 : Int32) → mm_R X (d + 1) 156 20 [some ((.ref a0)), some (.int i1), some (.int i2), some (.int (0 : Int32)), some (.int (0 : Int32))] [] hp Q) ∧ (¬ i1 = (0 : Int32) → mw_rc (.ref a0) 157 hp ∧ mm_R X d 157 0 (mm_L0 157 [(.ref a0)]) [] hp (mw_ri (fun x3 hp2 => ((x3 = (0 : Int32) → mm_R X (d + 1) 156 20 [some ((.ref a0)), some (.int i1), some (.int i2), some (.int (0 : Int32)), some (.int (0 : Int32))] [] hp2 Q) ∧ (¬ x3 = (0 : Int32) → mm_R X (d + 1) 156 20 [some ((.ref a0)), some (.int i1), some (.int i2), some (.int (1 : Int32)), some (.int (0 : Int32))] [] hp2 Q))))))) : mm_R X (d + 1) 156 0 (mm_L0 156 [(.ref a0), .int i1, .int i2]) [] hp Q := by
  show mm_R X (d + 1) 156 0 [some ((.ref a0)), some (.int i1), some (.int i2), none, none] [] hp Q
  refine mm_R.br (L' := [some ((.ref a0)), some (.int i1), some (.int i2), none, none]) (st' := []) (t := 15) (u := 4) (b := mm_cc .eq i1 (0 : Int32)) 2 rfl (fun c => ?_) (fun c => ?_)
  · replace H := H.1 (of_decide_eq_true c)
    exact mm_R.pn (pc' := 20) (L' := [some ((.ref a0)), some (.int i1), some (.int i2), some (.int (0 : Int32)), some (.int (0 : Int32))]) (st' := []) 4 rfl H
  · replace H := H.2 (of_decide_eq_false c)
    obtain ⟨hc1, H⟩ := H
    refine mm_R.cV (pc' := 5) (L' := [some ((.ref a0)), some (.int i1), some (.int i2), none, none]) (st1 := [(.ref a0)]) (as := []) (rest := []) 1 rfl rfl (mw_sp rfl rfl (Nat.le_of_ble_eq_true rfl) (mw_ac rfl mw_an) mw_an) rfl rfl hc1 (H.mono (fun o hp2 H => ?_))
    obtain ⟨x3, rfl, H⟩ := H
    refine mm_R.br (L' := [some ((.ref a0)), some (.int i1), some (.int i2), none, none]) (st' := []) (t := 15) (u := 11) (b := mm_cc .eq x3 (0 : Int32)) 1 rfl (fun c => ?_) (fun c => ?_)
    · replace H := H.1 (of_decide_eq_true c)
      exact mm_R.pn (pc' := 20) (L' := [some ((.ref a0)), some (.int i1), some (.int i2), some (.int (0 : Int32)), some (.int (0 : Int32))]) (st' := []) 4 rfl H
    · replace H := H.2 (of_decide_eq_false c)
      exact mm_R.pn (pc' := 20) (L' := [some ((.ref a0)), some (.int i1), some (.int i2), some (.int (1 : Int32)), some (.int (0 : Int32))]) (st' := []) 5 rfl H
-- StepRunnerModel.keepRule, from 20
set_option maxRecDepth 10000 in
theorem w156_20 {X : List Int32} {d : Nat} {a0 : Nat} {i1 : Int32} {i2 : Int32} {i3 : Int32} {i4 : Int32} {hp : mm_H} {Q : Option Value → mm_H → Prop} (H : mw_gi 10 3 (.ref a0) hp (fun x1 => ((x1 ≤ i4 → mm_R X (d + 1) 156 58 [some ((.ref a0)), some (.int i1), some (.int i2), some (.int i3), some (.int i4)] [] hp Q) ∧ (¬ x1 ≤ i4 → ((i3 = (0 : Int32) → mm_R X (d + 1) 156 58 [some ((.ref a0)), some (.int i1), some (.int i2), some (.int i3), some (.int i4)] [] hp Q) ∧ (¬ i3 = (0 : Int32) → mw_gv 10 21 (.ref a0) hp (fun v2 => mw_gv 10 2 (.ref a0) hp (fun v3 => mw_ai 1001 v3 i4 hp (fun x4 => mw_si 1001 .char v2 (((60 : Int32) * i2) + i4) x4 hp (fun hp5 => mm_R X (d + 1) 156 20 [some ((.ref a0)), some (.int i1), some (.int i2), some (.int i3), some (.int (i4 + (1 : Int32)))] [] hp5 Q)))))))))) : mm_R X (d + 1) 156 20 [some ((.ref a0)), some (.int i1), some (.int i2), some (.int i3), some (.int i4)] [] hp Q := by
  refine mm_R.wgi (pc' := 23) (L' := [some ((.ref a0)), some (.int i1), some (.int i2), some (.int i3), some (.int i4)]) (r := [.int i4]) 2 rfl rfl (H.mono (fun x1 H => ?_))
  refine mm_R.br (L' := [some ((.ref a0)), some (.int i1), some (.int i2), some (.int i3), some (.int i4)]) (st' := []) (t := 58) (u := 29) (b := mm_cc .ge i4 x1) 1 rfl (fun c => ?_) (fun c => ?_)
  · replace H := H.1 (of_decide_eq_true c)
    exact H
  · replace H := H.2 (of_decide_eq_false c)
    refine mm_R.br (L' := [some ((.ref a0)), some (.int i1), some (.int i2), some (.int i3), some (.int i4)]) (st' := []) (t := 58) (u := 33) (b := mm_cc .eq i3 (0 : Int32)) 2 rfl (fun c => ?_) (fun c => ?_)
    · replace H := H.1 (of_decide_eq_true c)
      exact H
    · replace H := H.2 (of_decide_eq_false c)
      refine mm_R.wgv (pc' := 34) (L' := [some ((.ref a0)), some (.int i1), some (.int i2), some (.int i3), some (.int i4)]) (r := []) 1 rfl rfl (H.mono (fun v2 H => ?_))
      refine mm_R.wgv (pc' := 45) (L' := [some ((.ref a0)), some (.int i1), some (.int i2), some (.int i3), some (.int i4)]) (r := [.int (((60 : Int32) * i2) + i4), v2]) 6 rfl rfl (H.mono (fun v3 H => ?_))
      refine mm_R.wai (pc' := 50) (L' := [some ((.ref a0)), some (.int i1), some (.int i2), some (.int i3), some (.int i4)]) (r := [.int (((60 : Int32) * i2) + i4), v2]) (t := 1001) 1 rfl rfl rfl rfl (H.mono (fun x4 H => ?_))
      refine mm_R.wsi (pc' := 51) (L' := [some ((.ref a0)), some (.int i1), some (.int i2), some (.int i3), some (.int i4)]) (r := []) (t := 1001) (ty := .char) 0 rfl rfl rfl rfl (H.mono (fun hp5 H => ?_))
      exact mm_R.pn (pc' := 20) (L' := [some ((.ref a0)), some (.int i1), some (.int i2), some (.int i3), some (.int (i4 + (1 : Int32)))]) (st' := []) 2 rfl H
-- StepRunnerModel.keepRule, from 58
set_option maxRecDepth 10000 in
theorem w156_58 {X : List Int32} {d : Nat} {a0 : Nat} {i1 : Int32} {i2 : Int32} {i3 : Int32} {i4 : Int32} {hp : mm_H} {Q : Option Value → mm_H → Prop} (H : ((i3 = (0 : Int32) → mw_pt 10 3 (.ref a0) (.int (0 : Int32)) hp (fun hp1 => mm_fv .boolean (.int i3) = true ∧ Q (some (.int i3)) hp1)) ∧ (¬ i3 = (0 : Int32) → mw_gv 10 22 (.ref a0) hp (fun v2 => mw_gi 10 3 (.ref a0) hp (fun x3 => mw_si 1000 .int v2 i2 x3 hp (fun hp4 => mw_pt 10 3 (.ref a0) (.int (0 : Int32)) hp4 (fun hp5 => mm_fv .boolean (.int i3) = true ∧ Q (some (.int i3)) hp5))))))) : mm_R X (d + 1) 156 58 [some ((.ref a0)), some (.int i1), some (.int i2), some (.int i3), some (.int i4)] [] hp Q := by
  refine mm_R.br (L' := [some ((.ref a0)), some (.int i1), some (.int i2), some (.int i3), some (.int i4)]) (st' := []) (t := 72) (u := 62) (b := mm_cc .eq i3 (0 : Int32)) 2 rfl (fun c => ?_) (fun c => ?_)
  · replace H := H.1 (of_decide_eq_true c)
    refine mm_R.wpt (pc' := 74) (L' := [some ((.ref a0)), some (.int i1), some (.int i2), some (.int i3), some (.int i4)]) (r := []) 2 rfl rfl (H.mono (fun hp1 H => ?_))
    exact mm_R.rt (pc' := 78) (L' := [some ((.ref a0)), some (.int i1), some (.int i2), some (.int i3), some (.int i4)]) (st1 := [.int i3]) 1 rfl rfl rfl rfl rfl (mw_rvi (ty := .boolean) H.1) H.2
  · replace H := H.2 (of_decide_eq_false c)
    refine mm_R.wgv (pc' := 63) (L' := [some ((.ref a0)), some (.int i1), some (.int i2), some (.int i3), some (.int i4)]) (r := []) 1 rfl rfl (H.mono (fun v2 H => ?_))
    refine mm_R.wgi (pc' := 68) (L' := [some ((.ref a0)), some (.int i1), some (.int i2), some (.int i3), some (.int i4)]) (r := [.int i2, v2]) 2 rfl rfl (H.mono (fun x3 H => ?_))
    refine mm_R.wsi (pc' := 71) (L' := [some ((.ref a0)), some (.int i1), some (.int i2), some (.int i3), some (.int i4)]) (r := []) (t := 1000) (ty := .int) 0 rfl rfl rfl rfl (H.mono (fun hp4 H => ?_))
    refine mm_R.wpt (pc' := 74) (L' := [some ((.ref a0)), some (.int i1), some (.int i2), some (.int i3), some (.int i4)]) (r := []) 2 rfl rfl (H.mono (fun hp5 H => ?_))
    exact mm_R.rt (pc' := 78) (L' := [some ((.ref a0)), some (.int i1), some (.int i2), some (.int i3), some (.int i4)]) (st1 := [.int i3]) 1 rfl rfl rfl rfl rfl (mw_rvi (ty := .boolean) H.1) H.2
-- StepRunnerModel.isDraftRule, from 0
set_option maxRecDepth 10000 in
theorem w157_0 {X : List Int32} {d : Nat} {a0 : Nat} {hp : mm_H} {Q : Option Value → mm_H → Prop} (H : mm_R X (d + 1) 157 2 [some ((.ref a0)), some (.int (0 : Int32)), none, none] [] hp Q) : mm_R X (d + 1) 157 0 (mm_L0 157 [(.ref a0)]) [] hp Q := by
  show mm_R X (d + 1) 157 0 [some ((.ref a0)), none, none, none] [] hp Q
  exact mm_R.pn (pc' := 2) (L' := [some ((.ref a0)), some (.int (0 : Int32)), none, none]) (st' := []) 2 rfl H
-- StepRunnerModel.isDraftRule, from 2
set_option maxRecDepth 10000 in
theorem w157_2 {X : List Int32} {d : Nat} {a0 : Nat} {i1 : Int32} {o2 : Option Value} {o3 : Option Value} {hp : mm_H} {Q : Option Value → mm_H → Prop} (H : mw_gi 10 3 (.ref a0) hp (fun x1 => ((x1 ≤ i1 → Q (some (.int (1 : Int32))) hp) ∧ (¬ x1 ≤ i1 → mw_rc (.ref a0) 136 hp ∧ mm_R X d 136 0 (mm_L0 136 [(.ref a0), .int i1]) [] hp (mw_ri (fun x4 hp3 => ((¬ x4 = (36 : Int32) → mm_R X (d + 1) 157 37 [some ((.ref a0)), some (.int i1), o2, o3] [.int (0 : Int32)] hp3 Q) ∧ (x4 = (36 : Int32) → mw_rc (.ref a0) 136 hp3 ∧ mm_R X d 136 0 (mm_L0 136 [(.ref a0), .int (i1 + (1 : Int32))]) [] hp3 (mw_ri (fun x7 hp6 => ((¬ x7 = (40 : Int32) → mm_R X (d + 1) 157 37 [some ((.ref a0)), some (.int i1), o2, o3] [.int (0 : Int32)] hp6 Q) ∧ (x7 = (40 : Int32) → mm_R X (d + 1) 157 37 [some ((.ref a0)), some (.int i1), o2, o3] [.int (1 : Int32)] hp6 Q)))))))))))) : mm_R X (d + 1) 157 2 [some ((.ref a0)), some (.int i1), o2, o3] [] hp Q := by
  refine mm_R.wgi (pc' := 4) (L' := [some ((.ref a0)), some (.int i1), o2, o3]) (r := [.int i1]) 2 rfl rfl (H.mono (fun x1 H => ?_))
  refine mm_R.br (L' := [some ((.ref a0)), some (.int i1), o2, o3]) (st' := []) (t := 65) (u := 10) (b := mm_cc .ge i1 x1) 1 rfl (fun c => ?_) (fun c => ?_)
  · replace H := H.1 (of_decide_eq_true c)
    exact mm_R.rt (pc' := 66) (L' := [some ((.ref a0)), some (.int i1), o2, o3]) (st1 := [.int (1 : Int32)]) 1 rfl rfl rfl rfl rfl rfl H
  · replace H := H.2 (of_decide_eq_false c)
    obtain ⟨hc2, H⟩ := H
    refine mm_R.cV (pc' := 12) (L' := [some ((.ref a0)), some (.int i1), o2, o3]) (st1 := [.int i1, (.ref a0)]) (as := [.int i1]) (rest := []) 2 rfl rfl (mw_sp rfl rfl (Nat.le_of_ble_eq_true rfl) (mw_ac rfl (mw_ac rfl mw_an)) mw_an) rfl rfl hc2 (H.mono (fun o hp3 H => ?_))
    obtain ⟨x4, rfl, H⟩ := H
    refine mm_R.br (L' := [some ((.ref a0)), some (.int i1), o2, o3]) (st' := []) (t := 36) (u := 20) (b := mm_cc .ne x4 (36 : Int32)) 2 rfl (fun c => ?_) (fun c => ?_)
    · replace H := H.1 (of_decide_eq_true c)
      exact mm_R.pn (pc' := 37) (L' := [some ((.ref a0)), some (.int i1), o2, o3]) (st' := [.int (0 : Int32)]) 1 rfl H
    · replace H := H.2 (Decidable.of_not_not (of_decide_eq_false c))
      obtain ⟨hc5, H⟩ := H
      refine mm_R.cV (pc' := 24) (L' := [some ((.ref a0)), some (.int i1), o2, o3]) (st1 := [.int (i1 + (1 : Int32)), (.ref a0)]) (as := [.int (i1 + (1 : Int32))]) (rest := []) 4 rfl rfl (mw_sp rfl rfl (Nat.le_of_ble_eq_true rfl) (mw_ac rfl (mw_ac rfl mw_an)) mw_an) rfl rfl hc5 (H.mono (fun o hp6 H => ?_))
      obtain ⟨x7, rfl, H⟩ := H
      refine mm_R.br (L' := [some ((.ref a0)), some (.int i1), o2, o3]) (st' := []) (t := 36) (u := 32) (b := mm_cc .ne x7 (40 : Int32)) 2 rfl (fun c => ?_) (fun c => ?_)
      · replace H := H.1 (of_decide_eq_true c)
        exact mm_R.pn (pc' := 37) (L' := [some ((.ref a0)), some (.int i1), o2, o3]) (st' := [.int (0 : Int32)]) 1 rfl H
      · replace H := H.2 (Decidable.of_not_not (of_decide_eq_false c))
        exact mm_R.pn (pc' := 37) (L' := [some ((.ref a0)), some (.int i1), o2, o3]) (st' := [.int (1 : Int32)]) 2 rfl H
-- StepRunnerModel.isDraftRule, from 37
set_option maxRecDepth 10000 in
theorem w157_37 {X : List Int32} {d : Nat} {a0 : Nat} {i1 : Int32} {o2 : Option Value} {o3 : Option Value} {s0 : Int32} {hp : mm_H} {Q : Option Value → mm_H → Prop} (H : ((s0 = (0 : Int32) → (((0 : Int32) ≤ (i1 + (1 : Int32)) → mm_R X (d + 1) 157 2 [some ((.ref a0)), some (.int (i1 + (1 : Int32))), some (.int s0), some (.int (i1 + (1 : Int32)))] [] hp Q) ∧ (¬ (0 : Int32) ≤ (i1 + (1 : Int32)) → Q (some (.int (0 : Int32))) hp))) ∧ (¬ s0 = (0 : Int32) → mw_rc (.ref a0) 158 hp ∧ mm_R X d 158 0 (mm_L0 158 [(.ref a0), .int i1]) [] hp (mw_ri (fun x3 hp2 => (((0 : Int32) ≤ x3 → mm_R X (d + 1) 157 2 [some ((.ref a0)), some (.int x3), some (.int s0), some (.int x3)] [] hp2 Q) ∧ (¬ (0 : Int32) ≤ x3 → Q (some (.int (0 : Int32))) hp2))))))) : mm_R X (d + 1) 157 37 [some ((.ref a0)), some (.int i1), o2, o3] [.int s0] hp Q := by
  refine mm_R.br (L' := [some ((.ref a0)), some (.int i1), some (.int s0), o3]) (st' := []) (t := 50) (u := 42) (b := mm_cc .eq s0 (0 : Int32)) 3 rfl (fun c => ?_) (fun c => ?_)
  · replace H := H.1 (of_decide_eq_true c)
    refine mm_R.br (L' := [some ((.ref a0)), some (.int i1), some (.int s0), some (.int (i1 + (1 : Int32)))]) (st' := []) (t := 60) (u := 58) (b := mm_cc .ge (i1 + (1 : Int32)) (0 : Int32)) 6 rfl (fun c => ?_) (fun c => ?_)
    · replace H := H.1 (of_decide_eq_true c)
      exact mm_R.pn (pc' := 2) (L' := [some ((.ref a0)), some (.int (i1 + (1 : Int32))), some (.int s0), some (.int (i1 + (1 : Int32)))]) (st' := []) 3 rfl H
    · replace H := H.2 (of_decide_eq_false c)
      exact mm_R.rt (pc' := 59) (L' := [some ((.ref a0)), some (.int i1), some (.int s0), some (.int (i1 + (1 : Int32)))]) (st1 := [.int (0 : Int32)]) 1 rfl rfl rfl rfl rfl rfl H
  · replace H := H.2 (of_decide_eq_false c)
    obtain ⟨hc1, H⟩ := H
    refine mm_R.cV (pc' := 44) (L' := [some ((.ref a0)), some (.int i1), some (.int s0), o3]) (st1 := [.int i1, (.ref a0)]) (as := [.int i1]) (rest := []) 2 rfl rfl (mw_sp rfl rfl (Nat.le_of_ble_eq_true rfl) (mw_ac rfl (mw_ac rfl mw_an)) mw_an) rfl rfl hc1 (H.mono (fun o hp2 H => ?_))
    obtain ⟨x3, rfl, H⟩ := H
    refine mm_R.br (L' := [some ((.ref a0)), some (.int i1), some (.int s0), some (.int x3)]) (st' := []) (t := 60) (u := 58) (b := mm_cc .ge x3 (0 : Int32)) 4 rfl (fun c => ?_) (fun c => ?_)
    · replace H := H.1 (of_decide_eq_true c)
      exact mm_R.pn (pc' := 2) (L' := [some ((.ref a0)), some (.int x3), some (.int s0), some (.int x3)]) (st' := []) 3 rfl H
    · replace H := H.2 (of_decide_eq_false c)
      exact mm_R.rt (pc' := 59) (L' := [some ((.ref a0)), some (.int i1), some (.int s0), some (.int x3)]) (st1 := [.int (0 : Int32)]) 1 rfl rfl rfl rfl rfl rfl H
-- StepRunnerModel.reference, from 0
set_option maxRecDepth 10000 in
theorem w158_0 {X : List Int32} {d : Nat} {a0 : Nat} {i1 : Int32} {hp : mm_H} {Q : Option Value → mm_H → Prop} (H : mw_rc (.ref a0) 136 hp ∧ mm_R X d 136 0 (mm_L0 136 [(.ref a0), .int (i1 + (2 : Int32))]) [] hp (mw_ri (fun x3 hp2 => ((¬ x3 = (105 : Int32) → mm_R X (d + 1) 158 92 [some ((.ref a0)), some (.int i1), some (.int (i1 + (2 : Int32))), none, none] [.int (0 : Int32)] hp2 Q) ∧ (x3 = (105 : Int32) → mw_rc (.ref a0) 136 hp2 ∧ mm_R X d 136 0 (mm_L0 136 [(.ref a0), .int ((i1 + (2 : Int32)) + (1 : Int32))]) [] hp2 (mw_ri (fun x6 hp5 => ((¬ x6 = (110 : Int32) → mm_R X (d + 1) 158 92 [some ((.ref a0)), some (.int i1), some (.int (i1 + (2 : Int32))), none, none] [.int (0 : Int32)] hp5 Q) ∧ (x6 = (110 : Int32) → mw_rc (.ref a0) 136 hp5 ∧ mm_R X d 136 0 (mm_L0 136 [(.ref a0), .int ((i1 + (2 : Int32)) + (2 : Int32))]) [] hp5 (mw_ri (fun x9 hp8 => ((¬ x9 = (112 : Int32) → mm_R X (d + 1) 158 92 [some ((.ref a0)), some (.int i1), some (.int (i1 + (2 : Int32))), none, none] [.int (0 : Int32)] hp8 Q) ∧ (x9 = (112 : Int32) → mw_rc (.ref a0) 136 hp8 ∧ mm_R X d 136 0 (mm_L0 136 [(.ref a0), .int ((i1 + (2 : Int32)) + (3 : Int32))]) [] hp8 (mw_ri (fun x12 hp11 => ((¬ x12 = (117 : Int32) → mm_R X (d + 1) 158 92 [some ((.ref a0)), some (.int i1), some (.int (i1 + (2 : Int32))), none, none] [.int (0 : Int32)] hp11 Q) ∧ (x12 = (117 : Int32) → mw_rc (.ref a0) 136 hp11 ∧ mm_R X d 136 0 (mm_L0 136 [(.ref a0), .int ((i1 + (2 : Int32)) + (4 : Int32))]) [] hp11 (mw_ri (fun x15 hp14 => ((¬ x15 = (116 : Int32) → mm_R X (d + 1) 158 92 [some ((.ref a0)), some (.int i1), some (.int (i1 + (2 : Int32))), none, none] [.int (0 : Int32)] hp14 Q) ∧ (x15 = (116 : Int32) → mw_rc (.ref a0) 136 hp14 ∧ mm_R X d 136 0 (mm_L0 136 [(.ref a0), .int ((i1 + (2 : Int32)) + (5 : Int32))]) [] hp14 (mw_ri (fun x18 hp17 => ((¬ x18 = (115 : Int32) → mm_R X (d + 1) 158 92 [some ((.ref a0)), some (.int i1), some (.int (i1 + (2 : Int32))), none, none] [.int (0 : Int32)] hp17 Q) ∧ (x18 = (115 : Int32) → mw_rc (.ref a0) 136 hp17 ∧ mm_R X d 136 0 (mm_L0 136 [(.ref a0), .int ((i1 + (2 : Int32)) + (6 : Int32))]) [] hp17 (mw_ri (fun x21 hp20 => ((¬ x21 = (46 : Int32) → mm_R X (d + 1) 158 92 [some ((.ref a0)), some (.int i1), some (.int (i1 + (2 : Int32))), none, none] [.int (0 : Int32)] hp20 Q) ∧ (x21 = (46 : Int32) → mm_R X (d + 1) 158 92 [some ((.ref a0)), some (.int i1), some (.int (i1 + (2 : Int32))), none, none] [.int (1 : Int32)] hp20 Q))))))))))))))))))))))))))))) : mm_R X (d + 1) 158 0 (mm_L0 158 [(.ref a0), .int i1]) [] hp Q := by
  show mm_R X (d + 1) 158 0 [some ((.ref a0)), some (.int i1), none, none, none] [] hp Q
  obtain ⟨hc1, H⟩ := H
  refine mm_R.cV (pc' := 6) (L' := [some ((.ref a0)), some (.int i1), some (.int (i1 + (2 : Int32))), none, none]) (st1 := [.int (i1 + (2 : Int32)), (.ref a0)]) (as := [.int (i1 + (2 : Int32))]) (rest := []) 6 rfl rfl (mw_sp rfl rfl (Nat.le_of_ble_eq_true rfl) (mw_ac rfl (mw_ac rfl mw_an)) mw_an) rfl rfl hc1 (H.mono (fun o hp2 H => ?_))
  obtain ⟨x3, rfl, H⟩ := H
  refine mm_R.br (L' := [some ((.ref a0)), some (.int i1), some (.int (i1 + (2 : Int32))), none, none]) (st' := []) (t := 91) (u := 14) (b := mm_cc .ne x3 (105 : Int32)) 2 rfl (fun c => ?_) (fun c => ?_)
  · replace H := H.1 (of_decide_eq_true c)
    exact mm_R.pn (pc' := 92) (L' := [some ((.ref a0)), some (.int i1), some (.int (i1 + (2 : Int32))), none, none]) (st' := [.int (0 : Int32)]) 1 rfl H
  · replace H := H.2 (Decidable.of_not_not (of_decide_eq_false c))
    obtain ⟨hc4, H⟩ := H
    refine mm_R.cV (pc' := 18) (L' := [some ((.ref a0)), some (.int i1), some (.int (i1 + (2 : Int32))), none, none]) (st1 := [.int ((i1 + (2 : Int32)) + (1 : Int32)), (.ref a0)]) (as := [.int ((i1 + (2 : Int32)) + (1 : Int32))]) (rest := []) 4 rfl rfl (mw_sp rfl rfl (Nat.le_of_ble_eq_true rfl) (mw_ac rfl (mw_ac rfl mw_an)) mw_an) rfl rfl hc4 (H.mono (fun o hp5 H => ?_))
    obtain ⟨x6, rfl, H⟩ := H
    refine mm_R.br (L' := [some ((.ref a0)), some (.int i1), some (.int (i1 + (2 : Int32))), none, none]) (st' := []) (t := 91) (u := 26) (b := mm_cc .ne x6 (110 : Int32)) 2 rfl (fun c => ?_) (fun c => ?_)
    · replace H := H.1 (of_decide_eq_true c)
      exact mm_R.pn (pc' := 92) (L' := [some ((.ref a0)), some (.int i1), some (.int (i1 + (2 : Int32))), none, none]) (st' := [.int (0 : Int32)]) 1 rfl H
    · replace H := H.2 (Decidable.of_not_not (of_decide_eq_false c))
      obtain ⟨hc7, H⟩ := H
      refine mm_R.cV (pc' := 30) (L' := [some ((.ref a0)), some (.int i1), some (.int (i1 + (2 : Int32))), none, none]) (st1 := [.int ((i1 + (2 : Int32)) + (2 : Int32)), (.ref a0)]) (as := [.int ((i1 + (2 : Int32)) + (2 : Int32))]) (rest := []) 4 rfl rfl (mw_sp rfl rfl (Nat.le_of_ble_eq_true rfl) (mw_ac rfl (mw_ac rfl mw_an)) mw_an) rfl rfl hc7 (H.mono (fun o hp8 H => ?_))
      obtain ⟨x9, rfl, H⟩ := H
      refine mm_R.br (L' := [some ((.ref a0)), some (.int i1), some (.int (i1 + (2 : Int32))), none, none]) (st' := []) (t := 91) (u := 38) (b := mm_cc .ne x9 (112 : Int32)) 2 rfl (fun c => ?_) (fun c => ?_)
      · replace H := H.1 (of_decide_eq_true c)
        exact mm_R.pn (pc' := 92) (L' := [some ((.ref a0)), some (.int i1), some (.int (i1 + (2 : Int32))), none, none]) (st' := [.int (0 : Int32)]) 1 rfl H
      · replace H := H.2 (Decidable.of_not_not (of_decide_eq_false c))
        obtain ⟨hc10, H⟩ := H
        refine mm_R.cV (pc' := 42) (L' := [some ((.ref a0)), some (.int i1), some (.int (i1 + (2 : Int32))), none, none]) (st1 := [.int ((i1 + (2 : Int32)) + (3 : Int32)), (.ref a0)]) (as := [.int ((i1 + (2 : Int32)) + (3 : Int32))]) (rest := []) 4 rfl rfl (mw_sp rfl rfl (Nat.le_of_ble_eq_true rfl) (mw_ac rfl (mw_ac rfl mw_an)) mw_an) rfl rfl hc10 (H.mono (fun o hp11 H => ?_))
        obtain ⟨x12, rfl, H⟩ := H
        refine mm_R.br (L' := [some ((.ref a0)), some (.int i1), some (.int (i1 + (2 : Int32))), none, none]) (st' := []) (t := 91) (u := 50) (b := mm_cc .ne x12 (117 : Int32)) 2 rfl (fun c => ?_) (fun c => ?_)
        · replace H := H.1 (of_decide_eq_true c)
          exact mm_R.pn (pc' := 92) (L' := [some ((.ref a0)), some (.int i1), some (.int (i1 + (2 : Int32))), none, none]) (st' := [.int (0 : Int32)]) 1 rfl H
        · replace H := H.2 (Decidable.of_not_not (of_decide_eq_false c))
          obtain ⟨hc13, H⟩ := H
          refine mm_R.cV (pc' := 54) (L' := [some ((.ref a0)), some (.int i1), some (.int (i1 + (2 : Int32))), none, none]) (st1 := [.int ((i1 + (2 : Int32)) + (4 : Int32)), (.ref a0)]) (as := [.int ((i1 + (2 : Int32)) + (4 : Int32))]) (rest := []) 4 rfl rfl (mw_sp rfl rfl (Nat.le_of_ble_eq_true rfl) (mw_ac rfl (mw_ac rfl mw_an)) mw_an) rfl rfl hc13 (H.mono (fun o hp14 H => ?_))
          obtain ⟨x15, rfl, H⟩ := H
          refine mm_R.br (L' := [some ((.ref a0)), some (.int i1), some (.int (i1 + (2 : Int32))), none, none]) (st' := []) (t := 91) (u := 62) (b := mm_cc .ne x15 (116 : Int32)) 2 rfl (fun c => ?_) (fun c => ?_)
          · replace H := H.1 (of_decide_eq_true c)
            exact mm_R.pn (pc' := 92) (L' := [some ((.ref a0)), some (.int i1), some (.int (i1 + (2 : Int32))), none, none]) (st' := [.int (0 : Int32)]) 1 rfl H
          · replace H := H.2 (Decidable.of_not_not (of_decide_eq_false c))
            obtain ⟨hc16, H⟩ := H
            refine mm_R.cV (pc' := 66) (L' := [some ((.ref a0)), some (.int i1), some (.int (i1 + (2 : Int32))), none, none]) (st1 := [.int ((i1 + (2 : Int32)) + (5 : Int32)), (.ref a0)]) (as := [.int ((i1 + (2 : Int32)) + (5 : Int32))]) (rest := []) 4 rfl rfl (mw_sp rfl rfl (Nat.le_of_ble_eq_true rfl) (mw_ac rfl (mw_ac rfl mw_an)) mw_an) rfl rfl hc16 (H.mono (fun o hp17 H => ?_))
            obtain ⟨x18, rfl, H⟩ := H
            refine mm_R.br (L' := [some ((.ref a0)), some (.int i1), some (.int (i1 + (2 : Int32))), none, none]) (st' := []) (t := 91) (u := 74) (b := mm_cc .ne x18 (115 : Int32)) 2 rfl (fun c => ?_) (fun c => ?_)
            · replace H := H.1 (of_decide_eq_true c)
              exact mm_R.pn (pc' := 92) (L' := [some ((.ref a0)), some (.int i1), some (.int (i1 + (2 : Int32))), none, none]) (st' := [.int (0 : Int32)]) 1 rfl H
            · replace H := H.2 (Decidable.of_not_not (of_decide_eq_false c))
              obtain ⟨hc19, H⟩ := H
              refine mm_R.cV (pc' := 79) (L' := [some ((.ref a0)), some (.int i1), some (.int (i1 + (2 : Int32))), none, none]) (st1 := [.int ((i1 + (2 : Int32)) + (6 : Int32)), (.ref a0)]) (as := [.int ((i1 + (2 : Int32)) + (6 : Int32))]) (rest := []) 4 rfl rfl (mw_sp rfl rfl (Nat.le_of_ble_eq_true rfl) (mw_ac rfl (mw_ac rfl mw_an)) mw_an) rfl rfl hc19 (H.mono (fun o hp20 H => ?_))
              obtain ⟨x21, rfl, H⟩ := H
              refine mm_R.br (L' := [some ((.ref a0)), some (.int i1), some (.int (i1 + (2 : Int32))), none, none]) (st' := []) (t := 91) (u := 87) (b := mm_cc .ne x21 (46 : Int32)) 2 rfl (fun c => ?_) (fun c => ?_)
              · replace H := H.1 (of_decide_eq_true c)
                exact mm_R.pn (pc' := 92) (L' := [some ((.ref a0)), some (.int i1), some (.int (i1 + (2 : Int32))), none, none]) (st' := [.int (0 : Int32)]) 1 rfl H
              · replace H := H.2 (Decidable.of_not_not (of_decide_eq_false c))
                exact mm_R.pn (pc' := 92) (L' := [some ((.ref a0)), some (.int i1), some (.int (i1 + (2 : Int32))), none, none]) (st' := [.int (1 : Int32)]) 2 rfl H
-- StepRunnerModel.reference, from 92
set_option maxRecDepth 10000 in
theorem w158_92 {X : List Int32} {d : Nat} {a0 : Nat} {i1 : Int32} {i2 : Int32} {o3 : Option Value} {o4 : Option Value} {s0 : Int32} {hp : mm_H} {Q : Option Value → mm_H → Prop} (H : mw_rc (.ref a0) 136 hp ∧ mm_R X d 136 0 (mm_L0 136 [(.ref a0), .int i2]) [] hp (mw_ri (fun x3 hp2 => ((¬ x3 = (115 : Int32) → mm_R X (d + 1) 158 144 [some ((.ref a0)), some (.int i1), some (.int i2), some (.int s0), o4] [.int (0 : Int32)] hp2 Q) ∧ (x3 = (115 : Int32) → mw_rc (.ref a0) 136 hp2 ∧ mm_R X d 136 0 (mm_L0 136 [(.ref a0), .int (i2 + (1 : Int32))]) [] hp2 (mw_ri (fun x6 hp5 => ((¬ x6 = (101 : Int32) → mm_R X (d + 1) 158 144 [some ((.ref a0)), some (.int i1), some (.int i2), some (.int s0), o4] [.int (0 : Int32)] hp5 Q) ∧ (x6 = (101 : Int32) → mw_rc (.ref a0) 136 hp5 ∧ mm_R X d 136 0 (mm_L0 136 [(.ref a0), .int (i2 + (2 : Int32))]) [] hp5 (mw_ri (fun x9 hp8 => ((¬ x9 = (108 : Int32) → mm_R X (d + 1) 158 144 [some ((.ref a0)), some (.int i1), some (.int i2), some (.int s0), o4] [.int (0 : Int32)] hp8 Q) ∧ (x9 = (108 : Int32) → mw_rc (.ref a0) 136 hp8 ∧ mm_R X d 136 0 (mm_L0 136 [(.ref a0), .int (i2 + (3 : Int32))]) [] hp8 (mw_ri (fun x12 hp11 => ((¬ x12 = (102 : Int32) → mm_R X (d + 1) 158 144 [some ((.ref a0)), some (.int i1), some (.int i2), some (.int s0), o4] [.int (0 : Int32)] hp11 Q) ∧ (x12 = (102 : Int32) → mm_R X (d + 1) 158 144 [some ((.ref a0)), some (.int i1), some (.int i2), some (.int s0), o4] [.int (1 : Int32)] hp11 Q))))))))))))))))) : mm_R X (d + 1) 158 92 [some ((.ref a0)), some (.int i1), some (.int i2), o3, o4] [.int s0] hp Q := by
  obtain ⟨hc1, H⟩ := H
  refine mm_R.cV (pc' := 95) (L' := [some ((.ref a0)), some (.int i1), some (.int i2), some (.int s0), o4]) (st1 := [.int i2, (.ref a0)]) (as := [.int i2]) (rest := []) 3 rfl rfl (mw_sp rfl rfl (Nat.le_of_ble_eq_true rfl) (mw_ac rfl (mw_ac rfl mw_an)) mw_an) rfl rfl hc1 (H.mono (fun o hp2 H => ?_))
  obtain ⟨x3, rfl, H⟩ := H
  refine mm_R.br (L' := [some ((.ref a0)), some (.int i1), some (.int i2), some (.int s0), o4]) (st' := []) (t := 143) (u := 103) (b := mm_cc .ne x3 (115 : Int32)) 2 rfl (fun c => ?_) (fun c => ?_)
  · replace H := H.1 (of_decide_eq_true c)
    exact mm_R.pn (pc' := 144) (L' := [some ((.ref a0)), some (.int i1), some (.int i2), some (.int s0), o4]) (st' := [.int (0 : Int32)]) 1 rfl H
  · replace H := H.2 (Decidable.of_not_not (of_decide_eq_false c))
    obtain ⟨hc4, H⟩ := H
    refine mm_R.cV (pc' := 107) (L' := [some ((.ref a0)), some (.int i1), some (.int i2), some (.int s0), o4]) (st1 := [.int (i2 + (1 : Int32)), (.ref a0)]) (as := [.int (i2 + (1 : Int32))]) (rest := []) 4 rfl rfl (mw_sp rfl rfl (Nat.le_of_ble_eq_true rfl) (mw_ac rfl (mw_ac rfl mw_an)) mw_an) rfl rfl hc4 (H.mono (fun o hp5 H => ?_))
    obtain ⟨x6, rfl, H⟩ := H
    refine mm_R.br (L' := [some ((.ref a0)), some (.int i1), some (.int i2), some (.int s0), o4]) (st' := []) (t := 143) (u := 115) (b := mm_cc .ne x6 (101 : Int32)) 2 rfl (fun c => ?_) (fun c => ?_)
    · replace H := H.1 (of_decide_eq_true c)
      exact mm_R.pn (pc' := 144) (L' := [some ((.ref a0)), some (.int i1), some (.int i2), some (.int s0), o4]) (st' := [.int (0 : Int32)]) 1 rfl H
    · replace H := H.2 (Decidable.of_not_not (of_decide_eq_false c))
      obtain ⟨hc7, H⟩ := H
      refine mm_R.cV (pc' := 119) (L' := [some ((.ref a0)), some (.int i1), some (.int i2), some (.int s0), o4]) (st1 := [.int (i2 + (2 : Int32)), (.ref a0)]) (as := [.int (i2 + (2 : Int32))]) (rest := []) 4 rfl rfl (mw_sp rfl rfl (Nat.le_of_ble_eq_true rfl) (mw_ac rfl (mw_ac rfl mw_an)) mw_an) rfl rfl hc7 (H.mono (fun o hp8 H => ?_))
      obtain ⟨x9, rfl, H⟩ := H
      refine mm_R.br (L' := [some ((.ref a0)), some (.int i1), some (.int i2), some (.int s0), o4]) (st' := []) (t := 143) (u := 127) (b := mm_cc .ne x9 (108 : Int32)) 2 rfl (fun c => ?_) (fun c => ?_)
      · replace H := H.1 (of_decide_eq_true c)
        exact mm_R.pn (pc' := 144) (L' := [some ((.ref a0)), some (.int i1), some (.int i2), some (.int s0), o4]) (st' := [.int (0 : Int32)]) 1 rfl H
      · replace H := H.2 (Decidable.of_not_not (of_decide_eq_false c))
        obtain ⟨hc10, H⟩ := H
        refine mm_R.cV (pc' := 131) (L' := [some ((.ref a0)), some (.int i1), some (.int i2), some (.int s0), o4]) (st1 := [.int (i2 + (3 : Int32)), (.ref a0)]) (as := [.int (i2 + (3 : Int32))]) (rest := []) 4 rfl rfl (mw_sp rfl rfl (Nat.le_of_ble_eq_true rfl) (mw_ac rfl (mw_ac rfl mw_an)) mw_an) rfl rfl hc10 (H.mono (fun o hp11 H => ?_))
        obtain ⟨x12, rfl, H⟩ := H
        refine mm_R.br (L' := [some ((.ref a0)), some (.int i1), some (.int i2), some (.int s0), o4]) (st' := []) (t := 143) (u := 139) (b := mm_cc .ne x12 (102 : Int32)) 2 rfl (fun c => ?_) (fun c => ?_)
        · replace H := H.1 (of_decide_eq_true c)
          exact mm_R.pn (pc' := 144) (L' := [some ((.ref a0)), some (.int i1), some (.int i2), some (.int s0), o4]) (st' := [.int (0 : Int32)]) 1 rfl H
        · replace H := H.2 (Decidable.of_not_not (of_decide_eq_false c))
          exact mm_R.pn (pc' := 144) (L' := [some ((.ref a0)), some (.int i1), some (.int i2), some (.int s0), o4]) (st' := [.int (1 : Int32)]) 2 rfl H
-- StepRunnerModel.reference, from 144
set_option maxRecDepth 10000 in
theorem w158_144 {X : List Int32} {d : Nat} {a0 : Nat} {i1 : Int32} {i2 : Int32} {i3 : Int32} {o4 : Option Value} {s0 : Int32} {hp : mm_H} {Q : Option Value → mm_H → Prop} (H : ((i3 = (0 : Int32) → ((¬ i3 = (0 : Int32) → mm_R X (d + 1) 158 187 [some ((.ref a0)), some (.int i1), some (.int i2), some (.int i3), some (.int s0)] [] hp Q) ∧ (i3 = (0 : Int32) → ((¬ s0 = (0 : Int32) → mm_R X (d + 1) 158 187 [some ((.ref a0)), some (.int i1), some (.int i2), some (.int i3), some (.int s0)] [] hp Q) ∧ (s0 = (0 : Int32) → Q (some (.int (-1 : Int32))) hp))))) ∧ (¬ i3 = (0 : Int32) → mw_rc (.ref a0) 136 hp ∧ mm_R X d 136 0 (mm_L0 136 [(.ref a0), .int (i2 + (7 : Int32))]) [] hp (mw_ri (fun x3 hp2 => ((x3 < (97 : Int32) → Q (some (.int (-1 : Int32))) hp2) ∧ (¬ x3 < (97 : Int32) → mw_rc (.ref a0) 136 hp2 ∧ mm_R X d 136 0 (mm_L0 136 [(.ref a0), .int (i2 + (7 : Int32))]) [] hp2 (mw_ri (fun x6 hp5 => (((100 : Int32) < x6 → Q (some (.int (-1 : Int32))) hp5) ∧ (¬ (100 : Int32) < x6 → ((¬ i3 = (0 : Int32) → mm_R X (d + 1) 158 187 [some ((.ref a0)), some (.int i1), some (.int i2), some (.int i3), some (.int s0)] [] hp5 Q) ∧ (i3 = (0 : Int32) → ((¬ s0 = (0 : Int32) → mm_R X (d + 1) 158 187 [some ((.ref a0)), some (.int i1), some (.int i2), some (.int i3), some (.int s0)] [] hp5 Q) ∧ (s0 = (0 : Int32) → Q (some (.int (-1 : Int32))) hp5))))))))))))))) : mm_R X (d + 1) 158 144 [some ((.ref a0)), some (.int i1), some (.int i2), some (.int i3), o4] [.int s0] hp Q := by
  refine mm_R.br (L' := [some ((.ref a0)), some (.int i1), some (.int i2), some (.int i3), some (.int s0)]) (st' := []) (t := 176) (u := 150) (b := mm_cc .eq i3 (0 : Int32)) 3 rfl (fun c => ?_) (fun c => ?_)
  · replace H := H.1 (of_decide_eq_true c)
    refine mm_R.br (L' := [some ((.ref a0)), some (.int i1), some (.int i2), some (.int i3), some (.int s0)]) (st' := []) (t := 187) (u := 180) (b := mm_cc .ne i3 (0 : Int32)) 2 rfl (fun c => ?_) (fun c => ?_)
    · replace H := H.1 (of_decide_eq_true c)
      exact H
    · replace H := H.2 (Decidable.of_not_not (of_decide_eq_false c))
      refine mm_R.br (L' := [some ((.ref a0)), some (.int i1), some (.int i2), some (.int i3), some (.int s0)]) (st' := []) (t := 187) (u := 185) (b := mm_cc .ne s0 (0 : Int32)) 2 rfl (fun c => ?_) (fun c => ?_)
      · replace H := H.1 (of_decide_eq_true c)
        exact H
      · replace H := H.2 (Decidable.of_not_not (of_decide_eq_false c))
        exact mm_R.rt (pc' := 186) (L' := [some ((.ref a0)), some (.int i1), some (.int i2), some (.int i3), some (.int s0)]) (st1 := [.int (-1 : Int32)]) 1 rfl rfl rfl rfl rfl rfl H
  · replace H := H.2 (of_decide_eq_false c)
    obtain ⟨hc1, H⟩ := H
    refine mm_R.cV (pc' := 155) (L' := [some ((.ref a0)), some (.int i1), some (.int i2), some (.int i3), some (.int s0)]) (st1 := [.int (i2 + (7 : Int32)), (.ref a0)]) (as := [.int (i2 + (7 : Int32))]) (rest := []) 4 rfl rfl (mw_sp rfl rfl (Nat.le_of_ble_eq_true rfl) (mw_ac rfl (mw_ac rfl mw_an)) mw_an) rfl rfl hc1 (H.mono (fun o hp2 H => ?_))
    obtain ⟨x3, rfl, H⟩ := H
    refine mm_R.br (L' := [some ((.ref a0)), some (.int i1), some (.int i2), some (.int i3), some (.int s0)]) (st' := []) (t := 185) (u := 163) (b := mm_cc .lt x3 (97 : Int32)) 2 rfl (fun c => ?_) (fun c => ?_)
    · replace H := H.1 (of_decide_eq_true c)
      exact mm_R.rt (pc' := 186) (L' := [some ((.ref a0)), some (.int i1), some (.int i2), some (.int i3), some (.int s0)]) (st1 := [.int (-1 : Int32)]) 1 rfl rfl rfl rfl rfl rfl H
    · replace H := H.2 (of_decide_eq_false c)
      obtain ⟨hc4, H⟩ := H
      refine mm_R.cV (pc' := 168) (L' := [some ((.ref a0)), some (.int i1), some (.int i2), some (.int i3), some (.int s0)]) (st1 := [.int (i2 + (7 : Int32)), (.ref a0)]) (as := [.int (i2 + (7 : Int32))]) (rest := []) 4 rfl rfl (mw_sp rfl rfl (Nat.le_of_ble_eq_true rfl) (mw_ac rfl (mw_ac rfl mw_an)) mw_an) rfl rfl hc4 (H.mono (fun o hp5 H => ?_))
      obtain ⟨x6, rfl, H⟩ := H
      refine mm_R.br (L' := [some ((.ref a0)), some (.int i1), some (.int i2), some (.int i3), some (.int s0)]) (st' := []) (t := 185) (u := 176) (b := mm_cc .gt x6 (100 : Int32)) 2 rfl (fun c => ?_) (fun c => ?_)
      · replace H := H.1 (of_decide_eq_true c)
        exact mm_R.rt (pc' := 186) (L' := [some ((.ref a0)), some (.int i1), some (.int i2), some (.int i3), some (.int s0)]) (st1 := [.int (-1 : Int32)]) 1 rfl rfl rfl rfl rfl rfl H
      · replace H := H.2 (of_decide_eq_false c)
        refine mm_R.br (L' := [some ((.ref a0)), some (.int i1), some (.int i2), some (.int i3), some (.int s0)]) (st' := []) (t := 187) (u := 180) (b := mm_cc .ne i3 (0 : Int32)) 2 rfl (fun c => ?_) (fun c => ?_)
        · replace H := H.1 (of_decide_eq_true c)
          exact H
        · replace H := H.2 (Decidable.of_not_not (of_decide_eq_false c))
          refine mm_R.br (L' := [some ((.ref a0)), some (.int i1), some (.int i2), some (.int i3), some (.int s0)]) (st' := []) (t := 187) (u := 185) (b := mm_cc .ne s0 (0 : Int32)) 2 rfl (fun c => ?_) (fun c => ?_)
          · replace H := H.1 (of_decide_eq_true c)
            exact H
          · replace H := H.2 (Decidable.of_not_not (of_decide_eq_false c))
            exact mm_R.rt (pc' := 186) (L' := [some ((.ref a0)), some (.int i1), some (.int i2), some (.int i3), some (.int s0)]) (st1 := [.int (-1 : Int32)]) 1 rfl rfl rfl rfl rfl rfl H
-- StepRunnerModel.reference, from 187
set_option maxRecDepth 10000 in
theorem w158_187 {X : List Int32} {d : Nat} {a0 : Nat} {i1 : Int32} {i2 : Int32} {i3 : Int32} {i4 : Int32} {hp : mm_H} {Q : Option Value → mm_H → Prop} (H : ((i3 = (0 : Int32) → mm_R X (d + 1) 158 202 [some ((.ref a0)), some (.int i1), some (.int (i2 + (4 : Int32))), some (.int i3), some (.int i4)] [] hp Q) ∧ (¬ i3 = (0 : Int32) → mm_R X (d + 1) 158 202 [some ((.ref a0)), some (.int i1), some (.int (i2 + (8 : Int32))), some (.int i3), some (.int i4)] [] hp Q))) : mm_R X (d + 1) 158 187 [some ((.ref a0)), some (.int i1), some (.int i2), some (.int i3), some (.int i4)] [] hp Q := by
  refine mm_R.br (L' := [some ((.ref a0)), some (.int i1), some (.int i2), some (.int i3), some (.int i4)]) (st' := []) (t := 198) (u := 191) (b := mm_cc .eq i3 (0 : Int32)) 2 rfl (fun c => ?_) (fun c => ?_)
  · replace H := H.1 (of_decide_eq_true c)
    exact mm_R.pn (pc' := 202) (L' := [some ((.ref a0)), some (.int i1), some (.int (i2 + (4 : Int32))), some (.int i3), some (.int i4)]) (st' := []) 4 rfl H
  · replace H := H.2 (of_decide_eq_false c)
    exact mm_R.pn (pc' := 202) (L' := [some ((.ref a0)), some (.int i1), some (.int (i2 + (8 : Int32))), some (.int i3), some (.int i4)]) (st' := []) 5 rfl H
-- StepRunnerModel.reference, from 202
set_option maxRecDepth 10000 in
theorem w158_202 {X : List Int32} {d : Nat} {a0 : Nat} {i1 : Int32} {i2 : Int32} {i3 : Int32} {i4 : Int32} {hp : mm_H} {Q : Option Value → mm_H → Prop} (H : mw_rc (.ref a0) 136 hp ∧ mm_R X d 136 0 (mm_L0 136 [(.ref a0), .int i2]) [] hp (mw_ri (fun x3 hp2 => ((x3 = (41 : Int32) → Q (some (.int (i2 + (1 : Int32)))) hp2) ∧ (¬ x3 = (41 : Int32) → mw_rc (.ref a0) 136 hp2 ∧ mm_R X d 136 0 (mm_L0 136 [(.ref a0), .int i2]) [] hp2 (mw_ri (fun x6 hp5 => ((¬ x6 = (91 : Int32) → mw_rc (.ref a0) 159 hp5 ∧ mm_R X d 159 0 (mm_L0 159 [(.ref a0), .int i2]) [] hp5 (mw_ri (fun x9 hp8 => ((x9 = (0 : Int32) → Q (some (.int (-1 : Int32))) hp8) ∧ (¬ x9 = (0 : Int32) → mm_R X (d + 1) 158 202 [some ((.ref a0)), some (.int i1), some (.int (i2 + (7 : Int32))), some (.int i3), some (.int i4)] [] hp8 Q))))) ∧ (x6 = (91 : Int32) → mw_rc (.ref a0) 136 hp5 ∧ mm_R X d 136 0 (mm_L0 136 [(.ref a0), .int (i2 + (1 : Int32))]) [] hp5 (mw_ri (fun x12 hp11 => ((x12 < (48 : Int32) → mw_rc (.ref a0) 159 hp11 ∧ mm_R X d 159 0 (mm_L0 159 [(.ref a0), .int i2]) [] hp11 (mw_ri (fun x15 hp14 => ((x15 = (0 : Int32) → Q (some (.int (-1 : Int32))) hp14) ∧ (¬ x15 = (0 : Int32) → mm_R X (d + 1) 158 202 [some ((.ref a0)), some (.int i1), some (.int (i2 + (7 : Int32))), some (.int i3), some (.int i4)] [] hp14 Q))))) ∧ (¬ x12 < (48 : Int32) → mw_rc (.ref a0) 136 hp11 ∧ mm_R X d 136 0 (mm_L0 136 [(.ref a0), .int (i2 + (1 : Int32))]) [] hp11 (mw_ri (fun x18 hp17 => (((55 : Int32) < x18 → mw_rc (.ref a0) 159 hp17 ∧ mm_R X d 159 0 (mm_L0 159 [(.ref a0), .int i2]) [] hp17 (mw_ri (fun x21 hp20 => ((x21 = (0 : Int32) → Q (some (.int (-1 : Int32))) hp20) ∧ (¬ x21 = (0 : Int32) → mm_R X (d + 1) 158 202 [some ((.ref a0)), some (.int i1), some (.int (i2 + (7 : Int32))), some (.int i3), some (.int i4)] [] hp20 Q))))) ∧ (¬ (55 : Int32) < x18 → mw_rc (.ref a0) 136 hp17 ∧ mm_R X d 136 0 (mm_L0 136 [(.ref a0), .int (i2 + (2 : Int32))]) [] hp17 (mw_ri (fun x24 hp23 => ((¬ x24 = (93 : Int32) → mw_rc (.ref a0) 159 hp23 ∧ mm_R X d 159 0 (mm_L0 159 [(.ref a0), .int i2]) [] hp23 (mw_ri (fun x27 hp26 => ((x27 = (0 : Int32) → Q (some (.int (-1 : Int32))) hp26) ∧ (¬ x27 = (0 : Int32) → mm_R X (d + 1) 158 202 [some ((.ref a0)), some (.int i1), some (.int (i2 + (7 : Int32))), some (.int i3), some (.int i4)] [] hp26 Q))))) ∧ (x24 = (93 : Int32) → mm_R X (d + 1) 158 202 [some ((.ref a0)), some (.int i1), some (.int (i2 + (3 : Int32))), some (.int i3), some (.int i4)] [] hp23 Q))))))))))))))))))))) : mm_R X (d + 1) 158 202 [some ((.ref a0)), some (.int i1), some (.int i2), some (.int i3), some (.int i4)] [] hp Q := by
  obtain ⟨hc1, H⟩ := H
  refine mm_R.cV (pc' := 204) (L' := [some ((.ref a0)), some (.int i1), some (.int i2), some (.int i3), some (.int i4)]) (st1 := [.int i2, (.ref a0)]) (as := [.int i2]) (rest := []) 2 rfl rfl (mw_sp rfl rfl (Nat.le_of_ble_eq_true rfl) (mw_ac rfl (mw_ac rfl mw_an)) mw_an) rfl rfl hc1 (H.mono (fun o hp2 H => ?_))
  obtain ⟨x3, rfl, H⟩ := H
  refine mm_R.br (L' := [some ((.ref a0)), some (.int i1), some (.int i2), some (.int i3), some (.int i4)]) (st' := []) (t := 283) (u := 212) (b := mm_cc .eq x3 (41 : Int32)) 2 rfl (fun c => ?_) (fun c => ?_)
  · replace H := H.1 (of_decide_eq_true c)
    exact mm_R.rt (pc' := 286) (L' := [some ((.ref a0)), some (.int i1), some (.int i2), some (.int i3), some (.int i4)]) (st1 := [.int (i2 + (1 : Int32))]) 3 rfl rfl rfl rfl rfl rfl H
  · replace H := H.2 (of_decide_eq_false c)
    obtain ⟨hc4, H⟩ := H
    refine mm_R.cV (pc' := 214) (L' := [some ((.ref a0)), some (.int i1), some (.int i2), some (.int i3), some (.int i4)]) (st1 := [.int i2, (.ref a0)]) (as := [.int i2]) (rest := []) 2 rfl rfl (mw_sp rfl rfl (Nat.le_of_ble_eq_true rfl) (mw_ac rfl (mw_ac rfl mw_an)) mw_an) rfl rfl hc4 (H.mono (fun o hp5 H => ?_))
    obtain ⟨x6, rfl, H⟩ := H
    refine mm_R.br (L' := [some ((.ref a0)), some (.int i1), some (.int i2), some (.int i3), some (.int i4)]) (st' := []) (t := 265) (u := 222) (b := mm_cc .ne x6 (91 : Int32)) 2 rfl (fun c => ?_) (fun c => ?_)
    · replace H := H.1 (of_decide_eq_true c)
      obtain ⟨hc7, H⟩ := H
      refine mm_R.cV (pc' := 267) (L' := [some ((.ref a0)), some (.int i1), some (.int i2), some (.int i3), some (.int i4)]) (st1 := [.int i2, (.ref a0)]) (as := [.int i2]) (rest := []) 2 rfl rfl (mw_sp rfl rfl (Nat.le_of_ble_eq_true rfl) (mw_ac rfl (mw_ac rfl mw_an)) mw_an) rfl rfl hc7 (H.mono (fun o hp8 H => ?_))
      obtain ⟨x9, rfl, H⟩ := H
      refine mm_R.br (L' := [some ((.ref a0)), some (.int i1), some (.int i2), some (.int i3), some (.int i4)]) (st' := []) (t := 281) (u := 273) (b := mm_cc .eq x9 (0 : Int32)) 1 rfl (fun c => ?_) (fun c => ?_)
      · replace H := H.1 (of_decide_eq_true c)
        exact mm_R.rt (pc' := 282) (L' := [some ((.ref a0)), some (.int i1), some (.int i2), some (.int i3), some (.int i4)]) (st1 := [.int (-1 : Int32)]) 1 rfl rfl rfl rfl rfl rfl H
      · replace H := H.2 (of_decide_eq_false c)
        exact mm_R.pn (pc' := 202) (L' := [some ((.ref a0)), some (.int i1), some (.int (i2 + (7 : Int32))), some (.int i3), some (.int i4)]) (st' := []) 5 rfl H
    · replace H := H.2 (Decidable.of_not_not (of_decide_eq_false c))
      obtain ⟨hc10, H⟩ := H
      refine mm_R.cV (pc' := 226) (L' := [some ((.ref a0)), some (.int i1), some (.int i2), some (.int i3), some (.int i4)]) (st1 := [.int (i2 + (1 : Int32)), (.ref a0)]) (as := [.int (i2 + (1 : Int32))]) (rest := []) 4 rfl rfl (mw_sp rfl rfl (Nat.le_of_ble_eq_true rfl) (mw_ac rfl (mw_ac rfl mw_an)) mw_an) rfl rfl hc10 (H.mono (fun o hp11 H => ?_))
      obtain ⟨x12, rfl, H⟩ := H
      refine mm_R.br (L' := [some ((.ref a0)), some (.int i1), some (.int i2), some (.int i3), some (.int i4)]) (st' := []) (t := 265) (u := 234) (b := mm_cc .lt x12 (48 : Int32)) 2 rfl (fun c => ?_) (fun c => ?_)
      · replace H := H.1 (of_decide_eq_true c)
        obtain ⟨hc13, H⟩ := H
        refine mm_R.cV (pc' := 267) (L' := [some ((.ref a0)), some (.int i1), some (.int i2), some (.int i3), some (.int i4)]) (st1 := [.int i2, (.ref a0)]) (as := [.int i2]) (rest := []) 2 rfl rfl (mw_sp rfl rfl (Nat.le_of_ble_eq_true rfl) (mw_ac rfl (mw_ac rfl mw_an)) mw_an) rfl rfl hc13 (H.mono (fun o hp14 H => ?_))
        obtain ⟨x15, rfl, H⟩ := H
        refine mm_R.br (L' := [some ((.ref a0)), some (.int i1), some (.int i2), some (.int i3), some (.int i4)]) (st' := []) (t := 281) (u := 273) (b := mm_cc .eq x15 (0 : Int32)) 1 rfl (fun c => ?_) (fun c => ?_)
        · replace H := H.1 (of_decide_eq_true c)
          exact mm_R.rt (pc' := 282) (L' := [some ((.ref a0)), some (.int i1), some (.int i2), some (.int i3), some (.int i4)]) (st1 := [.int (-1 : Int32)]) 1 rfl rfl rfl rfl rfl rfl H
        · replace H := H.2 (of_decide_eq_false c)
          exact mm_R.pn (pc' := 202) (L' := [some ((.ref a0)), some (.int i1), some (.int (i2 + (7 : Int32))), some (.int i3), some (.int i4)]) (st' := []) 5 rfl H
      · replace H := H.2 (of_decide_eq_false c)
        obtain ⟨hc16, H⟩ := H
        refine mm_R.cV (pc' := 238) (L' := [some ((.ref a0)), some (.int i1), some (.int i2), some (.int i3), some (.int i4)]) (st1 := [.int (i2 + (1 : Int32)), (.ref a0)]) (as := [.int (i2 + (1 : Int32))]) (rest := []) 4 rfl rfl (mw_sp rfl rfl (Nat.le_of_ble_eq_true rfl) (mw_ac rfl (mw_ac rfl mw_an)) mw_an) rfl rfl hc16 (H.mono (fun o hp17 H => ?_))
        obtain ⟨x18, rfl, H⟩ := H
        refine mm_R.br (L' := [some ((.ref a0)), some (.int i1), some (.int i2), some (.int i3), some (.int i4)]) (st' := []) (t := 265) (u := 246) (b := mm_cc .gt x18 (55 : Int32)) 2 rfl (fun c => ?_) (fun c => ?_)
        · replace H := H.1 (of_decide_eq_true c)
          obtain ⟨hc19, H⟩ := H
          refine mm_R.cV (pc' := 267) (L' := [some ((.ref a0)), some (.int i1), some (.int i2), some (.int i3), some (.int i4)]) (st1 := [.int i2, (.ref a0)]) (as := [.int i2]) (rest := []) 2 rfl rfl (mw_sp rfl rfl (Nat.le_of_ble_eq_true rfl) (mw_ac rfl (mw_ac rfl mw_an)) mw_an) rfl rfl hc19 (H.mono (fun o hp20 H => ?_))
          obtain ⟨x21, rfl, H⟩ := H
          refine mm_R.br (L' := [some ((.ref a0)), some (.int i1), some (.int i2), some (.int i3), some (.int i4)]) (st' := []) (t := 281) (u := 273) (b := mm_cc .eq x21 (0 : Int32)) 1 rfl (fun c => ?_) (fun c => ?_)
          · replace H := H.1 (of_decide_eq_true c)
            exact mm_R.rt (pc' := 282) (L' := [some ((.ref a0)), some (.int i1), some (.int i2), some (.int i3), some (.int i4)]) (st1 := [.int (-1 : Int32)]) 1 rfl rfl rfl rfl rfl rfl H
          · replace H := H.2 (of_decide_eq_false c)
            exact mm_R.pn (pc' := 202) (L' := [some ((.ref a0)), some (.int i1), some (.int (i2 + (7 : Int32))), some (.int i3), some (.int i4)]) (st' := []) 5 rfl H
        · replace H := H.2 (of_decide_eq_false c)
          obtain ⟨hc22, H⟩ := H
          refine mm_R.cV (pc' := 250) (L' := [some ((.ref a0)), some (.int i1), some (.int i2), some (.int i3), some (.int i4)]) (st1 := [.int (i2 + (2 : Int32)), (.ref a0)]) (as := [.int (i2 + (2 : Int32))]) (rest := []) 4 rfl rfl (mw_sp rfl rfl (Nat.le_of_ble_eq_true rfl) (mw_ac rfl (mw_ac rfl mw_an)) mw_an) rfl rfl hc22 (H.mono (fun o hp23 H => ?_))
          obtain ⟨x24, rfl, H⟩ := H
          refine mm_R.br (L' := [some ((.ref a0)), some (.int i1), some (.int i2), some (.int i3), some (.int i4)]) (st' := []) (t := 265) (u := 258) (b := mm_cc .ne x24 (93 : Int32)) 2 rfl (fun c => ?_) (fun c => ?_)
          · replace H := H.1 (of_decide_eq_true c)
            obtain ⟨hc25, H⟩ := H
            refine mm_R.cV (pc' := 267) (L' := [some ((.ref a0)), some (.int i1), some (.int i2), some (.int i3), some (.int i4)]) (st1 := [.int i2, (.ref a0)]) (as := [.int i2]) (rest := []) 2 rfl rfl (mw_sp rfl rfl (Nat.le_of_ble_eq_true rfl) (mw_ac rfl (mw_ac rfl mw_an)) mw_an) rfl rfl hc25 (H.mono (fun o hp26 H => ?_))
            obtain ⟨x27, rfl, H⟩ := H
            refine mm_R.br (L' := [some ((.ref a0)), some (.int i1), some (.int i2), some (.int i3), some (.int i4)]) (st' := []) (t := 281) (u := 273) (b := mm_cc .eq x27 (0 : Int32)) 1 rfl (fun c => ?_) (fun c => ?_)
            · replace H := H.1 (of_decide_eq_true c)
              exact mm_R.rt (pc' := 282) (L' := [some ((.ref a0)), some (.int i1), some (.int i2), some (.int i3), some (.int i4)]) (st1 := [.int (-1 : Int32)]) 1 rfl rfl rfl rfl rfl rfl H
            · replace H := H.2 (of_decide_eq_false c)
              exact mm_R.pn (pc' := 202) (L' := [some ((.ref a0)), some (.int i1), some (.int (i2 + (7 : Int32))), some (.int i3), some (.int i4)]) (st' := []) 5 rfl H
          · replace H := H.2 (Decidable.of_not_not (of_decide_eq_false c))
            exact mm_R.pn (pc' := 202) (L' := [some ((.ref a0)), some (.int i1), some (.int (i2 + (3 : Int32))), some (.int i3), some (.int i4)]) (st' := []) 5 rfl H
