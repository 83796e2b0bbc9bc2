-- StepRunnerModel.empty, from 0
set_option maxRecDepth 10000 in
theorem w120_0 {X : List Int32} {d : Nat} {a0 : Nat} {i1 : Int32} {hp : mm_H} {Q : Option Value → mm_H → Prop} (H : mw_rc (.ref a0) 121 hp ∧ mm_R X d 121 0 (mm_L0 121 [(.ref a0), .int i1]) [] hp (mw_r0 (fun hp2 => mw_rc (.ref a0) 122 hp2 ∧ mm_R X d 122 0 (mm_L0 122 [(.ref a0), .int i1, .int (0 : Int32), .int (0 : Int32), .int (0 : Int32)]) [] hp2 (mw_r0 (fun hp4 => Q none hp4))))) : mm_R X (d + 1) 120 0 (mm_L0 120 [(.ref a0), .int i1]) [] hp Q := by
  show mm_R X (d + 1) 120 0 [some ((.ref a0)), some (.int i1)] [] hp Q
  obtain ⟨hc1, H⟩ := H
  refine mm_R.cV (pc' := 2) (L' := [some ((.ref a0)), some (.int i1)]) (st1 := [.int i1, (.ref a0)]) (as := [.int i1]) (rest := []) 2 rfl rfl (mw_sp rfl rfl (Nat.le_of_ble_eq_true rfl) (mw_ac rfl (mw_ac rfl mw_an)) mw_an) rfl rfl hc1 (H.mono (fun o hp2 H => ?_))
  obtain ⟨rfl, H⟩ := H
  obtain ⟨hc3, H⟩ := H
  refine mm_R.cV (pc' := 10) (L' := [some ((.ref a0)), some (.int i1)]) (st1 := [.int (0 : Int32), .int (0 : Int32), .int (0 : Int32), .int i1, (.ref a0)]) (as := [.int i1, .int (0 : Int32), .int (0 : Int32), .int (0 : Int32)]) (rest := []) 5 rfl rfl (mw_sp rfl rfl (Nat.le_of_ble_eq_true rfl) (mw_ac rfl (mw_ac rfl (mw_ac rfl (mw_ac rfl (mw_ac rfl mw_an))))) mw_an) rfl rfl hc3 (H.mono (fun o hp4 H => ?_))
  obtain ⟨rfl, H⟩ := H
  exact mm_R.rt (pc' := 13) (L' := [some ((.ref a0)), some (.int i1)]) (st1 := []) 0 rfl rfl rfl rfl rfl rfl H
-- StepRunnerModel.clear, from 0
set_option maxRecDepth 10000 in
theorem w121_0 {X : List Int32} {d : Nat} {a0 : Nat} {i1 : Int32} {hp : mm_H} {Q : Option Value → mm_H → Prop} (H : mw_gv 10 5 (.ref a0) hp (fun v1 => mw_si 1000 .int v1 i1 (0 : Int32) hp (fun hp2 => Q none hp2))) : mm_R X (d + 1) 121 0 (mm_L0 121 [(.ref a0), .int i1]) [] hp Q := by
  show mm_R X (d + 1) 121 0 [some ((.ref a0)), some (.int i1)] [] hp Q
  refine mm_R.wgv (pc' := 1) (L' := [some ((.ref a0)), some (.int i1)]) (r := []) 1 rfl rfl (H.mono (fun v1 H => ?_))
  refine mm_R.wsi (pc' := 6) (L' := [some ((.ref a0)), some (.int i1)]) (r := []) (t := 1000) (ty := .int) 2 rfl rfl rfl rfl (H.mono (fun hp2 H => ?_))
  exact mm_R.rt (pc' := 7) (L' := [some ((.ref a0)), some (.int i1)]) (st1 := []) 0 rfl rfl rfl rfl rfl rfl H
-- StepRunnerModel.add, from 0
set_option maxRecDepth 10000 in
theorem w122_0 {X : List Int32} {d : Nat} {a0 : Nat} {i1 : Int32} {i2 : Int32} {i3 : Int32} {i4 : Int32} {hp : mm_H} {Q : Option Value → mm_H → Prop} (H : mw_gv 10 4 (.ref a0) hp (fun v1 => mm_isr v1 = true ∧ mm_R X d 123 0 (mm_L0 123 [.int i1]) [] hp (mw_ri (fun x4 hp3 => mw_gv 10 5 (.ref a0) hp3 (fun v5 => mw_ai 1000 v5 i1 hp3 (fun x6 => mw_sl v1 (x4 + x6) ((((Int32.toInt64 i4) <<< (Int32.toInt64 (32 : Int32) &&& 63)) ||| (Int32.toInt64 i2)) ||| (Int32.toInt64 (i3 <<< ((2 : Int32) &&& 31)))) hp3 (fun hp7 => mw_gv 10 5 (.ref a0) hp7 (fun v8 => mm_isr v8 = true ∧ mw_ai 1000 v8 i1 hp7 (fun x10 => mw_si 1000 .int v8 i1 (x10 + (1 : Int32)) hp7 (fun hp11 => Q none hp11)))))))))) : mm_R X (d + 1) 122 0 (mm_L0 122 [(.ref a0), .int i1, .int i2, .int i3, .int i4]) [] hp Q := by
  show mm_R X (d + 1) 122 0 [some ((.ref a0)), some (.int i1), some (.int i2), some (.int i3), some (.int i4)] [] hp Q
  refine mm_R.wgv (pc' := 1) (L' := [some ((.ref a0)), some (.int i1), some (.int i2), some (.int i3), some (.int i4)]) (r := []) 1 rfl rfl (H.mono (fun v1 H => ?_))
  obtain ⟨hr2, H⟩ := H
  refine mm_R.cS (pc' := 5) (L' := [some ((.ref a0)), some (.int i1), some (.int i2), some (.int i3), some (.int i4)]) (st1 := [.int i1, v1]) (as := [.int i1]) (rest := [v1]) 1 rfl rfl (mw_sp rfl rfl (Nat.le_of_ble_eq_true rfl) (mw_ac rfl mw_an) (mw_ac (mw_c1 hr2) mw_an)) rfl rfl (H.mono (fun o hp3 H => ?_))
  obtain ⟨x4, rfl, H⟩ := H
  refine mm_R.wgv (pc' := 9) (L' := [some ((.ref a0)), some (.int i1), some (.int i2), some (.int i3), some (.int i4)]) (r := [.int x4, v1]) 1 rfl rfl (H.mono (fun v5 H => ?_))
  refine mm_R.wai (pc' := 13) (L' := [some ((.ref a0)), some (.int i1), some (.int i2), some (.int i3), some (.int i4)]) (r := [.int x4, v1]) (t := 1000) 1 rfl rfl rfl rfl (H.mono (fun x6 H => ?_))
  refine mm_R.wsl (pc' := 29) (L' := [some ((.ref a0)), some (.int i1), some (.int i2), some (.int i3), some (.int i4)]) (r := []) 13 rfl rfl (H.mono (fun hp7 H => ?_))
  refine mm_R.wgv (pc' := 31) (L' := [some ((.ref a0)), some (.int i1), some (.int i2), some (.int i3), some (.int i4)]) (r := []) 1 rfl rfl (H.mono (fun v8 H => ?_))
  obtain ⟨hr9, H⟩ := H
  refine mm_R.d2 (pc' := 35) (L' := [some ((.ref a0)), some (.int i1), some (.int i2), some (.int i3), some (.int i4)]) (r := []) (v := v8) (x := i1) 1 rfl rfl hr9 ?_
  refine mm_R.wai (pc' := 36) (L' := [some ((.ref a0)), some (.int i1), some (.int i2), some (.int i3), some (.int i4)]) (r := [.int i1, v8]) (t := 1000) 0 rfl rfl rfl rfl (H.mono (fun x10 H => ?_))
  refine mm_R.wsi (pc' := 39) (L' := [some ((.ref a0)), some (.int i1), some (.int i2), some (.int i3), some (.int i4)]) (r := []) (t := 1000) (ty := .int) 2 rfl rfl rfl rfl (H.mono (fun hp11 H => ?_))
  exact mm_R.rt (pc' := 40) (L' := [some ((.ref a0)), some (.int i1), some (.int i2), some (.int i3), some (.int i4)]) (st1 := []) 0 rfl rfl rfl rfl rfl rfl H
-- StepRunnerModel.base, from 0
set_option maxRecDepth 10000 in
theorem w123_0 {X : List Int32} {d : Nat} {i0 : Int32} {hp : mm_H} {Q : Option Value → mm_H → Prop} (H : (((27 : Int32) ≤ i0 → (((123 : Int32) ≤ i0 → (((129 : Int32) ≤ i0 → Q (some (.int ((2784 : Int32) + ((544 : Int32) * (i0 - (129 : Int32)))))) hp) ∧ (¬ (129 : Int32) ≤ i0 → Q (some (.int ((1728 : Int32) + ((176 : Int32) * (i0 - (123 : Int32)))))) hp))) ∧ (¬ (123 : Int32) ≤ i0 → Q (some (.int ((864 : Int32) + ((9 : Int32) * (i0 - (27 : Int32)))))) hp))) ∧ (¬ (27 : Int32) ≤ i0 → Q (some (.int ((32 : Int32) * i0))) hp))) : mm_R X (d + 1) 123 0 (mm_L0 123 [.int i0]) [] hp Q := by
  show mm_R X (d + 1) 123 0 [some (.int i0)] [] hp Q
  refine mm_R.br (L' := [some (.int i0)]) (st' := []) (t := 11) (u := 6) (b := mm_cc .ge i0 (27 : Int32)) 3 rfl (fun c => ?_) (fun c => ?_)
  · replace H := H.1 (of_decide_eq_true c)
    refine mm_R.br (L' := [some (.int i0)]) (st' := []) (t := 29) (u := 17) (b := mm_cc .ge i0 (123 : Int32)) 3 rfl (fun c => ?_) (fun c => ?_)
    · replace H := H.1 (of_decide_eq_true c)
      refine mm_R.br (L' := [some (.int i0)]) (st' := []) (t := 51) (u := 36) (b := mm_cc .ge i0 (129 : Int32)) 3 rfl (fun c => ?_) (fun c => ?_)
      · replace H := H.1 (of_decide_eq_true c)
        exact mm_R.rt (pc' := 64) (L' := [some (.int i0)]) (st1 := [.int ((2784 : Int32) + ((544 : Int32) * (i0 - (129 : Int32))))]) 7 rfl rfl rfl rfl rfl rfl H
      · replace H := H.2 (of_decide_eq_false c)
        exact mm_R.rt (pc' := 64) (L' := [some (.int i0)]) (st1 := [.int ((1728 : Int32) + ((176 : Int32) * (i0 - (123 : Int32))))]) 8 rfl rfl rfl rfl rfl rfl H
    · replace H := H.2 (of_decide_eq_false c)
      exact mm_R.rt (pc' := 28) (L' := [some (.int i0)]) (st1 := [.int ((864 : Int32) + ((9 : Int32) * (i0 - (27 : Int32))))]) 7 rfl rfl rfl rfl rfl rfl H
  · replace H := H.2 (of_decide_eq_false c)
    exact mm_R.rt (pc' := 10) (L' := [some (.int i0)]) (st1 := [.int ((32 : Int32) * i0)]) 3 rfl rfl rfl rfl rfl rfl H
-- StepRunnerModel.write, from 0
set_option maxRecDepth 10000 in
theorem w124_0 {X : List Int32} {d : Nat} {a0 : Nat} {i1 : Int32} {hp : mm_H} {Q : Option Value → mm_H → Prop} (H : ((i1 < (32 : Int32) → Q (some (.int (0 : Int32))) hp) ∧ (¬ i1 < (32 : Int32) → (((126 : Int32) < i1 → Q (some (.int (0 : Int32))) hp) ∧ (¬ (126 : Int32) < i1 → mw_gi 10 3 (.ref a0) hp (fun x1 => ((x1 < (60 : Int32) → mw_gv 10 2 (.ref a0) hp (fun v2 => mw_gi 10 3 (.ref a0) hp (fun x3 => mw_si 1001 .char v2 x3 i1 hp (fun hp4 => mw_gi 10 3 (.ref a0) hp4 (fun x5 => mw_pt 10 3 (.ref a0) (.int (x5 + (1 : Int32))) hp4 (fun hp6 => Q (some (.int (1 : Int32))) hp6)))))) ∧ (¬ x1 < (60 : Int32) → Q (some (.int (0 : Int32))) hp)))))))) : mm_R X (d + 1) 124 0 (mm_L0 124 [(.ref a0), .int i1]) [] hp Q := by
  show mm_R X (d + 1) 124 0 [some ((.ref a0)), some (.int i1)] [] hp Q
  refine mm_R.br (L' := [some ((.ref a0)), some (.int i1)]) (st' := []) (t := 21) (u := 6) (b := mm_cc .lt i1 (32 : Int32)) 3 rfl (fun c => ?_) (fun c => ?_)
  · replace H := H.1 (of_decide_eq_true c)
    exact mm_R.rt (pc' := 22) (L' := [some ((.ref a0)), some (.int i1)]) (st1 := [.int (0 : Int32)]) 1 rfl rfl rfl rfl rfl rfl H
  · replace H := H.2 (of_decide_eq_false c)
    refine mm_R.br (L' := [some ((.ref a0)), some (.int i1)]) (st' := []) (t := 21) (u := 12) (b := mm_cc .gt i1 (126 : Int32)) 3 rfl (fun c => ?_) (fun c => ?_)
    · replace H := H.1 (of_decide_eq_true c)
      exact mm_R.rt (pc' := 22) (L' := [some ((.ref a0)), some (.int i1)]) (st1 := [.int (0 : Int32)]) 1 rfl rfl rfl rfl rfl rfl H
    · replace H := H.2 (of_decide_eq_false c)
      refine mm_R.wgi (pc' := 13) (L' := [some ((.ref a0)), some (.int i1)]) (r := []) 1 rfl rfl (H.mono (fun x1 H => ?_))
      refine mm_R.br (L' := [some ((.ref a0)), some (.int i1)]) (st' := []) (t := 23) (u := 21) (b := mm_cc .lt x1 (60 : Int32)) 2 rfl (fun c => ?_) (fun c => ?_)
      · replace H := H.1 (of_decide_eq_true c)
        refine mm_R.wgv (pc' := 24) (L' := [some ((.ref a0)), some (.int i1)]) (r := []) 1 rfl rfl (H.mono (fun v2 H => ?_))
        refine mm_R.wgi (pc' := 28) (L' := [some ((.ref a0)), some (.int i1)]) (r := [v2]) 1 rfl rfl (H.mono (fun x3 H => ?_))
        refine mm_R.wsi (pc' := 32) (L' := [some ((.ref a0)), some (.int i1)]) (r := []) (t := 1001) (ty := .char) 1 rfl rfl rfl rfl (H.mono (fun hp4 H => ?_))
        refine mm_R.wgi (pc' := 35) (L' := [some ((.ref a0)), some (.int i1)]) (r := [(.ref a0)]) 2 rfl rfl (H.mono (fun x5 H => ?_))
        refine mm_R.wpt (pc' := 40) (L' := [some ((.ref a0)), some (.int i1)]) (r := []) 2 rfl rfl (H.mono (fun hp6 H => ?_))
        exact mm_R.rt (pc' := 44) (L' := [some ((.ref a0)), some (.int i1)]) (st1 := [.int (1 : Int32)]) 1 rfl rfl rfl rfl rfl rfl H
      · replace H := H.2 (of_decide_eq_false c)
        exact mm_R.rt (pc' := 22) (L' := [some ((.ref a0)), some (.int i1)]) (st1 := [.int (0 : Int32)]) 1 rfl rfl rfl rfl rfl rfl H
-- StepRunnerModel.tool, from 0
set_option maxRecDepth 10000 in
theorem w125_0 {X : List Int32} {d : Nat} {a0 : Nat} {i1 : Int32} {hp : mm_H} {Q : Option Value → mm_H → Prop} (H : mw_rc (.ref a0) 126 hp ∧ mm_R X d 126 0 (mm_L0 126 [(.ref a0)]) [] hp (mw_ri (fun x3 hp2 => ((x3 = (0 : Int32) → Q (some (.int (-1 : Int32))) hp2) ∧ (¬ x3 = (0 : Int32) → mw_gi 10 6 (.ref a0) hp2 (fun x4 => ((x4 = (4 : Int32) → Q (some (.int (-1 : Int32))) hp2) ∧ (¬ x4 = (4 : Int32) → mm_R X d 127 0 (mm_L0 127 [.int i1, .int (0 : Int32), .int (3 : Int32)]) [] hp2 (mw_ri (fun x6 hp5 => ((¬ x6 = (0 : Int32) → mw_gv 10 7 (.ref a0) hp5 (fun v7 => mw_gi 10 6 (.ref a0) hp5 (fun x8 => mw_si 1000 .int v7 x8 i1 hp5 (fun hp9 => mw_gi 10 6 (.ref a0) hp9 (fun x10 => mw_pt 10 6 (.ref a0) (.int (x10 + (1 : Int32))) hp9 (fun hp11 => mw_gi 10 6 (.ref a0) hp11 (fun x12 => Q (some (.int (x12 - (1 : Int32)))) hp11))))))) ∧ (x6 = (0 : Int32) → Q (some (.int (-1 : Int32))) hp5)))))))))))) : mm_R X (d + 1) 125 0 (mm_L0 125 [(.ref a0), .int i1]) [] hp Q := by
  show mm_R X (d + 1) 125 0 [some ((.ref a0)), some (.int i1)] [] hp Q
  obtain ⟨hc1, H⟩ := H
  refine mm_R.cV (pc' := 1) (L' := [some ((.ref a0)), some (.int i1)]) (st1 := [(.ref a0)]) (as := []) (rest := []) 1 rfl rfl (mw_sp rfl rfl (Nat.le_of_ble_eq_true rfl) (mw_ac rfl mw_an) mw_an) rfl rfl hc1 (H.mono (fun o hp2 H => ?_))
  obtain ⟨x3, rfl, H⟩ := H
  refine mm_R.br (L' := [some ((.ref a0)), some (.int i1)]) (st' := []) (t := 24) (u := 7) (b := mm_cc .eq x3 (0 : Int32)) 1 rfl (fun c => ?_) (fun c => ?_)
  · replace H := H.1 (of_decide_eq_true c)
    exact mm_R.rt (pc' := 25) (L' := [some ((.ref a0)), some (.int i1)]) (st1 := [.int (-1 : Int32)]) 1 rfl rfl rfl rfl rfl rfl H
  · replace H := H.2 (of_decide_eq_false c)
    refine mm_R.wgi (pc' := 8) (L' := [some ((.ref a0)), some (.int i1)]) (r := []) 1 rfl rfl (H.mono (fun x4 H => ?_))
    refine mm_R.br (L' := [some ((.ref a0)), some (.int i1)]) (st' := []) (t := 24) (u := 15) (b := mm_cc .eq x4 (4 : Int32)) 2 rfl (fun c => ?_) (fun c => ?_)
    · replace H := H.1 (of_decide_eq_true c)
      exact mm_R.rt (pc' := 25) (L' := [some ((.ref a0)), some (.int i1)]) (st1 := [.int (-1 : Int32)]) 1 rfl rfl rfl rfl rfl rfl H
    · replace H := H.2 (of_decide_eq_false c)
      refine mm_R.cS (pc' := 18) (L' := [some ((.ref a0)), some (.int i1)]) (st1 := [.int (3 : Int32), .int (0 : Int32), .int i1]) (as := [.int i1, .int (0 : Int32), .int (3 : Int32)]) (rest := []) 3 rfl rfl (mw_sp rfl rfl (Nat.le_of_ble_eq_true rfl) (mw_ac rfl (mw_ac rfl (mw_ac rfl mw_an))) mw_an) rfl rfl (H.mono (fun o hp5 H => ?_))
      obtain ⟨x6, rfl, H⟩ := H
      refine mm_R.br (L' := [some ((.ref a0)), some (.int i1)]) (st' := []) (t := 26) (u := 24) (b := mm_cc .ne x6 (0 : Int32)) 1 rfl (fun c => ?_) (fun c => ?_)
      · replace H := H.1 (of_decide_eq_true c)
        refine mm_R.wgv (pc' := 27) (L' := [some ((.ref a0)), some (.int i1)]) (r := []) 1 rfl rfl (H.mono (fun v7 H => ?_))
        refine mm_R.wgi (pc' := 31) (L' := [some ((.ref a0)), some (.int i1)]) (r := [v7]) 1 rfl rfl (H.mono (fun x8 H => ?_))
        refine mm_R.wsi (pc' := 35) (L' := [some ((.ref a0)), some (.int i1)]) (r := []) (t := 1000) (ty := .int) 1 rfl rfl rfl rfl (H.mono (fun hp9 H => ?_))
        refine mm_R.wgi (pc' := 38) (L' := [some ((.ref a0)), some (.int i1)]) (r := [(.ref a0)]) 2 rfl rfl (H.mono (fun x10 H => ?_))
        refine mm_R.wpt (pc' := 43) (L' := [some ((.ref a0)), some (.int i1)]) (r := []) 2 rfl rfl (H.mono (fun hp11 H => ?_))
        refine mm_R.wgi (pc' := 47) (L' := [some ((.ref a0)), some (.int i1)]) (r := []) 1 rfl rfl (H.mono (fun x12 H => ?_))
        exact mm_R.rt (pc' := 52) (L' := [some ((.ref a0)), some (.int i1)]) (st1 := [.int (x12 - (1 : Int32))]) 2 rfl rfl rfl rfl rfl rfl H
      · replace H := H.2 (Decidable.of_not_not (of_decide_eq_false c))
        exact mm_R.rt (pc' := 25) (L' := [some ((.ref a0)), some (.int i1)]) (st1 := [.int (-1 : Int32)]) 1 rfl rfl rfl rfl rfl rfl H
-- StepRunnerModel.builds, from 0
set_option maxRecDepth 10000 in
theorem w126_0 {X : List Int32} {d : Nat} {a0 : Nat} {hp : mm_H} {Q : Option Value → mm_H → Prop} (H : mw_gi 10 23 (.ref a0) hp (fun x1 => ((x1 = (1 : Int32) → Q (some (.int (0 : Int32))) hp) ∧ (¬ x1 = (1 : Int32) → Q (some (.int (1 : Int32))) hp)))) : mm_R X (d + 1) 126 0 (mm_L0 126 [(.ref a0)]) [] hp Q := by
  show mm_R X (d + 1) 126 0 [some ((.ref a0))] [] hp Q
  refine mm_R.wgi (pc' := 1) (L' := [some ((.ref a0))]) (r := []) 1 rfl rfl (H.mono (fun x1 H => ?_))
  refine mm_R.br (L' := [some ((.ref a0))]) (st' := []) (t := 12) (u := 8) (b := mm_cc .eq x1 (1 : Int32)) 2 rfl (fun c => ?_) (fun c => ?_)
  · replace H := H.1 (of_decide_eq_true c)
    exact mm_R.rt (pc' := 13) (L' := [some ((.ref a0))]) (st1 := [.int (0 : Int32)]) 1 rfl rfl rfl rfl rfl rfl H
  · replace H := H.2 (of_decide_eq_false c)
    exact mm_R.rt (pc' := 13) (L' := [some ((.ref a0))]) (st1 := [.int (1 : Int32)]) 2 rfl rfl rfl rfl rfl rfl H
-- StepRunnerModel.in, from 0
set_option maxRecDepth 10000 in
theorem w127_0 {X : List Int32} {d : Nat} {i0 : Int32} {i1 : Int32} {i2 : Int32} {hp : mm_H} {Q : Option Value → mm_H → Prop} (H : ((i0 < i1 → Q (some (.int (0 : Int32))) hp) ∧ (¬ i0 < i1 → ((i2 < i0 → Q (some (.int (0 : Int32))) hp) ∧ (¬ i2 < i0 → Q (some (.int (1 : Int32))) hp))))) : mm_R X (d + 1) 127 0 (mm_L0 127 [.int i0, .int i1, .int i2]) [] hp Q := by
  show mm_R X (d + 1) 127 0 [some (.int i0), some (.int i1), some (.int i2)] [] hp Q
  refine mm_R.br (L' := [some (.int i0), some (.int i1), some (.int i2)]) (st' := []) (t := 14) (u := 5) (b := mm_cc .lt i0 i1) 3 rfl (fun c => ?_) (fun c => ?_)
  · replace H := H.1 (of_decide_eq_true c)
    exact mm_R.rt (pc' := 15) (L' := [some (.int i0), some (.int i1), some (.int i2)]) (st1 := [.int (0 : Int32)]) 1 rfl rfl rfl rfl rfl rfl H
  · replace H := H.2 (of_decide_eq_false c)
    refine mm_R.br (L' := [some (.int i0), some (.int i1), some (.int i2)]) (st' := []) (t := 14) (u := 10) (b := mm_cc .gt i0 i2) 3 rfl (fun c => ?_) (fun c => ?_)
    · replace H := H.1 (of_decide_eq_true c)
      exact mm_R.rt (pc' := 15) (L' := [some (.int i0), some (.int i1), some (.int i2)]) (st1 := [.int (0 : Int32)]) 1 rfl rfl rfl rfl rfl rfl H
    · replace H := H.2 (of_decide_eq_false c)
      exact mm_R.rt (pc' := 15) (L' := [some (.int i0), some (.int i1), some (.int i2)]) (st1 := [.int (1 : Int32)]) 2 rfl rfl rfl rfl rfl rfl H
-- StepRunnerModel.port, from 0
set_option maxRecDepth 10000 in
theorem w128_0 {X : List Int32} {d : Nat} {a0 : Nat} {i1 : Int32} {i2 : Int32} {i3 : Int32} {i4 : Int32} {hp : mm_H} {Q : Option Value → mm_H → Prop} (H : ((i3 = (0 : Int32) → mm_R X (d + 1) 128 21 [some ((.ref a0)), some (.int i1), some (.int i2), some (.int i3), some (.int i4), none, none] [.int (1 : Int32)] hp Q) ∧ (¬ i3 = (0 : Int32) → ((i3 < (97 : Int32) → mm_R X (d + 1) 128 21 [some ((.ref a0)), some (.int i1), some (.int i2), some (.int i3), some (.int i4), none, none] [.int (0 : Int32)] hp Q) ∧ (¬ i3 < (97 : Int32) → (((122 : Int32) < i3 → mm_R X (d + 1) 128 21 [some ((.ref a0)), some (.int i1), some (.int i2), some (.int i3), some (.int i4), none, none] [.int (0 : Int32)] hp Q) ∧ (¬ (122 : Int32) < i3 → mm_R X (d + 1) 128 21 [some ((.ref a0)), some (.int i1), some (.int i2), some (.int i3), some (.int i4), none, none] [.int (1 : Int32)] hp Q))))))) : mm_R X (d + 1) 128 0 (mm_L0 128 [(.ref a0), .int i1, .int i2, .int i3, .int i4]) [] hp Q := by
  show mm_R X (d + 1) 128 0 [some ((.ref a0)), some (.int i1), some (.int i2), some (.int i3), some (.int i4), none, none] [] hp Q
  refine mm_R.br (L' := [some ((.ref a0)), some (.int i1), some (.int i2), some (.int i3), some (.int i4), none, none]) (st' := []) (t := 16) (u := 4) (b := mm_cc .eq i3 (0 : Int32)) 2 rfl (fun c => ?_) (fun c => ?_)
  · replace H := H.1 (of_decide_eq_true c)
    exact mm_R.pn (pc' := 21) (L' := [some ((.ref a0)), some (.int i1), some (.int i2), some (.int i3), some (.int i4), none, none]) (st' := [.int (1 : Int32)]) 2 rfl H
  · replace H := H.2 (of_decide_eq_false c)
    refine mm_R.br (L' := [some ((.ref a0)), some (.int i1), some (.int i2), some (.int i3), some (.int i4), none, none]) (st' := []) (t := 20) (u := 10) (b := mm_cc .lt i3 (97 : Int32)) 3 rfl (fun c => ?_) (fun c => ?_)
    · replace H := H.1 (of_decide_eq_true c)
      exact mm_R.pn (pc' := 21) (L' := [some ((.ref a0)), some (.int i1), some (.int i2), some (.int i3), some (.int i4), none, none]) (st' := [.int (0 : Int32)]) 1 rfl H
    · replace H := H.2 (of_decide_eq_false c)
      refine mm_R.br (L' := [some ((.ref a0)), some (.int i1), some (.int i2), some (.int i3), some (.int i4), none, none]) (st' := []) (t := 20) (u := 16) (b := mm_cc .gt i3 (122 : Int32)) 3 rfl (fun c => ?_) (fun c => ?_)
      · replace H := H.1 (of_decide_eq_true c)
        exact mm_R.pn (pc' := 21) (L' := [some ((.ref a0)), some (.int i1), some (.int i2), some (.int i3), some (.int i4), none, none]) (st' := [.int (0 : Int32)]) 1 rfl H
      · replace H := H.2 (of_decide_eq_false c)
        exact mm_R.pn (pc' := 21) (L' := [some ((.ref a0)), some (.int i1), some (.int i2), some (.int i3), some (.int i4), none, none]) (st' := [.int (1 : Int32)]) 2 rfl H
-- StepRunnerModel.port, from 21
set_option maxRecDepth 10000 in
theorem w128_21 {X : List Int32} {d : Nat} {a0 : Nat} {i1 : Int32} {i2 : Int32} {i3 : Int32} {i4 : Int32} {o5 : Option Value} {o6 : Option Value} {s0 : Int32} {hp : mm_H} {Q : Option Value → mm_H → Prop} (H : mw_rc (.ref a0) 126 hp ∧ mm_R X d 126 0 (mm_L0 126 [(.ref a0)]) [] hp (mw_ri (fun x3 hp2 => ((x3 = (0 : Int32) → Q (some (.int (-1 : Int32))) hp2) ∧ (¬ x3 = (0 : Int32) → ((i1 < (0 : Int32) → Q (some (.int (-1 : Int32))) hp2) ∧ (¬ i1 < (0 : Int32) → mw_gi 10 6 (.ref a0) hp2 (fun x4 => ((x4 ≤ i1 → Q (some (.int (-1 : Int32))) hp2) ∧ (¬ x4 ≤ i1 → mw_gv 10 8 (.ref a0) hp2 (fun v5 => mw_ai 1000 v5 i1 hp2 (fun x6 => ((x6 = (4 : Int32) → Q (some (.int (-1 : Int32))) hp2) ∧ (¬ x6 = (4 : Int32) → mm_R X d 127 0 (mm_L0 127 [.int i2, .int (-9 : Int32), .int (9 : Int32)]) [] hp2 (mw_ri (fun x8 hp7 => ((x8 = (0 : Int32) → Q (some (.int (-1 : Int32))) hp7) ∧ (¬ x8 = (0 : Int32) → ((s0 = (0 : Int32) → Q (some (.int (-1 : Int32))) hp7) ∧ (¬ s0 = (0 : Int32) → mm_R X d 127 0 (mm_L0 127 [.int i4, .int (0 : Int32), .int (4 : Int32)]) [] hp7 (mw_ri (fun x10 hp9 => ((¬ x10 = (0 : Int32) → mw_gv 10 8 (.ref a0) hp9 (fun v11 => mw_ai 1000 v11 i1 hp9 (fun x12 => mw_gv 10 9 (.ref a0) hp9 (fun v13 => mw_si 1000 .int v13 (((4 : Int32) * i1) + x12) i2 hp9 (fun hp14 => mw_gv 10 10 (.ref a0) hp14 (fun v15 => mw_si 1000 .int v15 (((4 : Int32) * i1) + x12) i3 hp14 (fun hp16 => mw_gv 10 11 (.ref a0) hp16 (fun v17 => mw_si 1000 .int v17 (((4 : Int32) * i1) + x12) i4 hp16 (fun hp18 => mw_gv 10 8 (.ref a0) hp18 (fun v19 => mm_isr v19 = true ∧ mw_ai 1000 v19 i1 hp18 (fun x21 => mw_si 1000 .int v19 i1 (x21 + (1 : Int32)) hp18 (fun hp22 => mw_gv 10 8 (.ref a0) hp22 (fun v23 => mw_ai 1000 v23 i1 hp22 (fun x24 => Q (some (.int (x24 - (1 : Int32)))) hp22)))))))))))))) ∧ (x10 = (0 : Int32) → Q (some (.int (-1 : Int32))) hp9)))))))))))))))))))))))) : mm_R X (d + 1) 128 21 [some ((.ref a0)), some (.int i1), some (.int i2), some (.int i3), some (.int i4), o5, o6] [.int s0] hp Q := by
  obtain ⟨hc1, H⟩ := H
  refine mm_R.cV (pc' := 24) (L' := [some ((.ref a0)), some (.int i1), some (.int i2), some (.int i3), some (.int i4), some (.int s0), o6]) (st1 := [(.ref a0)]) (as := []) (rest := []) 2 rfl rfl (mw_sp rfl rfl (Nat.le_of_ble_eq_true rfl) (mw_ac rfl mw_an) mw_an) rfl rfl hc1 (H.mono (fun o hp2 H => ?_))
  obtain ⟨x3, rfl, H⟩ := H
  refine mm_R.br (L' := [some ((.ref a0)), some (.int i1), some (.int i2), some (.int i3), some (.int i4), some (.int s0), o6]) (st' := []) (t := 78) (u := 30) (b := mm_cc .eq x3 (0 : Int32)) 1 rfl (fun c => ?_) (fun c => ?_)
  · replace H := H.1 (of_decide_eq_true c)
    exact mm_R.rt (pc' := 79) (L' := [some ((.ref a0)), some (.int i1), some (.int i2), some (.int i3), some (.int i4), some (.int s0), o6]) (st1 := [.int (-1 : Int32)]) 1 rfl rfl rfl rfl rfl rfl H
  · replace H := H.2 (of_decide_eq_false c)
    refine mm_R.br (L' := [some ((.ref a0)), some (.int i1), some (.int i2), some (.int i3), some (.int i4), some (.int s0), o6]) (st' := []) (t := 78) (u := 34) (b := mm_cc .lt i1 (0 : Int32)) 2 rfl (fun c => ?_) (fun c => ?_)
    · replace H := H.1 (of_decide_eq_true c)
      exact mm_R.rt (pc' := 79) (L' := [some ((.ref a0)), some (.int i1), some (.int i2), some (.int i3), some (.int i4), some (.int s0), o6]) (st1 := [.int (-1 : Int32)]) 1 rfl rfl rfl rfl rfl rfl H
    · replace H := H.2 (of_decide_eq_false c)
      refine mm_R.wgi (pc' := 36) (L' := [some ((.ref a0)), some (.int i1), some (.int i2), some (.int i3), some (.int i4), some (.int s0), o6]) (r := [.int i1]) 2 rfl rfl (H.mono (fun x4 H => ?_))
      refine mm_R.br (L' := [some ((.ref a0)), some (.int i1), some (.int i2), some (.int i3), some (.int i4), some (.int s0), o6]) (st' := []) (t := 78) (u := 42) (b := mm_cc .ge i1 x4) 1 rfl (fun c => ?_) (fun c => ?_)
      · replace H := H.1 (of_decide_eq_true c)
        exact mm_R.rt (pc' := 79) (L' := [some ((.ref a0)), some (.int i1), some (.int i2), some (.int i3), some (.int i4), some (.int s0), o6]) (st1 := [.int (-1 : Int32)]) 1 rfl rfl rfl rfl rfl rfl H
      · replace H := H.2 (of_decide_eq_false c)
        refine mm_R.wgv (pc' := 43) (L' := [some ((.ref a0)), some (.int i1), some (.int i2), some (.int i3), some (.int i4), some (.int s0), o6]) (r := []) 1 rfl rfl (H.mono (fun v5 H => ?_))
        refine mm_R.wai (pc' := 47) (L' := [some ((.ref a0)), some (.int i1), some (.int i2), some (.int i3), some (.int i4), some (.int s0), o6]) (r := []) (t := 1000) 1 rfl rfl rfl rfl (H.mono (fun x6 H => ?_))
        refine mm_R.br (L' := [some ((.ref a0)), some (.int i1), some (.int i2), some (.int i3), some (.int i4), some (.int s0), o6]) (st' := []) (t := 78) (u := 52) (b := mm_cc .eq x6 (4 : Int32)) 2 rfl (fun c => ?_) (fun c => ?_)
        · replace H := H.1 (of_decide_eq_true c)
          exact mm_R.rt (pc' := 79) (L' := [some ((.ref a0)), some (.int i1), some (.int i2), some (.int i3), some (.int i4), some (.int s0), o6]) (st1 := [.int (-1 : Int32)]) 1 rfl rfl rfl rfl rfl rfl H
        · replace H := H.2 (of_decide_eq_false c)
          refine mm_R.cS (pc' := 57) (L' := [some ((.ref a0)), some (.int i1), some (.int i2), some (.int i3), some (.int i4), some (.int s0), o6]) (st1 := [.int (9 : Int32), .int (-9 : Int32), .int i2]) (as := [.int i2, .int (-9 : Int32), .int (9 : Int32)]) (rest := []) 3 rfl rfl (mw_sp rfl rfl (Nat.le_of_ble_eq_true rfl) (mw_ac rfl (mw_ac rfl (mw_ac rfl mw_an))) mw_an) rfl rfl (H.mono (fun o hp7 H => ?_))
          obtain ⟨x8, rfl, H⟩ := H
          refine mm_R.br (L' := [some ((.ref a0)), some (.int i1), some (.int i2), some (.int i3), some (.int i4), some (.int s0), o6]) (st' := []) (t := 78) (u := 63) (b := mm_cc .eq x8 (0 : Int32)) 1 rfl (fun c => ?_) (fun c => ?_)
          · replace H := H.1 (of_decide_eq_true c)
            exact mm_R.rt (pc' := 79) (L' := [some ((.ref a0)), some (.int i1), some (.int i2), some (.int i3), some (.int i4), some (.int s0), o6]) (st1 := [.int (-1 : Int32)]) 1 rfl rfl rfl rfl rfl rfl H
          · replace H := H.2 (of_decide_eq_false c)
            refine mm_R.br (L' := [some ((.ref a0)), some (.int i1), some (.int i2), some (.int i3), some (.int i4), some (.int s0), o6]) (st' := []) (t := 78) (u := 68) (b := mm_cc .eq s0 (0 : Int32)) 2 rfl (fun c => ?_) (fun c => ?_)
            · replace H := H.1 (of_decide_eq_true c)
              exact mm_R.rt (pc' := 79) (L' := [some ((.ref a0)), some (.int i1), some (.int i2), some (.int i3), some (.int i4), some (.int s0), o6]) (st1 := [.int (-1 : Int32)]) 1 rfl rfl rfl rfl rfl rfl H
            · replace H := H.2 (of_decide_eq_false c)
              refine mm_R.cS (pc' := 72) (L' := [some ((.ref a0)), some (.int i1), some (.int i2), some (.int i3), some (.int i4), some (.int s0), o6]) (st1 := [.int (4 : Int32), .int (0 : Int32), .int i4]) (as := [.int i4, .int (0 : Int32), .int (4 : Int32)]) (rest := []) 3 rfl rfl (mw_sp rfl rfl (Nat.le_of_ble_eq_true rfl) (mw_ac rfl (mw_ac rfl (mw_ac rfl mw_an))) mw_an) rfl rfl (H.mono (fun o hp9 H => ?_))
              obtain ⟨x10, rfl, H⟩ := H
              refine mm_R.br (L' := [some ((.ref a0)), some (.int i1), some (.int i2), some (.int i3), some (.int i4), some (.int s0), o6]) (st' := []) (t := 80) (u := 78) (b := mm_cc .ne x10 (0 : Int32)) 1 rfl (fun c => ?_) (fun c => ?_)
              · replace H := H.1 (of_decide_eq_true c)
                refine mm_R.wgv (pc' := 84) (L' := [some ((.ref a0)), some (.int i1), some (.int i2), some (.int i3), some (.int i4), some (.int s0), o6]) (r := [.int ((4 : Int32) * i1)]) 4 rfl rfl (H.mono (fun v11 H => ?_))
                refine mm_R.wai (pc' := 88) (L' := [some ((.ref a0)), some (.int i1), some (.int i2), some (.int i3), some (.int i4), some (.int s0), o6]) (r := [.int ((4 : Int32) * i1)]) (t := 1000) 1 rfl rfl rfl rfl (H.mono (fun x12 H => ?_))
                refine mm_R.wgv (pc' := 93) (L' := [some ((.ref a0)), some (.int i1), some (.int i2), some (.int i3), some (.int i4), some (.int s0), some (.int (((4 : Int32) * i1) + x12))]) (r := []) 3 rfl rfl (H.mono (fun v13 H => ?_))
                refine mm_R.wsi (pc' := 99) (L' := [some ((.ref a0)), some (.int i1), some (.int i2), some (.int i3), some (.int i4), some (.int s0), some (.int (((4 : Int32) * i1) + x12))]) (r := []) (t := 1000) (ty := .int) 2 rfl rfl rfl rfl (H.mono (fun hp14 H => ?_))
                refine mm_R.wgv (pc' := 101) (L' := [some ((.ref a0)), some (.int i1), some (.int i2), some (.int i3), some (.int i4), some (.int s0), some (.int (((4 : Int32) * i1) + x12))]) (r := []) 1 rfl rfl (H.mono (fun v15 H => ?_))
                refine mm_R.wsi (pc' := 107) (L' := [some ((.ref a0)), some (.int i1), some (.int i2), some (.int i3), some (.int i4), some (.int s0), some (.int (((4 : Int32) * i1) + x12))]) (r := []) (t := 1000) (ty := .int) 2 rfl rfl rfl rfl (H.mono (fun hp16 H => ?_))
                refine mm_R.wgv (pc' := 109) (L' := [some ((.ref a0)), some (.int i1), some (.int i2), some (.int i3), some (.int i4), some (.int s0), some (.int (((4 : Int32) * i1) + x12))]) (r := []) 1 rfl rfl (H.mono (fun v17 H => ?_))
                refine mm_R.wsi (pc' := 116) (L' := [some ((.ref a0)), some (.int i1), some (.int i2), some (.int i3), some (.int i4), some (.int s0), some (.int (((4 : Int32) * i1) + x12))]) (r := []) (t := 1000) (ty := .int) 2 rfl rfl rfl rfl (H.mono (fun hp18 H => ?_))
                refine mm_R.wgv (pc' := 118) (L' := [some ((.ref a0)), some (.int i1), some (.int i2), some (.int i3), some (.int i4), some (.int s0), some (.int (((4 : Int32) * i1) + x12))]) (r := []) 1 rfl rfl (H.mono (fun v19 H => ?_))
                obtain ⟨hr20, H⟩ := H
                refine mm_R.d2 (pc' := 122) (L' := [some ((.ref a0)), some (.int i1), some (.int i2), some (.int i3), some (.int i4), some (.int s0), some (.int (((4 : Int32) * i1) + x12))]) (r := []) (v := v19) (x := i1) 1 rfl rfl hr20 ?_
                refine mm_R.wai (pc' := 123) (L' := [some ((.ref a0)), some (.int i1), some (.int i2), some (.int i3), some (.int i4), some (.int s0), some (.int (((4 : Int32) * i1) + x12))]) (r := [.int i1, v19]) (t := 1000) 0 rfl rfl rfl rfl (H.mono (fun x21 H => ?_))
                refine mm_R.wsi (pc' := 126) (L' := [some ((.ref a0)), some (.int i1), some (.int i2), some (.int i3), some (.int i4), some (.int s0), some (.int (((4 : Int32) * i1) + x12))]) (r := []) (t := 1000) (ty := .int) 2 rfl rfl rfl rfl (H.mono (fun hp22 H => ?_))
                refine mm_R.wgv (pc' := 128) (L' := [some ((.ref a0)), some (.int i1), some (.int i2), some (.int i3), some (.int i4), some (.int s0), some (.int (((4 : Int32) * i1) + x12))]) (r := []) 1 rfl rfl (H.mono (fun v23 H => ?_))
                refine mm_R.wai (pc' := 132) (L' := [some ((.ref a0)), some (.int i1), some (.int i2), some (.int i3), some (.int i4), some (.int s0), some (.int (((4 : Int32) * i1) + x12))]) (r := []) (t := 1000) 1 rfl rfl rfl rfl (H.mono (fun x24 H => ?_))
                exact mm_R.rt (pc' := 135) (L' := [some ((.ref a0)), some (.int i1), some (.int i2), some (.int i3), some (.int i4), some (.int s0), some (.int (((4 : Int32) * i1) + x12))]) (st1 := [.int (x24 - (1 : Int32))]) 2 rfl rfl rfl rfl rfl rfl H
              · replace H := H.2 (Decidable.of_not_not (of_decide_eq_false c))
                exact mm_R.rt (pc' := 79) (L' := [some ((.ref a0)), some (.int i1), some (.int i2), some (.int i3), some (.int i4), some (.int s0), o6]) (st1 := [.int (-1 : Int32)]) 1 rfl rfl rfl rfl rfl rfl H
-- StepRunnerModel.step, from 0
set_option maxRecDepth 10000 in
theorem w129_0 {X : List Int32} {d : Nat} {a0 : Nat} {i1 : Int32} {hp : mm_H} {Q : Option Value → mm_H → Prop} (H : mw_rc (.ref a0) 126 hp ∧ mm_R X d 126 0 (mm_L0 126 [(.ref a0)]) [] hp (mw_ri (fun x3 hp2 => ((x3 = (0 : Int32) → Q (some (.int (-1 : Int32))) hp2) ∧ (¬ x3 = (0 : Int32) → mw_gi 10 12 (.ref a0) hp2 (fun x4 => ((x4 = (6 : Int32) → Q (some (.int (-1 : Int32))) hp2) ∧ (¬ x4 = (6 : Int32) → ((i1 < (0 : Int32) → Q (some (.int (-1 : Int32))) hp2) ∧ (¬ i1 < (0 : Int32) → mw_gi 10 6 (.ref a0) hp2 (fun x5 => ((i1 < x5 → mw_gv 10 13 (.ref a0) hp2 (fun v6 => mw_gi 10 12 (.ref a0) hp2 (fun x7 => mw_si 1000 .int v6 x7 i1 hp2 (fun hp8 => mw_gi 10 12 (.ref a0) hp8 (fun x9 => mw_pt 10 12 (.ref a0) (.int (x9 + (1 : Int32))) hp8 (fun hp10 => mw_gi 10 12 (.ref a0) hp10 (fun x11 => Q (some (.int (x11 - (1 : Int32)))) hp10))))))) ∧ (¬ i1 < x5 → Q (some (.int (-1 : Int32))) hp2))))))))))))) : mm_R X (d + 1) 129 0 (mm_L0 129 [(.ref a0), .int i1]) [] hp Q := by
  show mm_R X (d + 1) 129 0 [some ((.ref a0)), some (.int i1)] [] hp Q
  obtain ⟨hc1, H⟩ := H
  refine mm_R.cV (pc' := 1) (L' := [some ((.ref a0)), some (.int i1)]) (st1 := [(.ref a0)]) (as := []) (rest := []) 1 rfl rfl (mw_sp rfl rfl (Nat.le_of_ble_eq_true rfl) (mw_ac rfl mw_an) mw_an) rfl rfl hc1 (H.mono (fun o hp2 H => ?_))
  obtain ⟨x3, rfl, H⟩ := H
  refine mm_R.br (L' := [some ((.ref a0)), some (.int i1)]) (st' := []) (t := 28) (u := 7) (b := mm_cc .eq x3 (0 : Int32)) 1 rfl (fun c => ?_) (fun c => ?_)
  · replace H := H.1 (of_decide_eq_true c)
    exact mm_R.rt (pc' := 29) (L' := [some ((.ref a0)), some (.int i1)]) (st1 := [.int (-1 : Int32)]) 1 rfl rfl rfl rfl rfl rfl H
  · replace H := H.2 (of_decide_eq_false c)
    refine mm_R.wgi (pc' := 8) (L' := [some ((.ref a0)), some (.int i1)]) (r := []) 1 rfl rfl (H.mono (fun x4 H => ?_))
    refine mm_R.br (L' := [some ((.ref a0)), some (.int i1)]) (st' := []) (t := 28) (u := 16) (b := mm_cc .eq x4 (6 : Int32)) 2 rfl (fun c => ?_) (fun c => ?_)
    · replace H := H.1 (of_decide_eq_true c)
      exact mm_R.rt (pc' := 29) (L' := [some ((.ref a0)), some (.int i1)]) (st1 := [.int (-1 : Int32)]) 1 rfl rfl rfl rfl rfl rfl H
    · replace H := H.2 (of_decide_eq_false c)
      refine mm_R.br (L' := [some ((.ref a0)), some (.int i1)]) (st' := []) (t := 28) (u := 20) (b := mm_cc .lt i1 (0 : Int32)) 2 rfl (fun c => ?_) (fun c => ?_)
      · replace H := H.1 (of_decide_eq_true c)
        exact mm_R.rt (pc' := 29) (L' := [some ((.ref a0)), some (.int i1)]) (st1 := [.int (-1 : Int32)]) 1 rfl rfl rfl rfl rfl rfl H
      · replace H := H.2 (of_decide_eq_false c)
        refine mm_R.wgi (pc' := 22) (L' := [some ((.ref a0)), some (.int i1)]) (r := [.int i1]) 2 rfl rfl (H.mono (fun x5 H => ?_))
        refine mm_R.br (L' := [some ((.ref a0)), some (.int i1)]) (st' := []) (t := 30) (u := 28) (b := mm_cc .lt i1 x5) 1 rfl (fun c => ?_) (fun c => ?_)
        · replace H := H.1 (of_decide_eq_true c)
          refine mm_R.wgv (pc' := 31) (L' := [some ((.ref a0)), some (.int i1)]) (r := []) 1 rfl rfl (H.mono (fun v6 H => ?_))
          refine mm_R.wgi (pc' := 35) (L' := [some ((.ref a0)), some (.int i1)]) (r := [v6]) 1 rfl rfl (H.mono (fun x7 H => ?_))
          refine mm_R.wsi (pc' := 39) (L' := [some ((.ref a0)), some (.int i1)]) (r := []) (t := 1000) (ty := .int) 1 rfl rfl rfl rfl (H.mono (fun hp8 H => ?_))
          refine mm_R.wgi (pc' := 42) (L' := [some ((.ref a0)), some (.int i1)]) (r := [(.ref a0)]) 2 rfl rfl (H.mono (fun x9 H => ?_))
          refine mm_R.wpt (pc' := 47) (L' := [some ((.ref a0)), some (.int i1)]) (r := []) 2 rfl rfl (H.mono (fun hp10 H => ?_))
          refine mm_R.wgi (pc' := 51) (L' := [some ((.ref a0)), some (.int i1)]) (r := []) 1 rfl rfl (H.mono (fun x11 H => ?_))
          exact mm_R.rt (pc' := 56) (L' := [some ((.ref a0)), some (.int i1)]) (st1 := [.int (x11 - (1 : Int32))]) 2 rfl rfl rfl rfl rfl rfl H
        · replace H := H.2 (of_decide_eq_false c)
          exact mm_R.rt (pc' := 29) (L' := [some ((.ref a0)), some (.int i1)]) (st1 := [.int (-1 : Int32)]) 1 rfl rfl rfl rfl rfl rfl H
-- StepRunnerModel.link, from 0
set_option maxRecDepth 10000 in
theorem w130_0 {X : List Int32} {d : Nat} {a0 : Nat} {i1 : Int32} {i2 : Int32} {i3 : Int32} {hp : mm_H} {Q : Option Value → mm_H → Prop} (H : mw_rc (.ref a0) 126 hp ∧ mm_R X d 126 0 (mm_L0 126 [(.ref a0)]) [] hp (mw_ri (fun x3 hp2 => ((x3 = (0 : Int32) → Q (some (.int (0 : Int32))) hp2) ∧ (¬ x3 = (0 : Int32) → mw_rc (.ref a0) 131 hp2 ∧ mm_R X d 131 0 (mm_L0 131 [(.ref a0), .int i1]) [] hp2 (mw_ri (fun x6 hp5 => ((x6 = (0 : Int32) → Q (some (.int (0 : Int32))) hp5) ∧ (¬ x6 = (0 : Int32) → mm_R X d 127 0 (mm_L0 127 [.int i2, .int (0 : Int32), .int (3 : Int32)]) [] hp5 (mw_ri (fun x8 hp7 => ((x8 = (0 : Int32) → Q (some (.int (0 : Int32))) hp7) ∧ (¬ x8 = (0 : Int32) → mw_gv 10 16 (.ref a0) hp7 (fun v9 => mw_ai 1000 v9 (((4 : Int32) * i1) + i2) hp7 (fun x10 => ((x10 = (3 : Int32) → Q (some (.int (0 : Int32))) hp7) ∧ (¬ x10 = (3 : Int32) → mm_R X d 127 0 (mm_L0 127 [.int i3, .int (0 : Int32), .int (2 : Int32)]) [] hp7 (mw_ri (fun x12 hp11 => ((¬ x12 = (0 : Int32) → mm_R X (d + 1) 130 60 [some ((.ref a0)), some (.int i1), some (.int i2), some (.int i3), none] [] hp11 Q) ∧ (x12 = (0 : Int32) → mm_R X d 127 0 (mm_L0 127 [.int i3, .int (10 : Int32), .int (15 : Int32)]) [] hp11 (mw_ri (fun x14 hp13 => ((¬ x14 = (0 : Int32) → mm_R X (d + 1) 130 60 [some ((.ref a0)), some (.int i1), some (.int i2), some (.int i3), none] [] hp13 Q) ∧ (x14 = (0 : Int32) → Q (some (.int (0 : Int32))) hp13))))))))))))))))))))))))) : mm_R X (d + 1) 130 0 (mm_L0 130 [(.ref a0), .int i1, .int i2, .int i3]) [] hp Q := by
  show mm_R X (d + 1) 130 0 [some ((.ref a0)), some (.int i1), some (.int i2), some (.int i3), none] [] hp Q
  obtain ⟨hc1, H⟩ := H
  refine mm_R.cV (pc' := 1) (L' := [some ((.ref a0)), some (.int i1), some (.int i2), some (.int i3), none]) (st1 := [(.ref a0)]) (as := []) (rest := []) 1 rfl rfl (mw_sp rfl rfl (Nat.le_of_ble_eq_true rfl) (mw_ac rfl mw_an) mw_an) rfl rfl hc1 (H.mono (fun o hp2 H => ?_))
  obtain ⟨x3, rfl, H⟩ := H
  refine mm_R.br (L' := [some ((.ref a0)), some (.int i1), some (.int i2), some (.int i3), none]) (st' := []) (t := 58) (u := 7) (b := mm_cc .eq x3 (0 : Int32)) 1 rfl (fun c => ?_) (fun c => ?_)
  · replace H := H.1 (of_decide_eq_true c)
    exact mm_R.rt (pc' := 59) (L' := [some ((.ref a0)), some (.int i1), some (.int i2), some (.int i3), none]) (st1 := [.int (0 : Int32)]) 1 rfl rfl rfl rfl rfl rfl H
  · replace H := H.2 (of_decide_eq_false c)
    obtain ⟨hc4, H⟩ := H
    refine mm_R.cV (pc' := 9) (L' := [some ((.ref a0)), some (.int i1), some (.int i2), some (.int i3), none]) (st1 := [.int i1, (.ref a0)]) (as := [.int i1]) (rest := []) 2 rfl rfl (mw_sp rfl rfl (Nat.le_of_ble_eq_true rfl) (mw_ac rfl (mw_ac rfl mw_an)) mw_an) rfl rfl hc4 (H.mono (fun o hp5 H => ?_))
    obtain ⟨x6, rfl, H⟩ := H
    refine mm_R.br (L' := [some ((.ref a0)), some (.int i1), some (.int i2), some (.int i3), none]) (st' := []) (t := 58) (u := 15) (b := mm_cc .eq x6 (0 : Int32)) 1 rfl (fun c => ?_) (fun c => ?_)
    · replace H := H.1 (of_decide_eq_true c)
      exact mm_R.rt (pc' := 59) (L' := [some ((.ref a0)), some (.int i1), some (.int i2), some (.int i3), none]) (st1 := [.int (0 : Int32)]) 1 rfl rfl rfl rfl rfl rfl H
    · replace H := H.2 (of_decide_eq_false c)
      refine mm_R.cS (pc' := 18) (L' := [some ((.ref a0)), some (.int i1), some (.int i2), some (.int i3), none]) (st1 := [.int (3 : Int32), .int (0 : Int32), .int i2]) (as := [.int i2, .int (0 : Int32), .int (3 : Int32)]) (rest := []) 3 rfl rfl (mw_sp rfl rfl (Nat.le_of_ble_eq_true rfl) (mw_ac rfl (mw_ac rfl (mw_ac rfl mw_an))) mw_an) rfl rfl (H.mono (fun o hp7 H => ?_))
      obtain ⟨x8, rfl, H⟩ := H
      refine mm_R.br (L' := [some ((.ref a0)), some (.int i1), some (.int i2), some (.int i3), none]) (st' := []) (t := 58) (u := 24) (b := mm_cc .eq x8 (0 : Int32)) 1 rfl (fun c => ?_) (fun c => ?_)
      · replace H := H.1 (of_decide_eq_true c)
        exact mm_R.rt (pc' := 59) (L' := [some ((.ref a0)), some (.int i1), some (.int i2), some (.int i3), none]) (st1 := [.int (0 : Int32)]) 1 rfl rfl rfl rfl rfl rfl H
      · replace H := H.2 (of_decide_eq_false c)
        refine mm_R.wgv (pc' := 25) (L' := [some ((.ref a0)), some (.int i1), some (.int i2), some (.int i3), none]) (r := []) 1 rfl rfl (H.mono (fun v9 H => ?_))
        refine mm_R.wai (pc' := 33) (L' := [some ((.ref a0)), some (.int i1), some (.int i2), some (.int i3), none]) (r := []) (t := 1000) 5 rfl rfl rfl rfl (H.mono (fun x10 H => ?_))
        refine mm_R.br (L' := [some ((.ref a0)), some (.int i1), some (.int i2), some (.int i3), none]) (st' := []) (t := 58) (u := 38) (b := mm_cc .eq x10 (3 : Int32)) 2 rfl (fun c => ?_) (fun c => ?_)
        · replace H := H.1 (of_decide_eq_true c)
          exact mm_R.rt (pc' := 59) (L' := [some ((.ref a0)), some (.int i1), some (.int i2), some (.int i3), none]) (st1 := [.int (0 : Int32)]) 1 rfl rfl rfl rfl rfl rfl H
        · replace H := H.2 (of_decide_eq_false c)
          refine mm_R.cS (pc' := 41) (L' := [some ((.ref a0)), some (.int i1), some (.int i2), some (.int i3), none]) (st1 := [.int (2 : Int32), .int (0 : Int32), .int i3]) (as := [.int i3, .int (0 : Int32), .int (2 : Int32)]) (rest := []) 3 rfl rfl (mw_sp rfl rfl (Nat.le_of_ble_eq_true rfl) (mw_ac rfl (mw_ac rfl (mw_ac rfl mw_an))) mw_an) rfl rfl (H.mono (fun o hp11 H => ?_))
          obtain ⟨x12, rfl, H⟩ := H
          refine mm_R.br (L' := [some ((.ref a0)), some (.int i1), some (.int i2), some (.int i3), none]) (st' := []) (t := 60) (u := 47) (b := mm_cc .ne x12 (0 : Int32)) 1 rfl (fun c => ?_) (fun c => ?_)
          · replace H := H.1 (of_decide_eq_true c)
            exact H
          · replace H := H.2 (Decidable.of_not_not (of_decide_eq_false c))
            refine mm_R.cS (pc' := 52) (L' := [some ((.ref a0)), some (.int i1), some (.int i2), some (.int i3), none]) (st1 := [.int (15 : Int32), .int (10 : Int32), .int i3]) (as := [.int i3, .int (10 : Int32), .int (15 : Int32)]) (rest := []) 3 rfl rfl (mw_sp rfl rfl (Nat.le_of_ble_eq_true rfl) (mw_ac rfl (mw_ac rfl (mw_ac rfl mw_an))) mw_an) rfl rfl (H.mono (fun o hp13 H => ?_))
            obtain ⟨x14, rfl, H⟩ := H
            refine mm_R.br (L' := [some ((.ref a0)), some (.int i1), some (.int i2), some (.int i3), none]) (st' := []) (t := 60) (u := 58) (b := mm_cc .ne x14 (0 : Int32)) 1 rfl (fun c => ?_) (fun c => ?_)
            · replace H := H.1 (of_decide_eq_true c)
              exact H
            · replace H := H.2 (Decidable.of_not_not (of_decide_eq_false c))
              exact mm_R.rt (pc' := 59) (L' := [some ((.ref a0)), some (.int i1), some (.int i2), some (.int i3), none]) (st1 := [.int (0 : Int32)]) 1 rfl rfl rfl rfl rfl rfl H
-- StepRunnerModel.link, from 60
set_option maxRecDepth 10000 in
theorem w130_60 {X : List Int32} {d : Nat} {a0 : Nat} {i1 : Int32} {i2 : Int32} {i3 : Int32} {o4 : Option Value} {hp : mm_H} {Q : Option Value → mm_H → Prop} (H : mw_gv 10 17 (.ref a0) hp (fun v1 => mw_gv 10 16 (.ref a0) hp (fun v2 => mw_ai 1000 v2 (((4 : Int32) * i1) + i2) hp (fun x3 => mw_si 1000 .int v1 (((3 : Int32) * (((4 : Int32) * i1) + i2)) + x3) i3 hp (fun hp4 => mw_gv 10 16 (.ref a0) hp4 (fun v5 => mm_isr v5 = true ∧ mw_ai 1000 v5 (((4 : Int32) * i1) + i2) hp4 (fun x7 => mw_si 1000 .int v5 (((4 : Int32) * i1) + i2) (x7 + (1 : Int32)) hp4 (fun hp8 => Q (some (.int (1 : Int32))) hp8)))))))) : mm_R X (d + 1) 130 60 [some ((.ref a0)), some (.int i1), some (.int i2), some (.int i3), o4] [] hp Q := by
  refine mm_R.wgv (pc' := 68) (L' := [some ((.ref a0)), some (.int i1), some (.int i2), some (.int i3), some (.int (((4 : Int32) * i1) + i2))]) (r := []) 7 rfl rfl (H.mono (fun v1 H => ?_))
  refine mm_R.wgv (pc' := 76) (L' := [some ((.ref a0)), some (.int i1), some (.int i2), some (.int i3), some (.int (((4 : Int32) * i1) + i2))]) (r := [.int ((3 : Int32) * (((4 : Int32) * i1) + i2)), v1]) 4 rfl rfl (H.mono (fun v2 H => ?_))
  refine mm_R.wai (pc' := 81) (L' := [some ((.ref a0)), some (.int i1), some (.int i2), some (.int i3), some (.int (((4 : Int32) * i1) + i2))]) (r := [.int ((3 : Int32) * (((4 : Int32) * i1) + i2)), v1]) (t := 1000) 1 rfl rfl rfl rfl (H.mono (fun x3 H => ?_))
  refine mm_R.wsi (pc' := 84) (L' := [some ((.ref a0)), some (.int i1), some (.int i2), some (.int i3), some (.int (((4 : Int32) * i1) + i2))]) (r := []) (t := 1000) (ty := .int) 2 rfl rfl rfl rfl (H.mono (fun hp4 H => ?_))
  refine mm_R.wgv (pc' := 86) (L' := [some ((.ref a0)), some (.int i1), some (.int i2), some (.int i3), some (.int (((4 : Int32) * i1) + i2))]) (r := []) 1 rfl rfl (H.mono (fun v5 H => ?_))
  obtain ⟨hr6, H⟩ := H
  refine mm_R.d2 (pc' := 91) (L' := [some ((.ref a0)), some (.int i1), some (.int i2), some (.int i3), some (.int (((4 : Int32) * i1) + i2))]) (r := []) (v := v5) (x := (((4 : Int32) * i1) + i2)) 1 rfl rfl hr6 ?_
  refine mm_R.wai (pc' := 92) (L' := [some ((.ref a0)), some (.int i1), some (.int i2), some (.int i3), some (.int (((4 : Int32) * i1) + i2))]) (r := [.int (((4 : Int32) * i1) + i2), v5]) (t := 1000) 0 rfl rfl rfl rfl (H.mono (fun x7 H => ?_))
  refine mm_R.wsi (pc' := 95) (L' := [some ((.ref a0)), some (.int i1), some (.int i2), some (.int i3), some (.int (((4 : Int32) * i1) + i2))]) (r := []) (t := 1000) (ty := .int) 2 rfl rfl rfl rfl (H.mono (fun hp8 H => ?_))
  exact mm_R.rt (pc' := 97) (L' := [some ((.ref a0)), some (.int i1), some (.int i2), some (.int i3), some (.int (((4 : Int32) * i1) + i2))]) (st1 := [.int (1 : Int32)]) 1 rfl rfl rfl rfl rfl rfl H
-- StepRunnerModel.isStep, from 0
set_option maxRecDepth 10000 in
theorem w131_0 {X : List Int32} {d : Nat} {a0 : Nat} {i1 : Int32} {hp : mm_H} {Q : Option Value → mm_H → Prop} (H : ((i1 < (0 : Int32) → Q (some (.int (0 : Int32))) hp) ∧ (¬ i1 < (0 : Int32) → mw_gi 10 12 (.ref a0) hp (fun x1 => ((x1 ≤ i1 → Q (some (.int (0 : Int32))) hp) ∧ (¬ x1 ≤ i1 → Q (some (.int (1 : Int32))) hp)))))) : mm_R X (d + 1) 131 0 (mm_L0 131 [(.ref a0), .int i1]) [] hp Q := by
  show mm_R X (d + 1) 131 0 [some ((.ref a0)), some (.int i1)] [] hp Q
  refine mm_R.br (L' := [some ((.ref a0)), some (.int i1)]) (st' := []) (t := 16) (u := 4) (b := mm_cc .lt i1 (0 : Int32)) 2 rfl (fun c => ?_) (fun c => ?_)
  · replace H := H.1 (of_decide_eq_true c)
    exact mm_R.rt (pc' := 17) (L' := [some ((.ref a0)), some (.int i1)]) (st1 := [.int (0 : Int32)]) 1 rfl rfl rfl rfl rfl rfl H
  · replace H := H.2 (of_decide_eq_false c)
    refine mm_R.wgi (pc' := 6) (L' := [some ((.ref a0)), some (.int i1)]) (r := [.int i1]) 2 rfl rfl (H.mono (fun x1 H => ?_))
    refine mm_R.br (L' := [some ((.ref a0)), some (.int i1)]) (st' := []) (t := 16) (u := 12) (b := mm_cc .ge i1 x1) 1 rfl (fun c => ?_) (fun c => ?_)
    · replace H := H.1 (of_decide_eq_true c)
      exact mm_R.rt (pc' := 17) (L' := [some ((.ref a0)), some (.int i1)]) (st1 := [.int (0 : Int32)]) 1 rfl rfl rfl rfl rfl rfl H
    · replace H := H.2 (of_decide_eq_false c)
      exact mm_R.rt (pc' := 17) (L' := [some ((.ref a0)), some (.int i1)]) (st1 := [.int (1 : Int32)]) 2 rfl rfl rfl rfl rfl rfl H
-- StepRunnerModel.gather, from 0
set_option maxRecDepth 10000 in
theorem w132_0 {X : List Int32} {d : Nat} {a0 : Nat} {i1 : Int32} {i2 : Int32} {i3 : Int32} {i4 : Int32} {hp : mm_H} {Q : Option Value → mm_H → Prop} (H : mw_rc (.ref a0) 126 hp ∧ mm_R X d 126 0 (mm_L0 126 [(.ref a0)]) [] hp (mw_ri (fun x3 hp2 => ((x3 = (0 : Int32) → Q (some (.int (0 : Int32))) hp2) ∧ (¬ x3 = (0 : Int32) → mw_rc (.ref a0) 131 hp2 ∧ mm_R X d 131 0 (mm_L0 131 [(.ref a0), .int i1]) [] hp2 (mw_ri (fun x6 hp5 => ((x6 = (0 : Int32) → Q (some (.int (0 : Int32))) hp5) ∧ (¬ x6 = (0 : Int32) → mm_R X d 127 0 (mm_L0 127 [.int i2, .int (0 : Int32), .int (3 : Int32)]) [] hp5 (mw_ri (fun x8 hp7 => ((x8 = (0 : Int32) → Q (some (.int (0 : Int32))) hp7) ∧ (¬ x8 = (0 : Int32) → mm_R X d 127 0 (mm_L0 127 [.int i3, .int (0 : Int32), .int (2 : Int32)]) [] hp7 (mw_ri (fun x10 hp9 => ((x10 = (0 : Int32) → Q (some (.int (0 : Int32))) hp9) ∧ (¬ x10 = (0 : Int32) → mm_R X d 127 0 (mm_L0 127 [.int i4, .int (0 : Int32), .int (3 : Int32)]) [] hp9 (mw_ri (fun x12 hp11 => ((¬ x12 = (0 : Int32) → mw_gv 10 18 (.ref a0) hp11 (fun v13 => mw_si 1000 .int v13 (((4 : Int32) * i1) + i2) i3 hp11 (fun hp14 => mw_gv 10 19 (.ref a0) hp14 (fun v15 => mw_si 1000 .int v15 (((4 : Int32) * i1) + i2) i4 hp14 (fun hp16 => Q (some (.int (1 : Int32))) hp16))))) ∧ (x12 = (0 : Int32) → Q (some (.int (0 : Int32))) hp11))))))))))))))))))))) : mm_R X (d + 1) 132 0 (mm_L0 132 [(.ref a0), .int i1, .int i2, .int i3, .int i4]) [] hp Q := by
  show mm_R X (d + 1) 132 0 [some ((.ref a0)), some (.int i1), some (.int i2), some (.int i3), some (.int i4)] [] hp Q
  obtain ⟨hc1, H⟩ := H
  refine mm_R.cV (pc' := 1) (L' := [some ((.ref a0)), some (.int i1), some (.int i2), some (.int i3), some (.int i4)]) (st1 := [(.ref a0)]) (as := []) (rest := []) 1 rfl rfl (mw_sp rfl rfl (Nat.le_of_ble_eq_true rfl) (mw_ac rfl mw_an) mw_an) rfl rfl hc1 (H.mono (fun o hp2 H => ?_))
  obtain ⟨x3, rfl, H⟩ := H
  refine mm_R.br (L' := [some ((.ref a0)), some (.int i1), some (.int i2), some (.int i3), some (.int i4)]) (st' := []) (t := 43) (u := 7) (b := mm_cc .eq x3 (0 : Int32)) 1 rfl (fun c => ?_) (fun c => ?_)
  · replace H := H.1 (of_decide_eq_true c)
    exact mm_R.rt (pc' := 44) (L' := [some ((.ref a0)), some (.int i1), some (.int i2), some (.int i3), some (.int i4)]) (st1 := [.int (0 : Int32)]) 1 rfl rfl rfl rfl rfl rfl H
  · replace H := H.2 (of_decide_eq_false c)
    obtain ⟨hc4, H⟩ := H
    refine mm_R.cV (pc' := 9) (L' := [some ((.ref a0)), some (.int i1), some (.int i2), some (.int i3), some (.int i4)]) (st1 := [.int i1, (.ref a0)]) (as := [.int i1]) (rest := []) 2 rfl rfl (mw_sp rfl rfl (Nat.le_of_ble_eq_true rfl) (mw_ac rfl (mw_ac rfl mw_an)) mw_an) rfl rfl hc4 (H.mono (fun o hp5 H => ?_))
    obtain ⟨x6, rfl, H⟩ := H
    refine mm_R.br (L' := [some ((.ref a0)), some (.int i1), some (.int i2), some (.int i3), some (.int i4)]) (st' := []) (t := 43) (u := 15) (b := mm_cc .eq x6 (0 : Int32)) 1 rfl (fun c => ?_) (fun c => ?_)
    · replace H := H.1 (of_decide_eq_true c)
      exact mm_R.rt (pc' := 44) (L' := [some ((.ref a0)), some (.int i1), some (.int i2), some (.int i3), some (.int i4)]) (st1 := [.int (0 : Int32)]) 1 rfl rfl rfl rfl rfl rfl H
    · replace H := H.2 (of_decide_eq_false c)
      refine mm_R.cS (pc' := 18) (L' := [some ((.ref a0)), some (.int i1), some (.int i2), some (.int i3), some (.int i4)]) (st1 := [.int (3 : Int32), .int (0 : Int32), .int i2]) (as := [.int i2, .int (0 : Int32), .int (3 : Int32)]) (rest := []) 3 rfl rfl (mw_sp rfl rfl (Nat.le_of_ble_eq_true rfl) (mw_ac rfl (mw_ac rfl (mw_ac rfl mw_an))) mw_an) rfl rfl (H.mono (fun o hp7 H => ?_))
      obtain ⟨x8, rfl, H⟩ := H
      refine mm_R.br (L' := [some ((.ref a0)), some (.int i1), some (.int i2), some (.int i3), some (.int i4)]) (st' := []) (t := 43) (u := 24) (b := mm_cc .eq x8 (0 : Int32)) 1 rfl (fun c => ?_) (fun c => ?_)
      · replace H := H.1 (of_decide_eq_true c)
        exact mm_R.rt (pc' := 44) (L' := [some ((.ref a0)), some (.int i1), some (.int i2), some (.int i3), some (.int i4)]) (st1 := [.int (0 : Int32)]) 1 rfl rfl rfl rfl rfl rfl H
      · replace H := H.2 (of_decide_eq_false c)
        refine mm_R.cS (pc' := 27) (L' := [some ((.ref a0)), some (.int i1), some (.int i2), some (.int i3), some (.int i4)]) (st1 := [.int (2 : Int32), .int (0 : Int32), .int i3]) (as := [.int i3, .int (0 : Int32), .int (2 : Int32)]) (rest := []) 3 rfl rfl (mw_sp rfl rfl (Nat.le_of_ble_eq_true rfl) (mw_ac rfl (mw_ac rfl (mw_ac rfl mw_an))) mw_an) rfl rfl (H.mono (fun o hp9 H => ?_))
        obtain ⟨x10, rfl, H⟩ := H
        refine mm_R.br (L' := [some ((.ref a0)), some (.int i1), some (.int i2), some (.int i3), some (.int i4)]) (st' := []) (t := 43) (u := 33) (b := mm_cc .eq x10 (0 : Int32)) 1 rfl (fun c => ?_) (fun c => ?_)
        · replace H := H.1 (of_decide_eq_true c)
          exact mm_R.rt (pc' := 44) (L' := [some ((.ref a0)), some (.int i1), some (.int i2), some (.int i3), some (.int i4)]) (st1 := [.int (0 : Int32)]) 1 rfl rfl rfl rfl rfl rfl H
        · replace H := H.2 (of_decide_eq_false c)
          refine mm_R.cS (pc' := 37) (L' := [some ((.ref a0)), some (.int i1), some (.int i2), some (.int i3), some (.int i4)]) (st1 := [.int (3 : Int32), .int (0 : Int32), .int i4]) (as := [.int i4, .int (0 : Int32), .int (3 : Int32)]) (rest := []) 3 rfl rfl (mw_sp rfl rfl (Nat.le_of_ble_eq_true rfl) (mw_ac rfl (mw_ac rfl (mw_ac rfl mw_an))) mw_an) rfl rfl (H.mono (fun o hp11 H => ?_))
          obtain ⟨x12, rfl, H⟩ := H
          refine mm_R.br (L' := [some ((.ref a0)), some (.int i1), some (.int i2), some (.int i3), some (.int i4)]) (st' := []) (t := 45) (u := 43) (b := mm_cc .ne x12 (0 : Int32)) 1 rfl (fun c => ?_) (fun c => ?_)
          · replace H := H.1 (of_decide_eq_true c)
            refine mm_R.wgv (pc' := 46) (L' := [some ((.ref a0)), some (.int i1), some (.int i2), some (.int i3), some (.int i4)]) (r := []) 1 rfl rfl (H.mono (fun v13 H => ?_))
            refine mm_R.wsi (pc' := 55) (L' := [some ((.ref a0)), some (.int i1), some (.int i2), some (.int i3), some (.int i4)]) (r := []) (t := 1000) (ty := .int) 6 rfl rfl rfl rfl (H.mono (fun hp14 H => ?_))
            refine mm_R.wgv (pc' := 57) (L' := [some ((.ref a0)), some (.int i1), some (.int i2), some (.int i3), some (.int i4)]) (r := []) 1 rfl rfl (H.mono (fun v15 H => ?_))
            refine mm_R.wsi (pc' := 67) (L' := [some ((.ref a0)), some (.int i1), some (.int i2), some (.int i3), some (.int i4)]) (r := []) (t := 1000) (ty := .int) 6 rfl rfl rfl rfl (H.mono (fun hp16 H => ?_))
            exact mm_R.rt (pc' := 69) (L' := [some ((.ref a0)), some (.int i1), some (.int i2), some (.int i3), some (.int i4)]) (st1 := [.int (1 : Int32)]) 1 rfl rfl rfl rfl rfl rfl H
          · replace H := H.2 (Decidable.of_not_not (of_decide_eq_false c))
            exact mm_R.rt (pc' := 44) (L' := [some ((.ref a0)), some (.int i1), some (.int i2), some (.int i3), some (.int i4)]) (st1 := [.int (0 : Int32)]) 1 rfl rfl rfl rfl rfl rfl H
-- StepRunnerModel.preset, from 0
set_option maxRecDepth 10000 in
theorem w133_0 {X : List Int32} {d : Nat} {a0 : Nat} {i1 : Int32} {i2 : Int32} {hp : mm_H} {Q : Option Value → mm_H → Prop} (H : mw_rc (.ref a0) 126 hp ∧ mm_R X d 126 0 (mm_L0 126 [(.ref a0)]) [] hp (mw_ri (fun x3 hp2 => ((x3 = (0 : Int32) → mm_R X (d + 1) 133 29 [some ((.ref a0)), some (.int i1), some (.int i2), none, none] [.int (0 : Int32)] hp2 Q) ∧ (¬ x3 = (0 : Int32) → mw_rc (.ref a0) 131 hp2 ∧ mm_R X d 131 0 (mm_L0 131 [(.ref a0), .int i1]) [] hp2 (mw_ri (fun x6 hp5 => ((x6 = (0 : Int32) → mm_R X (d + 1) 133 29 [some ((.ref a0)), some (.int i1), some (.int i2), none, none] [.int (0 : Int32)] hp5 Q) ∧ (¬ x6 = (0 : Int32) → mm_R X d 127 0 (mm_L0 127 [.int i2, .int (0 : Int32), .int (3 : Int32)]) [] hp5 (mw_ri (fun x8 hp7 => ((x8 = (0 : Int32) → mm_R X (d + 1) 133 29 [some ((.ref a0)), some (.int i1), some (.int i2), none, none] [.int (0 : Int32)] hp7 Q) ∧ (¬ x8 = (0 : Int32) → mm_R X (d + 1) 133 29 [some ((.ref a0)), some (.int i1), some (.int i2), none, none] [.int (1 : Int32)] hp7 Q))))))))))))) : mm_R X (d + 1) 133 0 (mm_L0 133 [(.ref a0), .int i1, .int i2]) [] hp Q := by
  show mm_R X (d + 1) 133 0 [some ((.ref a0)), some (.int i1), some (.int i2), none, none] [] hp Q
  obtain ⟨hc1, H⟩ := H
  refine mm_R.cV (pc' := 1) (L' := [some ((.ref a0)), some (.int i1), some (.int i2), none, none]) (st1 := [(.ref a0)]) (as := []) (rest := []) 1 rfl rfl (mw_sp rfl rfl (Nat.le_of_ble_eq_true rfl) (mw_ac rfl mw_an) mw_an) rfl rfl hc1 (H.mono (fun o hp2 H => ?_))
  obtain ⟨x3, rfl, H⟩ := H
  refine mm_R.br (L' := [some ((.ref a0)), some (.int i1), some (.int i2), none, none]) (st' := []) (t := 28) (u := 7) (b := mm_cc .eq x3 (0 : Int32)) 1 rfl (fun c => ?_) (fun c => ?_)
  · replace H := H.1 (of_decide_eq_true c)
    exact mm_R.pn (pc' := 29) (L' := [some ((.ref a0)), some (.int i1), some (.int i2), none, none]) (st' := [.int (0 : Int32)]) 1 rfl H
  · replace H := H.2 (of_decide_eq_false c)
    obtain ⟨hc4, H⟩ := H
    refine mm_R.cV (pc' := 9) (L' := [some ((.ref a0)), some (.int i1), some (.int i2), none, none]) (st1 := [.int i1, (.ref a0)]) (as := [.int i1]) (rest := []) 2 rfl rfl (mw_sp rfl rfl (Nat.le_of_ble_eq_true rfl) (mw_ac rfl (mw_ac rfl mw_an)) mw_an) rfl rfl hc4 (H.mono (fun o hp5 H => ?_))
    obtain ⟨x6, rfl, H⟩ := H
    refine mm_R.br (L' := [some ((.ref a0)), some (.int i1), some (.int i2), none, none]) (st' := []) (t := 28) (u := 15) (b := mm_cc .eq x6 (0 : Int32)) 1 rfl (fun c => ?_) (fun c => ?_)
    · replace H := H.1 (of_decide_eq_true c)
      exact mm_R.pn (pc' := 29) (L' := [some ((.ref a0)), some (.int i1), some (.int i2), none, none]) (st' := [.int (0 : Int32)]) 1 rfl H
    · replace H := H.2 (of_decide_eq_false c)
      refine mm_R.cS (pc' := 18) (L' := [some ((.ref a0)), some (.int i1), some (.int i2), none, none]) (st1 := [.int (3 : Int32), .int (0 : Int32), .int i2]) (as := [.int i2, .int (0 : Int32), .int (3 : Int32)]) (rest := []) 3 rfl rfl (mw_sp rfl rfl (Nat.le_of_ble_eq_true rfl) (mw_ac rfl (mw_ac rfl (mw_ac rfl mw_an))) mw_an) rfl rfl (H.mono (fun o hp7 H => ?_))
      obtain ⟨x8, rfl, H⟩ := H
      refine mm_R.br (L' := [some ((.ref a0)), some (.int i1), some (.int i2), none, none]) (st' := []) (t := 28) (u := 24) (b := mm_cc .eq x8 (0 : Int32)) 1 rfl (fun c => ?_) (fun c => ?_)
      · replace H := H.1 (of_decide_eq_true c)
        exact mm_R.pn (pc' := 29) (L' := [some ((.ref a0)), some (.int i1), some (.int i2), none, none]) (st' := [.int (0 : Int32)]) 1 rfl H
      · replace H := H.2 (of_decide_eq_false c)
        exact mm_R.pn (pc' := 29) (L' := [some ((.ref a0)), some (.int i1), some (.int i2), none, none]) (st' := [.int (1 : Int32)]) 2 rfl H
-- StepRunnerModel.preset, from 29
set_option maxRecDepth 10000 in
theorem w133_29 {X : List Int32} {d : Nat} {a0 : Nat} {i1 : Int32} {i2 : Int32} {o3 : Option Value} {o4 : Option Value} {s0 : Int32} {hp : mm_H} {Q : Option Value → mm_H → Prop} (H : ((s0 = (0 : Int32) → mm_R X (d + 1) 133 47 [some ((.ref a0)), some (.int i1), some (.int i2), some (.int s0), o4] [.int (0 : Int32), .int s0, (.ref a0)] hp Q) ∧ (¬ s0 = (0 : Int32) → mm_R X (d + 1) 133 47 [some ((.ref a0)), some (.int i1), some (.int i2), some (.int s0), o4] [.int (((3 : Int32) + ((4 : Int32) * i1)) + i2), .int s0, (.ref a0)] hp Q))) : mm_R X (d + 1) 133 29 [some ((.ref a0)), some (.int i1), some (.int i2), o3, o4] [.int s0] hp Q := by
  refine mm_R.br (L' := [some ((.ref a0)), some (.int i1), some (.int i2), some (.int s0), o4]) (st' := [.int s0, (.ref a0)]) (t := 46) (u := 36) (b := mm_cc .eq s0 (0 : Int32)) 5 rfl (fun c => ?_) (fun c => ?_)
  · replace H := H.1 (of_decide_eq_true c)
    exact mm_R.pn (pc' := 47) (L' := [some ((.ref a0)), some (.int i1), some (.int i2), some (.int s0), o4]) (st' := [.int (0 : Int32), .int s0, (.ref a0)]) 1 rfl H
  · replace H := H.2 (of_decide_eq_false c)
    exact mm_R.pn (pc' := 47) (L' := [some ((.ref a0)), some (.int i1), some (.int i2), some (.int s0), o4]) (st' := [.int (((3 : Int32) + ((4 : Int32) * i1)) + i2), .int s0, (.ref a0)]) 8 rfl H
-- StepRunnerModel.preset, from 47
set_option maxRecDepth 10000 in
theorem w133_47 {X : List Int32} {d : Nat} {a0 : Nat} {i1 : Int32} {i2 : Int32} {i3 : Int32} {o4 : Option Value} {s0 : Int32} {s1 : Int32} {hp : mm_H} {Q : Option Value → mm_H → Prop} (H : mw_rc (.ref a0) 134 hp ∧ mm_R X d 134 0 (mm_L0 134 [(.ref a0), .int s1, .int s0]) [] hp (mw_ri (fun x3 hp2 => ((x3 = (0 : Int32) → mm_fv .boolean (.int x3) = true ∧ Q (some (.int x3)) hp2) ∧ (¬ x3 = (0 : Int32) → mw_gv 10 20 (.ref a0) hp2 (fun v4 => mw_si 1002 .boolean v4 (((4 : Int32) * i1) + i2) (1 : Int32) hp2 (fun hp5 => mm_fv .boolean (.int x3) = true ∧ Q (some (.int x3)) hp5))))))) : mm_R X (d + 1) 133 47 [some ((.ref a0)), some (.int i1), some (.int i2), some (.int i3), o4] [.int s0, .int s1, (.ref a0)] hp Q := by
  obtain ⟨hc1, H⟩ := H
  refine mm_R.cV (pc' := 47) (L' := [some ((.ref a0)), some (.int i1), some (.int i2), some (.int i3), o4]) (st1 := [.int s0, .int s1, (.ref a0)]) (as := [.int s1, .int s0]) (rest := []) 0 rfl rfl (mw_sp rfl rfl (Nat.le_of_ble_eq_true rfl) (mw_ac rfl (mw_ac rfl (mw_ac rfl mw_an))) mw_an) rfl rfl hc1 (H.mono (fun o hp2 H => ?_))
  obtain ⟨x3, rfl, H⟩ := H
  refine mm_R.br (L' := [some ((.ref a0)), some (.int i1), some (.int i2), some (.int i3), some (.int x3)]) (st' := []) (t := 68) (u := 57) (b := mm_cc .eq x3 (0 : Int32)) 3 rfl (fun c => ?_) (fun c => ?_)
  · replace H := H.1 (of_decide_eq_true c)
    exact mm_R.rt (pc' := 70) (L' := [some ((.ref a0)), some (.int i1), some (.int i2), some (.int i3), some (.int x3)]) (st1 := [.int x3]) 1 rfl rfl rfl rfl rfl (mw_rvi (ty := .boolean) H.1) H.2
  · replace H := H.2 (of_decide_eq_false c)
    refine mm_R.wgv (pc' := 58) (L' := [some ((.ref a0)), some (.int i1), some (.int i2), some (.int i3), some (.int x3)]) (r := []) 1 rfl rfl (H.mono (fun v4 H => ?_))
    refine mm_R.wsi (pc' := 67) (L' := [some ((.ref a0)), some (.int i1), some (.int i2), some (.int i3), some (.int x3)]) (r := []) (t := 1002) (ty := .boolean) 6 rfl rfl rfl rfl (H.mono (fun hp5 H => ?_))
    exact mm_R.rt (pc' := 70) (L' := [some ((.ref a0)), some (.int i1), some (.int i2), some (.int i3), some (.int x3)]) (st1 := [.int x3]) 1 rfl rfl rfl rfl rfl (mw_rvi (ty := .boolean) H.1) H.2
