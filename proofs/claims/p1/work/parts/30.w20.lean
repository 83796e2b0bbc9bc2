-- StepRunnerModel.echoed, from 0
set_option maxRecDepth 10000 in
theorem w200_0 {X : List Int32} {d : Nat} {a0 : Nat} {i1 : Int32} {i2 : Int32} {hp : mm_H} {Q : Option Value → mm_H → Prop} (H : mm_R X (d + 1) 200 5 [some ((.ref a0)), some (.int i1), some (.int i2), some (.int (0 : Int32)), some (.int (0 : Int32)), none, none, none] [] hp Q) : mm_R X (d + 1) 200 0 (mm_L0 200 [(.ref a0), .int i1, .int i2]) [] hp Q := by
  show mm_R X (d + 1) 200 0 [some ((.ref a0)), some (.int i1), some (.int i2), none, none, none, none, none] [] hp Q
  exact mm_R.pn (pc' := 5) (L' := [some ((.ref a0)), some (.int i1), some (.int i2), some (.int (0 : Int32)), some (.int (0 : Int32)), none, none, none]) (st' := []) 4 rfl H
-- StepRunnerModel.echoed, from 5
set_option maxRecDepth 10000 in
theorem w200_5 {X : List Int32} {d : Nat} {a0 : Nat} {i1 : Int32} {i2 : Int32} {i3 : Int32} {i4 : Int32} {o5 : Option Value} {o6 : Option Value} {o7 : Option Value} {hp : mm_H} {Q : Option Value → mm_H → Prop} (H : mw_gv 10 32 (.ref a0) hp (fun v1 => mw_ai 1000 v1 i1 hp (fun x2 => ((x2 ≤ i4 → ((i3 ≤ (24 : Int32) → mm_R X (d + 1) 200 73 [some ((.ref a0)), some (.int i1), some (.int i2), some (.int i3), some (.int ((600 : Int32) + ((192 : Int32) * i1))), some (.int (0 : Int32)), some (.int (0 : Int32)), o7] [] hp Q) ∧ (¬ i3 ≤ (24 : Int32) → Q (some (.int (0 : Int32))) hp))) ∧ (¬ x2 ≤ i4 → mw_gv 10 33 (.ref a0) hp (fun v3 => mw_ai 1000 v3 (((8 : Int32) * i1) + i4) hp (fun x4 => ((i4 ≤ (0 : Int32) → mm_R X (d + 1) 200 5 [some ((.ref a0)), some (.int i1), some (.int i2), some (.int ((i3 + x4) + (0 : Int32))), some (.int (i4 + (1 : Int32))), o5, o6, o7] [] hp Q) ∧ (¬ i4 ≤ (0 : Int32) → mm_R X (d + 1) 200 5 [some ((.ref a0)), some (.int i1), some (.int i2), some (.int ((i3 + x4) + (1 : Int32))), some (.int (i4 + (1 : Int32))), o5, o6, o7] [] hp Q))))))))) : mm_R X (d + 1) 200 5 [some ((.ref a0)), some (.int i1), some (.int i2), some (.int i3), some (.int i4), o5, o6, o7] [] hp Q := by
  refine mm_R.wgv (pc' := 8) (L' := [some ((.ref a0)), some (.int i1), some (.int i2), some (.int i3), some (.int i4), o5, o6, o7]) (r := [.int i4]) 2 rfl rfl (H.mono (fun v1 H => ?_))
  refine mm_R.wai (pc' := 12) (L' := [some ((.ref a0)), some (.int i1), some (.int i2), some (.int i3), some (.int i4), o5, o6, o7]) (r := [.int i4]) (t := 1000) 1 rfl rfl rfl rfl (H.mono (fun x2 H => ?_))
  refine mm_R.br (L' := [some ((.ref a0)), some (.int i1), some (.int i2), some (.int i3), some (.int i4), o5, o6, o7]) (st' := []) (t := 48) (u := 16) (b := mm_cc .ge i4 x2) 1 rfl (fun c => ?_) (fun c => ?_)
  · replace H := H.1 (of_decide_eq_true c)
    refine mm_R.br (L' := [some ((.ref a0)), some (.int i1), some (.int i2), some (.int i3), some (.int i4), o5, o6, o7]) (st' := []) (t := 56) (u := 54) (b := mm_cc .le i3 (24 : Int32)) 3 rfl (fun c => ?_) (fun c => ?_)
    · replace H := H.1 (of_decide_eq_true c)
      exact mm_R.pn (pc' := 73) (L' := [some ((.ref a0)), some (.int i1), some (.int i2), some (.int i3), some (.int ((600 : Int32) + ((192 : Int32) * i1))), some (.int (0 : Int32)), some (.int (0 : Int32)), o7]) (st' := []) 10 rfl H
    · replace H := H.2 (of_decide_eq_false c)
      exact mm_R.rt (pc' := 55) (L' := [some ((.ref a0)), some (.int i1), some (.int i2), some (.int i3), some (.int i4), o5, o6, o7]) (st1 := [.int (0 : Int32)]) 1 rfl rfl rfl rfl rfl rfl H
  · replace H := H.2 (of_decide_eq_false c)
    refine mm_R.wgv (pc' := 18) (L' := [some ((.ref a0)), some (.int i1), some (.int i2), some (.int i3), some (.int i4), o5, o6, o7]) (r := [.int i3]) 2 rfl rfl (H.mono (fun v3 H => ?_))
    refine mm_R.wai (pc' := 28) (L' := [some ((.ref a0)), some (.int i1), some (.int i2), some (.int i3), some (.int i4), o5, o6, o7]) (r := [.int i3]) (t := 1000) 5 rfl rfl rfl rfl (H.mono (fun x4 H => ?_))
    refine mm_R.br (L' := [some ((.ref a0)), some (.int i1), some (.int i2), some (.int i3), some (.int i4), o5, o6, o7]) (st' := [.int (i3 + x4)]) (t := 39) (u := 35) (b := mm_cc .le i4 (0 : Int32)) 3 rfl (fun c => ?_) (fun c => ?_)
    · replace H := H.1 (of_decide_eq_true c)
      exact mm_R.pn (pc' := 5) (L' := [some ((.ref a0)), some (.int i1), some (.int i2), some (.int ((i3 + x4) + (0 : Int32))), some (.int (i4 + (1 : Int32))), o5, o6, o7]) (st' := []) 5 rfl H
    · replace H := H.2 (of_decide_eq_false c)
      exact mm_R.pn (pc' := 5) (L' := [some ((.ref a0)), some (.int i1), some (.int i2), some (.int ((i3 + x4) + (1 : Int32))), some (.int (i4 + (1 : Int32))), o5, o6, o7]) (st' := []) 6 rfl H
-- StepRunnerModel.echoed, from 73
set_option maxRecDepth 10000 in
theorem w200_73 {X : List Int32} {d : Nat} {a0 : Nat} {i1 : Int32} {i2 : Int32} {i3 : Int32} {i4 : Int32} {i5 : Int32} {i6 : Int32} {o7 : Option Value} {hp : mm_H} {Q : Option Value → mm_H → Prop} (H : mw_gv 10 32 (.ref a0) hp (fun v1 => mw_ai 1000 v1 i1 hp (fun x2 => ((x2 ≤ i6 → mw_rc (.ref a0) 139 hp ∧ mm_R X d 139 0 (mm_L0 139 [(.ref a0), .int i2, .int (0 : Int32), .int i4, .int i3]) [] hp (mw_r0 (fun hp4 => mw_rc (.ref a0) 188 hp4 ∧ mm_R X d 188 0 (mm_L0 188 [(.ref a0), .int i4, .int i3]) [] hp4 (mw_ri (fun x7 hp6 => mm_fv .boolean (.int x7) = true ∧ Q (some (.int x7)) hp6))))) ∧ (¬ x2 ≤ i6 → ((i6 ≤ (0 : Int32) → mm_R X (d + 1) 200 106 [some ((.ref a0)), some (.int i1), some (.int i2), some (.int i3), some (.int i4), some (.int i5), some (.int i6), some (.int (0 : Int32))] [] hp Q) ∧ (¬ i6 ≤ (0 : Int32) → mw_rc (.ref a0) 138 hp ∧ mm_R X d 138 0 (mm_L0 138 [(.ref a0), .int (i4 + i5), .int (32 : Int32)]) [] hp (mw_r0 (fun hp9 => mm_R X (d + 1) 200 106 [some ((.ref a0)), some (.int i1), some (.int i2), some (.int i3), some (.int i4), some (.int (i5 + (1 : Int32))), some (.int i6), some (.int (0 : Int32))] [] hp9 Q))))))))) : mm_R X (d + 1) 200 73 [some ((.ref a0)), some (.int i1), some (.int i2), some (.int i3), some (.int i4), some (.int i5), some (.int i6), o7] [] hp Q := by
  refine mm_R.wgv (pc' := 76) (L' := [some ((.ref a0)), some (.int i1), some (.int i2), some (.int i3), some (.int i4), some (.int i5), some (.int i6), o7]) (r := [.int i6]) 2 rfl rfl (H.mono (fun v1 H => ?_))
  refine mm_R.wai (pc' := 80) (L' := [some ((.ref a0)), some (.int i1), some (.int i2), some (.int i3), some (.int i4), some (.int i5), some (.int i6), o7]) (r := [.int i6]) (t := 1000) 1 rfl rfl rfl rfl (H.mono (fun x2 H => ?_))
  refine mm_R.br (L' := [some ((.ref a0)), some (.int i1), some (.int i2), some (.int i3), some (.int i4), some (.int i5), some (.int i6), o7]) (st' := []) (t := 162) (u := 84) (b := mm_cc .ge i6 x2) 1 rfl (fun c => ?_) (fun c => ?_)
  · replace H := H.1 (of_decide_eq_true c)
    obtain ⟨hc3, H⟩ := H
    refine mm_R.cV (pc' := 168) (L' := [some ((.ref a0)), some (.int i1), some (.int i2), some (.int i3), some (.int i4), some (.int i5), some (.int i6), o7]) (st1 := [.int i3, .int i4, .int (0 : Int32), .int i2, (.ref a0)]) (as := [.int i2, .int (0 : Int32), .int i4, .int i3]) (rest := []) 5 rfl rfl (mw_sp rfl rfl (Nat.le_of_ble_eq_true rfl) (mw_ac rfl (mw_ac rfl (mw_ac rfl (mw_ac rfl (mw_ac rfl mw_an))))) mw_an) rfl rfl hc3 (H.mono (fun o hp4 H => ?_))
    obtain ⟨rfl, H⟩ := H
    obtain ⟨hc5, H⟩ := H
    refine mm_R.cV (pc' := 175) (L' := [some ((.ref a0)), some (.int i1), some (.int i2), some (.int i3), some (.int i4), some (.int i5), some (.int i6), o7]) (st1 := [.int i3, .int i4, (.ref a0)]) (as := [.int i4, .int i3]) (rest := []) 3 rfl rfl (mw_sp rfl rfl (Nat.le_of_ble_eq_true rfl) (mw_ac rfl (mw_ac rfl (mw_ac rfl mw_an))) mw_an) rfl rfl hc5 (H.mono (fun o hp6 H => ?_))
    obtain ⟨x7, rfl, H⟩ := H
    exact mm_R.rt (pc' := 178) (L' := [some ((.ref a0)), some (.int i1), some (.int i2), some (.int i3), some (.int i4), some (.int i5), some (.int i6), o7]) (st1 := [.int x7]) 0 rfl rfl rfl rfl rfl (mw_rvi (ty := .boolean) H.1) H.2
  · replace H := H.2 (of_decide_eq_false c)
    refine mm_R.br (L' := [some ((.ref a0)), some (.int i1), some (.int i2), some (.int i3), some (.int i4), some (.int i5), some (.int i6), o7]) (st' := []) (t := 103) (u := 89) (b := mm_cc .le i6 (0 : Int32)) 2 rfl (fun c => ?_) (fun c => ?_)
    · replace H := H.1 (of_decide_eq_true c)
      exact mm_R.pn (pc' := 106) (L' := [some ((.ref a0)), some (.int i1), some (.int i2), some (.int i3), some (.int i4), some (.int i5), some (.int i6), some (.int (0 : Int32))]) (st' := []) 2 rfl H
    · replace H := H.2 (of_decide_eq_false c)
      obtain ⟨hc8, H⟩ := H
      refine mm_R.cV (pc' := 97) (L' := [some ((.ref a0)), some (.int i1), some (.int i2), some (.int i3), some (.int i4), some (.int i5), some (.int i6), o7]) (st1 := [.int (32 : Int32), .int (i4 + i5), (.ref a0)]) (as := [.int (i4 + i5), .int (32 : Int32)]) (rest := []) 5 rfl rfl (mw_sp rfl rfl (Nat.le_of_ble_eq_true rfl) (mw_ac rfl (mw_ac rfl (mw_ac rfl mw_an))) mw_an) rfl rfl hc8 (H.mono (fun o hp9 H => ?_))
      obtain ⟨rfl, H⟩ := H
      exact mm_R.pn (pc' := 106) (L' := [some ((.ref a0)), some (.int i1), some (.int i2), some (.int i3), some (.int i4), some (.int (i5 + (1 : Int32))), some (.int i6), some (.int (0 : Int32))]) (st' := []) 3 rfl H
-- StepRunnerModel.echoed, from 106
set_option maxRecDepth 10000 in
theorem w200_106 {X : List Int32} {d : Nat} {a0 : Nat} {i1 : Int32} {i2 : Int32} {i3 : Int32} {i4 : Int32} {i5 : Int32} {i6 : Int32} {i7 : Int32} {hp : mm_H} {Q : Option Value → mm_H → Prop} (H : mw_gv 10 33 (.ref a0) hp (fun v1 => mw_ai 1000 v1 (((8 : Int32) * i1) + i6) hp (fun x2 => ((x2 ≤ i7 → mm_R X (d + 1) 200 73 [some ((.ref a0)), some (.int i1), some (.int i2), some (.int i3), some (.int i4), some (.int i5), some (.int (i6 + (1 : Int32))), some (.int i7)] [] hp Q) ∧ (¬ x2 ≤ i7 → mw_rc (.ref a0) 154 hp ∧ mm_R X d 154 0 (mm_L0 154 [(.ref a0), .int ((i4 + ((24 : Int32) * i6)) + i7)]) [] hp (mw_ri (fun x5 hp4 => mw_rc (.ref a0) 138 hp4 ∧ mm_R X d 138 0 (mm_L0 138 [(.ref a0), .int (i4 + i5), .int x5]) [] hp4 (mw_r0 (fun hp7 => mm_R X (d + 1) 200 106 [some ((.ref a0)), some (.int i1), some (.int i2), some (.int i3), some (.int i4), some (.int (i5 + (1 : Int32))), some (.int i6), some (.int (i7 + (1 : Int32)))] [] hp7 Q))))))))) : mm_R X (d + 1) 200 106 [some ((.ref a0)), some (.int i1), some (.int i2), some (.int i3), some (.int i4), some (.int i5), some (.int i6), some (.int i7)] [] hp Q := by
  refine mm_R.wgv (pc' := 109) (L' := [some ((.ref a0)), some (.int i1), some (.int i2), some (.int i3), some (.int i4), some (.int i5), some (.int i6), some (.int i7)]) (r := [.int i7]) 2 rfl rfl (H.mono (fun v1 H => ?_))
  refine mm_R.wai (pc' := 119) (L' := [some ((.ref a0)), some (.int i1), some (.int i2), some (.int i3), some (.int i4), some (.int i5), some (.int i6), some (.int i7)]) (r := [.int i7]) (t := 1000) 5 rfl rfl rfl rfl (H.mono (fun x2 H => ?_))
  refine mm_R.br (L' := [some ((.ref a0)), some (.int i1), some (.int i2), some (.int i3), some (.int i4), some (.int i5), some (.int i6), some (.int i7)]) (st' := []) (t := 156) (u := 123) (b := mm_cc .ge i7 x2) 1 rfl (fun c => ?_) (fun c => ?_)
  · replace H := H.1 (of_decide_eq_true c)
    exact mm_R.pn (pc' := 73) (L' := [some ((.ref a0)), some (.int i1), some (.int i2), some (.int i3), some (.int i4), some (.int i5), some (.int (i6 + (1 : Int32))), some (.int i7)]) (st' := []) 2 rfl H
  · replace H := H.2 (of_decide_eq_false c)
    obtain ⟨hc3, H⟩ := H
    refine mm_R.cV (pc' := 141) (L' := [some ((.ref a0)), some (.int i1), some (.int i2), some (.int i3), some (.int i4), some (.int i5), some (.int i6), some (.int i7)]) (st1 := [.int ((i4 + ((24 : Int32) * i6)) + i7), (.ref a0), .int (i4 + i5), (.ref a0)]) (as := [.int ((i4 + ((24 : Int32) * i6)) + i7)]) (rest := [.int (i4 + i5), (.ref a0)]) 12 rfl rfl (mw_sp rfl rfl (Nat.le_of_ble_eq_true rfl) (mw_ac rfl (mw_ac rfl mw_an)) (mw_ac rfl (mw_ac rfl mw_an))) rfl rfl hc3 (H.mono (fun o hp4 H => ?_))
    obtain ⟨x5, rfl, H⟩ := H
    obtain ⟨hc6, H⟩ := H
    refine mm_R.cV (pc' := 144) (L' := [some ((.ref a0)), some (.int i1), some (.int i2), some (.int i3), some (.int i4), some (.int i5), some (.int i6), some (.int i7)]) (st1 := [.int x5, .int (i4 + i5), (.ref a0)]) (as := [.int (i4 + i5), .int x5]) (rest := []) 0 rfl rfl (mw_sp rfl rfl (Nat.le_of_ble_eq_true rfl) (mw_ac rfl (mw_ac rfl (mw_ac rfl mw_an))) mw_an) rfl rfl hc6 (H.mono (fun o hp7 H => ?_))
    obtain ⟨rfl, H⟩ := H
    exact mm_R.pn (pc' := 106) (L' := [some ((.ref a0)), some (.int i1), some (.int i2), some (.int i3), some (.int i4), some (.int (i5 + (1 : Int32))), some (.int i6), some (.int (i7 + (1 : Int32)))]) (st' := []) 3 rfl H
-- StepRunnerModel.summed, from 0
set_option maxRecDepth 10000 in
theorem w201_0 {X : List Int32} {d : Nat} {a0 : Nat} {i1 : Int32} {i2 : Int32} {hp : mm_H} {Q : Option Value → mm_H → Prop} (H : mm_R X (d + 1) 201 5 [some ((.ref a0)), some (.int i1), some (.int i2), some (.int (0 : Int32)), some (.int (0 : Int32)), none, none, none, none, none, none] [] hp Q) : mm_R X (d + 1) 201 0 (mm_L0 201 [(.ref a0), .int i1, .int i2]) [] hp Q := by
  show mm_R X (d + 1) 201 0 [some ((.ref a0)), some (.int i1), some (.int i2), none, none, none, none, none, none, none, none] [] hp Q
  exact mm_R.pn (pc' := 5) (L' := [some ((.ref a0)), some (.int i1), some (.int i2), some (.int (0 : Int32)), some (.int (0 : Int32)), none, none, none, none, none, none]) (st' := []) 4 rfl H
-- StepRunnerModel.summed, from 5
set_option maxRecDepth 10000 in
theorem w201_5 {X : List Int32} {d : Nat} {a0 : Nat} {i1 : Int32} {i2 : Int32} {i3 : Int32} {i4 : Int32} {o5 : Option Value} {o6 : Option Value} {o7 : Option Value} {o8 : Option Value} {o9 : Option Value} {o10 : Option Value} {hp : mm_H} {Q : Option Value → mm_H → Prop} (H : mw_gv 10 32 (.ref a0) hp (fun v1 => mw_ai 1000 v1 i1 hp (fun x2 => ((x2 ≤ i4 → mw_rc (.ref a0) 122 hp ∧ mm_R X d 122 0 (mm_L0 122 [(.ref a0), .int i2, .int (1 : Int32), .int (0 : Int32), .int i3]) [] hp (mw_r0 (fun hp4 => mm_R X d 127 0 (mm_L0 127 [.int i3, .int (-999999 : Int32), .int (999999 : Int32)]) [] hp4 (mw_ri (fun x6 hp5 => mm_fv .boolean (.int x6) = true ∧ Q (some (.int x6)) hp5))))) ∧ (¬ x2 ≤ i4 → mw_gv 10 33 (.ref a0) hp (fun v7 => mw_ai 1000 v7 (((8 : Int32) * i1) + i4) hp (fun x8 => ((x8 ≤ (0 : Int32) → (((0 : Int32) = (0 : Int32) → mm_R X (d + 1) 201 80 [some ((.ref a0)), some (.int i1), some (.int i2), some (.int i3), some (.int i4), some (.int (((600 : Int32) + ((192 : Int32) * i1)) + ((24 : Int32) * i4))), some (.int x8), some (.int (0 : Int32)), o8, o9, o10] [.int (0 : Int32)] hp Q) ∧ (¬ (0 : Int32) = (0 : Int32) → mm_R X (d + 1) 201 80 [some ((.ref a0)), some (.int i1), some (.int i2), some (.int i3), some (.int i4), some (.int (((600 : Int32) + ((192 : Int32) * i1)) + ((24 : Int32) * i4))), some (.int x8), some (.int (0 : Int32)), o8, o9, o10] [.int (1 : Int32)] hp Q))) ∧ (¬ x8 ≤ (0 : Int32) → mw_rc (.ref a0) 154 hp ∧ mm_R X d 154 0 (mm_L0 154 [(.ref a0), .int (((600 : Int32) + ((192 : Int32) * i1)) + ((24 : Int32) * i4))]) [] hp (mw_ri (fun x11 hp10 => ((¬ x11 = (45 : Int32) → (((0 : Int32) = (0 : Int32) → mm_R X (d + 1) 201 80 [some ((.ref a0)), some (.int i1), some (.int i2), some (.int i3), some (.int i4), some (.int (((600 : Int32) + ((192 : Int32) * i1)) + ((24 : Int32) * i4))), some (.int x8), some (.int (0 : Int32)), o8, o9, o10] [.int (0 : Int32)] hp10 Q) ∧ (¬ (0 : Int32) = (0 : Int32) → mm_R X (d + 1) 201 80 [some ((.ref a0)), some (.int i1), some (.int i2), some (.int i3), some (.int i4), some (.int (((600 : Int32) + ((192 : Int32) * i1)) + ((24 : Int32) * i4))), some (.int x8), some (.int (0 : Int32)), o8, o9, o10] [.int (1 : Int32)] hp10 Q))) ∧ (x11 = (45 : Int32) → (((1 : Int32) = (0 : Int32) → mm_R X (d + 1) 201 80 [some ((.ref a0)), some (.int i1), some (.int i2), some (.int i3), some (.int i4), some (.int (((600 : Int32) + ((192 : Int32) * i1)) + ((24 : Int32) * i4))), some (.int x8), some (.int (1 : Int32)), o8, o9, o10] [.int (0 : Int32)] hp10 Q) ∧ (¬ (1 : Int32) = (0 : Int32) → mm_R X (d + 1) 201 80 [some ((.ref a0)), some (.int i1), some (.int i2), some (.int i3), some (.int i4), some (.int (((600 : Int32) + ((192 : Int32) * i1)) + ((24 : Int32) * i4))), some (.int x8), some (.int (1 : Int32)), o8, o9, o10] [.int (1 : Int32)] hp10 Q))))))))))))))) : mm_R X (d + 1) 201 5 [some ((.ref a0)), some (.int i1), some (.int i2), some (.int i3), some (.int i4), o5, o6, o7, o8, o9, o10] [] hp Q := by
  refine mm_R.wgv (pc' := 8) (L' := [some ((.ref a0)), some (.int i1), some (.int i2), some (.int i3), some (.int i4), o5, o6, o7, o8, o9, o10]) (r := [.int i4]) 2 rfl rfl (H.mono (fun v1 H => ?_))
  refine mm_R.wai (pc' := 12) (L' := [some ((.ref a0)), some (.int i1), some (.int i2), some (.int i3), some (.int i4), o5, o6, o7, o8, o9, o10]) (r := [.int i4]) (t := 1000) 1 rfl rfl rfl rfl (H.mono (fun x2 H => ?_))
  refine mm_R.br (L' := [some ((.ref a0)), some (.int i1), some (.int i2), some (.int i3), some (.int i4), o5, o6, o7, o8, o9, o10]) (st' := []) (t := 203) (u := 16) (b := mm_cc .ge i4 x2) 1 rfl (fun c => ?_) (fun c => ?_)
  · replace H := H.1 (of_decide_eq_true c)
    obtain ⟨hc3, H⟩ := H
    refine mm_R.cV (pc' := 208) (L' := [some ((.ref a0)), some (.int i1), some (.int i2), some (.int i3), some (.int i4), o5, o6, o7, o8, o9, o10]) (st1 := [.int i3, .int (0 : Int32), .int (1 : Int32), .int i2, (.ref a0)]) (as := [.int i2, .int (1 : Int32), .int (0 : Int32), .int i3]) (rest := []) 5 rfl rfl (mw_sp rfl rfl (Nat.le_of_ble_eq_true rfl) (mw_ac rfl (mw_ac rfl (mw_ac rfl (mw_ac rfl (mw_ac rfl mw_an))))) mw_an) rfl rfl hc3 (H.mono (fun o hp4 H => ?_))
    obtain ⟨rfl, H⟩ := H
    refine mm_R.cS (pc' := 218) (L' := [some ((.ref a0)), some (.int i1), some (.int i2), some (.int i3), some (.int i4), o5, o6, o7, o8, o9, o10]) (st1 := [.int (999999 : Int32), .int (-999999 : Int32), .int i3]) (as := [.int i3, .int (-999999 : Int32), .int (999999 : Int32)]) (rest := []) 3 rfl rfl (mw_sp rfl rfl (Nat.le_of_ble_eq_true rfl) (mw_ac rfl (mw_ac rfl (mw_ac rfl mw_an))) mw_an) rfl rfl (H.mono (fun o hp5 H => ?_))
    obtain ⟨x6, rfl, H⟩ := H
    exact mm_R.rt (pc' := 221) (L' := [some ((.ref a0)), some (.int i1), some (.int i2), some (.int i3), some (.int i4), o5, o6, o7, o8, o9, o10]) (st1 := [.int x6]) 0 rfl rfl rfl rfl rfl (mw_rvi (ty := .boolean) H.1) H.2
  · replace H := H.2 (of_decide_eq_false c)
    refine mm_R.wgv (pc' := 34) (L' := [some ((.ref a0)), some (.int i1), some (.int i2), some (.int i3), some (.int i4), some (.int (((600 : Int32) + ((192 : Int32) * i1)) + ((24 : Int32) * i4))), o6, o7, o8, o9, o10]) (r := []) 11 rfl rfl (H.mono (fun v7 H => ?_))
    refine mm_R.wai (pc' := 44) (L' := [some ((.ref a0)), some (.int i1), some (.int i2), some (.int i3), some (.int i4), some (.int (((600 : Int32) + ((192 : Int32) * i1)) + ((24 : Int32) * i4))), o6, o7, o8, o9, o10]) (r := []) (t := 1000) 5 rfl rfl rfl rfl (H.mono (fun x8 H => ?_))
    refine mm_R.br (L' := [some ((.ref a0)), some (.int i1), some (.int i2), some (.int i3), some (.int i4), some (.int (((600 : Int32) + ((192 : Int32) * i1)) + ((24 : Int32) * i4))), some (.int x8), o7, o8, o9, o10]) (st' := []) (t := 67) (u := 52) (b := mm_cc .le x8 (0 : Int32)) 3 rfl (fun c => ?_) (fun c => ?_)
    · replace H := H.1 (of_decide_eq_true c)
      refine mm_R.br (L' := [some ((.ref a0)), some (.int i1), some (.int i2), some (.int i3), some (.int i4), some (.int (((600 : Int32) + ((192 : Int32) * i1)) + ((24 : Int32) * i4))), some (.int x8), some (.int (0 : Int32)), o8, o9, o10]) (st' := []) (t := 79) (u := 75) (b := mm_cc .eq (0 : Int32) (0 : Int32)) 4 rfl (fun c => ?_) (fun c => ?_)
      · replace H := H.1 (of_decide_eq_true c)
        exact mm_R.pn (pc' := 80) (L' := [some ((.ref a0)), some (.int i1), some (.int i2), some (.int i3), some (.int i4), some (.int (((600 : Int32) + ((192 : Int32) * i1)) + ((24 : Int32) * i4))), some (.int x8), some (.int (0 : Int32)), o8, o9, o10]) (st' := [.int (0 : Int32)]) 1 rfl H
      · replace H := H.2 (of_decide_eq_false c)
        exact mm_R.pn (pc' := 80) (L' := [some ((.ref a0)), some (.int i1), some (.int i2), some (.int i3), some (.int i4), some (.int (((600 : Int32) + ((192 : Int32) * i1)) + ((24 : Int32) * i4))), some (.int x8), some (.int (0 : Int32)), o8, o9, o10]) (st' := [.int (1 : Int32)]) 2 rfl H
    · replace H := H.2 (of_decide_eq_false c)
      obtain ⟨hc9, H⟩ := H
      refine mm_R.cV (pc' := 55) (L' := [some ((.ref a0)), some (.int i1), some (.int i2), some (.int i3), some (.int i4), some (.int (((600 : Int32) + ((192 : Int32) * i1)) + ((24 : Int32) * i4))), some (.int x8), o7, o8, o9, o10]) (st1 := [.int (((600 : Int32) + ((192 : Int32) * i1)) + ((24 : Int32) * i4)), (.ref a0)]) (as := [.int (((600 : Int32) + ((192 : Int32) * i1)) + ((24 : Int32) * i4))]) (rest := []) 2 rfl rfl (mw_sp rfl rfl (Nat.le_of_ble_eq_true rfl) (mw_ac rfl (mw_ac rfl mw_an)) mw_an) rfl rfl hc9 (H.mono (fun o hp10 H => ?_))
      obtain ⟨x11, rfl, H⟩ := H
      refine mm_R.br (L' := [some ((.ref a0)), some (.int i1), some (.int i2), some (.int i3), some (.int i4), some (.int (((600 : Int32) + ((192 : Int32) * i1)) + ((24 : Int32) * i4))), some (.int x8), o7, o8, o9, o10]) (st' := []) (t := 67) (u := 63) (b := mm_cc .ne x11 (45 : Int32)) 2 rfl (fun c => ?_) (fun c => ?_)
      · replace H := H.1 (of_decide_eq_true c)
        refine mm_R.br (L' := [some ((.ref a0)), some (.int i1), some (.int i2), some (.int i3), some (.int i4), some (.int (((600 : Int32) + ((192 : Int32) * i1)) + ((24 : Int32) * i4))), some (.int x8), some (.int (0 : Int32)), o8, o9, o10]) (st' := []) (t := 79) (u := 75) (b := mm_cc .eq (0 : Int32) (0 : Int32)) 4 rfl (fun c => ?_) (fun c => ?_)
        · replace H := H.1 (of_decide_eq_true c)
          exact mm_R.pn (pc' := 80) (L' := [some ((.ref a0)), some (.int i1), some (.int i2), some (.int i3), some (.int i4), some (.int (((600 : Int32) + ((192 : Int32) * i1)) + ((24 : Int32) * i4))), some (.int x8), some (.int (0 : Int32)), o8, o9, o10]) (st' := [.int (0 : Int32)]) 1 rfl H
        · replace H := H.2 (of_decide_eq_false c)
          exact mm_R.pn (pc' := 80) (L' := [some ((.ref a0)), some (.int i1), some (.int i2), some (.int i3), some (.int i4), some (.int (((600 : Int32) + ((192 : Int32) * i1)) + ((24 : Int32) * i4))), some (.int x8), some (.int (0 : Int32)), o8, o9, o10]) (st' := [.int (1 : Int32)]) 2 rfl H
      · replace H := H.2 (Decidable.of_not_not (of_decide_eq_false c))
        refine mm_R.br (L' := [some ((.ref a0)), some (.int i1), some (.int i2), some (.int i3), some (.int i4), some (.int (((600 : Int32) + ((192 : Int32) * i1)) + ((24 : Int32) * i4))), some (.int x8), some (.int (1 : Int32)), o8, o9, o10]) (st' := []) (t := 79) (u := 75) (b := mm_cc .eq (1 : Int32) (0 : Int32)) 5 rfl (fun c => ?_) (fun c => ?_)
        · replace H := H.1 (of_decide_eq_true c)
          exact mm_R.pn (pc' := 80) (L' := [some ((.ref a0)), some (.int i1), some (.int i2), some (.int i3), some (.int i4), some (.int (((600 : Int32) + ((192 : Int32) * i1)) + ((24 : Int32) * i4))), some (.int x8), some (.int (1 : Int32)), o8, o9, o10]) (st' := [.int (0 : Int32)]) 1 rfl H
        · replace H := H.2 (of_decide_eq_false c)
          exact mm_R.pn (pc' := 80) (L' := [some ((.ref a0)), some (.int i1), some (.int i2), some (.int i3), some (.int i4), some (.int (((600 : Int32) + ((192 : Int32) * i1)) + ((24 : Int32) * i4))), some (.int x8), some (.int (1 : Int32)), o8, o9, o10]) (st' := [.int (1 : Int32)]) 2 rfl H
-- StepRunnerModel.summed, from 80
set_option maxRecDepth 10000 in
theorem w201_80 {X : List Int32} {d : Nat} {a0 : Nat} {i1 : Int32} {i2 : Int32} {i3 : Int32} {i4 : Int32} {i5 : Int32} {i6 : Int32} {i7 : Int32} {o8 : Option Value} {o9 : Option Value} {o10 : Option Value} {s0 : Int32} {hp : mm_H} {Q : Option Value → mm_H → Prop} (H : (((i6 - s0) < (1 : Int32) → Q (some (.int (0 : Int32))) hp) ∧ (¬ (i6 - s0) < (1 : Int32) → (((6 : Int32) < (i6 - s0) → Q (some (.int (0 : Int32))) hp) ∧ (¬ (6 : Int32) < (i6 - s0) → mw_rc (.ref a0) 154 hp ∧ mm_R X d 154 0 (mm_L0 154 [(.ref a0), .int (i5 + s0)]) [] hp (mw_ri (fun x3 hp2 => ((¬ x3 = (48 : Int32) → mm_R X (d + 1) 201 130 [some ((.ref a0)), some (.int i1), some (.int i2), some (.int i3), some (.int i4), some (.int i5), some (.int i6), some (.int i7), some (.int s0), some (.int (0 : Int32)), some (.int s0)] [] hp2 Q) ∧ (x3 = (48 : Int32) → ((i6 ≤ (1 : Int32) → mm_R X (d + 1) 201 130 [some ((.ref a0)), some (.int i1), some (.int i2), some (.int i3), some (.int i4), some (.int i5), some (.int i6), some (.int i7), some (.int s0), some (.int (0 : Int32)), some (.int s0)] [] hp2 Q) ∧ (¬ i6 ≤ (1 : Int32) → Q (some (.int (0 : Int32))) hp2))))))))))) : mm_R X (d + 1) 201 80 [some ((.ref a0)), some (.int i1), some (.int i2), some (.int i3), some (.int i4), some (.int i5), some (.int i6), some (.int i7), o8, o9, o10] [.int s0] hp Q := by
  refine mm_R.br (L' := [some ((.ref a0)), some (.int i1), some (.int i2), some (.int i3), some (.int i4), some (.int i5), some (.int i6), some (.int i7), some (.int s0), o9, o10]) (st' := []) (t := 121) (u := 91) (b := mm_cc .lt (i6 - s0) (1 : Int32)) 6 rfl (fun c => ?_) (fun c => ?_)
  · replace H := H.1 (of_decide_eq_true c)
    exact mm_R.rt (pc' := 122) (L' := [some ((.ref a0)), some (.int i1), some (.int i2), some (.int i3), some (.int i4), some (.int i5), some (.int i6), some (.int i7), some (.int s0), o9, o10]) (st1 := [.int (0 : Int32)]) 1 rfl rfl rfl rfl rfl rfl H
  · replace H := H.2 (of_decide_eq_false c)
    refine mm_R.br (L' := [some ((.ref a0)), some (.int i1), some (.int i2), some (.int i3), some (.int i4), some (.int i5), some (.int i6), some (.int i7), some (.int s0), o9, o10]) (st' := []) (t := 121) (u := 101) (b := mm_cc .gt (i6 - s0) (6 : Int32)) 5 rfl (fun c => ?_) (fun c => ?_)
    · replace H := H.1 (of_decide_eq_true c)
      exact mm_R.rt (pc' := 122) (L' := [some ((.ref a0)), some (.int i1), some (.int i2), some (.int i3), some (.int i4), some (.int i5), some (.int i6), some (.int i7), some (.int s0), o9, o10]) (st1 := [.int (0 : Int32)]) 1 rfl rfl rfl rfl rfl rfl H
    · replace H := H.2 (of_decide_eq_false c)
      obtain ⟨hc1, H⟩ := H
      refine mm_R.cV (pc' := 107) (L' := [some ((.ref a0)), some (.int i1), some (.int i2), some (.int i3), some (.int i4), some (.int i5), some (.int i6), some (.int i7), some (.int s0), o9, o10]) (st1 := [.int (i5 + s0), (.ref a0)]) (as := [.int (i5 + s0)]) (rest := []) 4 rfl rfl (mw_sp rfl rfl (Nat.le_of_ble_eq_true rfl) (mw_ac rfl (mw_ac rfl mw_an)) mw_an) rfl rfl hc1 (H.mono (fun o hp2 H => ?_))
      obtain ⟨x3, rfl, H⟩ := H
      refine mm_R.br (L' := [some ((.ref a0)), some (.int i1), some (.int i2), some (.int i3), some (.int i4), some (.int i5), some (.int i6), some (.int i7), some (.int s0), o9, o10]) (st' := []) (t := 123) (u := 115) (b := mm_cc .ne x3 (48 : Int32)) 2 rfl (fun c => ?_) (fun c => ?_)
      · replace H := H.1 (of_decide_eq_true c)
        exact mm_R.pn (pc' := 130) (L' := [some ((.ref a0)), some (.int i1), some (.int i2), some (.int i3), some (.int i4), some (.int i5), some (.int i6), some (.int i7), some (.int s0), some (.int (0 : Int32)), some (.int s0)]) (st' := []) 4 rfl H
      · replace H := H.2 (Decidable.of_not_not (of_decide_eq_false c))
        refine mm_R.br (L' := [some ((.ref a0)), some (.int i1), some (.int i2), some (.int i3), some (.int i4), some (.int i5), some (.int i6), some (.int i7), some (.int s0), o9, o10]) (st' := []) (t := 123) (u := 121) (b := mm_cc .le i6 (1 : Int32)) 3 rfl (fun c => ?_) (fun c => ?_)
        · replace H := H.1 (of_decide_eq_true c)
          exact mm_R.pn (pc' := 130) (L' := [some ((.ref a0)), some (.int i1), some (.int i2), some (.int i3), some (.int i4), some (.int i5), some (.int i6), some (.int i7), some (.int s0), some (.int (0 : Int32)), some (.int s0)]) (st' := []) 4 rfl H
        · replace H := H.2 (of_decide_eq_false c)
          exact mm_R.rt (pc' := 122) (L' := [some ((.ref a0)), some (.int i1), some (.int i2), some (.int i3), some (.int i4), some (.int i5), some (.int i6), some (.int i7), some (.int s0), o9, o10]) (st1 := [.int (0 : Int32)]) 1 rfl rfl rfl rfl rfl rfl H
-- StepRunnerModel.summed, from 130
set_option maxRecDepth 10000 in
theorem w201_130 {X : List Int32} {d : Nat} {a0 : Nat} {i1 : Int32} {i2 : Int32} {i3 : Int32} {i4 : Int32} {i5 : Int32} {i6 : Int32} {i7 : Int32} {i8 : Int32} {i9 : Int32} {i10 : Int32} {hp : mm_H} {Q : Option Value → mm_H → Prop} (H : ((i6 ≤ i10 → ((i7 = (0 : Int32) → mm_R X (d + 1) 201 5 [some ((.ref a0)), some (.int i1), some (.int i2), some (.int (i3 + i9)), some (.int (i4 + (1 : Int32))), some (.int i5), some (.int i6), some (.int i7), some (.int i8), some (.int i9), some (.int i10)] [] hp Q) ∧ (¬ i7 = (0 : Int32) → mm_R X (d + 1) 201 5 [some ((.ref a0)), some (.int i1), some (.int i2), some (.int (i3 - i9)), some (.int (i4 + (1 : Int32))), some (.int i5), some (.int i6), some (.int i7), some (.int i8), some (.int i9), some (.int i10)] [] hp Q))) ∧ (¬ i6 ≤ i10 → mw_rc (.ref a0) 154 hp ∧ mm_R X d 154 0 (mm_L0 154 [(.ref a0), .int (i5 + i10)]) [] hp (mw_ri (fun x3 hp2 => mm_R X d 141 0 (mm_L0 141 [.int x3]) [] hp2 (mw_ri (fun x5 hp4 => ((¬ x5 = (0 : Int32) → mw_rc (.ref a0) 154 hp4 ∧ mm_R X d 154 0 (mm_L0 154 [(.ref a0), .int (i5 + i10)]) [] hp4 (mw_ri (fun x8 hp7 => mm_R X (d + 1) 201 130 [some ((.ref a0)), some (.int i1), some (.int i2), some (.int i3), some (.int i4), some (.int i5), some (.int i6), some (.int i7), some (.int i8), some (.int ((((10 : Int32) * i9) + x8) - (48 : Int32))), some (.int (i10 + (1 : Int32)))] [] hp7 Q))) ∧ (x5 = (0 : Int32) → Q (some (.int (0 : Int32))) hp4))))))))) : mm_R X (d + 1) 201 130 [some ((.ref a0)), some (.int i1), some (.int i2), some (.int i3), some (.int i4), some (.int i5), some (.int i6), some (.int i7), some (.int i8), some (.int i9), some (.int i10)] [] hp Q := by
  refine mm_R.br (L' := [some ((.ref a0)), some (.int i1), some (.int i2), some (.int i3), some (.int i4), some (.int i5), some (.int i6), some (.int i7), some (.int i8), some (.int i9), some (.int i10)]) (st' := []) (t := 180) (u := 137) (b := mm_cc .ge i10 i6) 3 rfl (fun c => ?_) (fun c => ?_)
  · replace H := H.1 (of_decide_eq_true c)
    refine mm_R.br (L' := [some ((.ref a0)), some (.int i1), some (.int i2), some (.int i3), some (.int i4), some (.int i5), some (.int i6), some (.int i7), some (.int i8), some (.int i9), some (.int i10)]) (st' := []) (t := 192) (u := 185) (b := mm_cc .eq i7 (0 : Int32)) 2 rfl (fun c => ?_) (fun c => ?_)
    · replace H := H.1 (of_decide_eq_true c)
      exact mm_R.pn (pc' := 5) (L' := [some ((.ref a0)), some (.int i1), some (.int i2), some (.int (i3 + i9)), some (.int (i4 + (1 : Int32))), some (.int i5), some (.int i6), some (.int i7), some (.int i8), some (.int i9), some (.int i10)]) (st' := []) 6 rfl H
    · replace H := H.2 (of_decide_eq_false c)
      exact mm_R.pn (pc' := 5) (L' := [some ((.ref a0)), some (.int i1), some (.int i2), some (.int (i3 - i9)), some (.int (i4 + (1 : Int32))), some (.int i5), some (.int i6), some (.int i7), some (.int i8), some (.int i9), some (.int i10)]) (st' := []) 7 rfl H
  · replace H := H.2 (of_decide_eq_false c)
    obtain ⟨hc1, H⟩ := H
    refine mm_R.cV (pc' := 143) (L' := [some ((.ref a0)), some (.int i1), some (.int i2), some (.int i3), some (.int i4), some (.int i5), some (.int i6), some (.int i7), some (.int i8), some (.int i9), some (.int i10)]) (st1 := [.int (i5 + i10), (.ref a0)]) (as := [.int (i5 + i10)]) (rest := []) 4 rfl rfl (mw_sp rfl rfl (Nat.le_of_ble_eq_true rfl) (mw_ac rfl (mw_ac rfl mw_an)) mw_an) rfl rfl hc1 (H.mono (fun o hp2 H => ?_))
    obtain ⟨x3, rfl, H⟩ := H
    refine mm_R.cS (pc' := 146) (L' := [some ((.ref a0)), some (.int i1), some (.int i2), some (.int i3), some (.int i4), some (.int i5), some (.int i6), some (.int i7), some (.int i8), some (.int i9), some (.int i10)]) (st1 := [.int x3]) (as := [.int x3]) (rest := []) 0 rfl rfl (mw_sp rfl rfl (Nat.le_of_ble_eq_true rfl) (mw_ac rfl mw_an) mw_an) rfl rfl (H.mono (fun o hp4 H => ?_))
    obtain ⟨x5, rfl, H⟩ := H
    refine mm_R.br (L' := [some ((.ref a0)), some (.int i1), some (.int i2), some (.int i3), some (.int i4), some (.int i5), some (.int i6), some (.int i7), some (.int i8), some (.int i9), some (.int i10)]) (st' := []) (t := 154) (u := 152) (b := mm_cc .ne x5 (0 : Int32)) 1 rfl (fun c => ?_) (fun c => ?_)
    · replace H := H.1 (of_decide_eq_true c)
      obtain ⟨hc6, H⟩ := H
      refine mm_R.cV (pc' := 165) (L' := [some ((.ref a0)), some (.int i1), some (.int i2), some (.int i3), some (.int i4), some (.int i5), some (.int i6), some (.int i7), some (.int i8), some (.int i9), some (.int i10)]) (st1 := [.int (i5 + i10), (.ref a0), .int ((10 : Int32) * i9)]) (as := [.int (i5 + i10)]) (rest := [.int ((10 : Int32) * i9)]) 7 rfl rfl (mw_sp rfl rfl (Nat.le_of_ble_eq_true rfl) (mw_ac rfl (mw_ac rfl mw_an)) (mw_ac rfl mw_an)) rfl rfl hc6 (H.mono (fun o hp7 H => ?_))
      obtain ⟨x8, rfl, H⟩ := H
      exact mm_R.pn (pc' := 130) (L' := [some ((.ref a0)), some (.int i1), some (.int i2), some (.int i3), some (.int i4), some (.int i5), some (.int i6), some (.int i7), some (.int i8), some (.int ((((10 : Int32) * i9) + x8) - (48 : Int32))), some (.int (i10 + (1 : Int32)))]) (st' := []) 6 rfl H
    · replace H := H.2 (Decidable.of_not_not (of_decide_eq_false c))
      exact mm_R.rt (pc' := 153) (L' := [some ((.ref a0)), some (.int i1), some (.int i2), some (.int i3), some (.int i4), some (.int i5), some (.int i6), some (.int i7), some (.int i8), some (.int i9), some (.int i10)]) (st1 := [.int (0 : Int32)]) 1 rfl rfl rfl rfl rfl rfl H
-- StepRunnerModel.status, from 0
set_option maxRecDepth 10000 in
theorem w202_0 {X : List Int32} {d : Nat} {a0 : Nat} {hp : mm_H} {Q : Option Value → mm_H → Prop} (H : mw_gi 10 23 (.ref a0) hp (fun x1 => Q (some (.int x1)) hp)) : mm_R X (d + 1) 202 0 (mm_L0 202 [(.ref a0)]) [] hp Q := by
  show mm_R X (d + 1) 202 0 [some ((.ref a0))] [] hp Q
  refine mm_R.wgi (pc' := 1) (L' := [some ((.ref a0))]) (r := []) 1 rfl rfl (H.mono (fun x1 H => ?_))
  exact mm_R.rt (pc' := 4) (L' := [some ((.ref a0))]) (st1 := [.int x1]) 0 rfl rfl rfl rfl rfl rfl H
-- StepRunnerModel.running, from 0
set_option maxRecDepth 10000 in
theorem w203_0 {X : List Int32} {d : Nat} {a0 : Nat} {hp : mm_H} {Q : Option Value → mm_H → Prop} (H : mw_gi 10 23 (.ref a0) hp (fun x1 => ((¬ x1 = (1 : Int32) → Q (some (.int (0 : Int32))) hp) ∧ (x1 = (1 : Int32) → mw_gi 10 27 (.ref a0) hp (fun x2 => Q (some (.int x2)) hp))))) : mm_R X (d + 1) 203 0 (mm_L0 203 [(.ref a0)]) [] hp Q := by
  show mm_R X (d + 1) 203 0 [some ((.ref a0))] [] hp Q
  refine mm_R.wgi (pc' := 1) (L' := [some ((.ref a0))]) (r := []) 1 rfl rfl (H.mono (fun x1 H => ?_))
  refine mm_R.br (L' := [some ((.ref a0))]) (st' := []) (t := 15) (u := 8) (b := mm_cc .ne x1 (1 : Int32)) 2 rfl (fun c => ?_) (fun c => ?_)
  · replace H := H.1 (of_decide_eq_true c)
    exact mm_R.rt (pc' := 16) (L' := [some ((.ref a0))]) (st1 := [.int (0 : Int32)]) 1 rfl rfl rfl rfl rfl rfl H
  · replace H := H.2 (Decidable.of_not_not (of_decide_eq_false c))
    refine mm_R.wgi (pc' := 9) (L' := [some ((.ref a0))]) (r := []) 1 rfl rfl (H.mono (fun x2 H => ?_))
    exact mm_R.rt (pc' := 16) (L' := [some ((.ref a0))]) (st1 := [.int x2]) 1 rfl rfl rfl rfl rfl rfl H
-- StepRunnerModel.started, from 0
set_option maxRecDepth 10000 in
theorem w204_0 {X : List Int32} {d : Nat} {a0 : Nat} {hp : mm_H} {Q : Option Value → mm_H → Prop} (H : mw_gi 10 26 (.ref a0) hp (fun x1 => Q (some (.int x1)) hp)) : mm_R X (d + 1) 204 0 (mm_L0 204 [(.ref a0)]) [] hp Q := by
  show mm_R X (d + 1) 204 0 [some ((.ref a0))] [] hp Q
  refine mm_R.wgi (pc' := 1) (L' := [some ((.ref a0))]) (r := []) 1 rfl rfl (H.mono (fun x1 H => ?_))
  exact mm_R.rt (pc' := 4) (L' := [some ((.ref a0))]) (st1 := [.int x1]) 0 rfl rfl rfl rfl rfl rfl H
-- StepRunnerModel.job, from 0
set_option maxRecDepth 10000 in
theorem w205_0 {X : List Int32} {d : Nat} {a0 : Nat} {i1 : Int32} {i2 : Int32} {hp : mm_H} {Q : Option Value → mm_H → Prop} (H : ((i1 < (0 : Int32) → Q (some (.int (-1 : Int32))) hp) ∧ (¬ i1 < (0 : Int32) → mw_gi 10 27 (.ref a0) hp (fun x1 => ((x1 ≤ i1 → Q (some (.int (-1 : Int32))) hp) ∧ (¬ x1 ≤ i1 → ((i2 < (0 : Int32) → Q (some (.int (-1 : Int32))) hp) ∧ (¬ i2 < (0 : Int32) → ((i2 ≤ (2 : Int32) → ((¬ i2 = (0 : Int32) → ((¬ i2 = (1 : Int32) → mw_gv 10 32 (.ref a0) hp (fun v2 => mw_gv 10 34 (.ref a0) hp (fun v3 => mw_ai 1000 v3 i1 hp (fun x4 => mw_ai 1000 v2 x4 hp (fun x5 => Q (some (.int x5)) hp))))) ∧ (i2 = (1 : Int32) → mw_gv 10 34 (.ref a0) hp (fun v6 => mw_ai 1000 v6 i1 hp (fun x7 => Q (some (.int (x7 - x7 / (16 : Int32) * (16 : Int32)))) hp))))) ∧ (i2 = (0 : Int32) → mw_gv 10 34 (.ref a0) hp (fun v8 => mw_ai 1000 v8 i1 hp (fun x9 => Q (some (.int (x9 / (16 : Int32)))) hp))))) ∧ (¬ i2 ≤ (2 : Int32) → Q (some (.int (-1 : Int32))) hp)))))))))) : mm_R X (d + 1) 205 0 (mm_L0 205 [(.ref a0), .int i1, .int i2]) [] hp Q := by
  show mm_R X (d + 1) 205 0 [some ((.ref a0)), some (.int i1), some (.int i2)] [] hp Q
  refine mm_R.br (L' := [some ((.ref a0)), some (.int i1), some (.int i2)]) (st' := []) (t := 21) (u := 4) (b := mm_cc .lt i1 (0 : Int32)) 2 rfl (fun c => ?_) (fun c => ?_)
  · replace H := H.1 (of_decide_eq_true c)
    exact mm_R.rt (pc' := 22) (L' := [some ((.ref a0)), some (.int i1), some (.int i2)]) (st1 := [.int (-1 : Int32)]) 1 rfl rfl rfl rfl rfl rfl H
  · replace H := H.2 (of_decide_eq_false c)
    refine mm_R.wgi (pc' := 6) (L' := [some ((.ref a0)), some (.int i1), some (.int i2)]) (r := [.int i1]) 2 rfl rfl (H.mono (fun x1 H => ?_))
    refine mm_R.br (L' := [some ((.ref a0)), some (.int i1), some (.int i2)]) (st' := []) (t := 21) (u := 12) (b := mm_cc .ge i1 x1) 1 rfl (fun c => ?_) (fun c => ?_)
    · replace H := H.1 (of_decide_eq_true c)
      exact mm_R.rt (pc' := 22) (L' := [some ((.ref a0)), some (.int i1), some (.int i2)]) (st1 := [.int (-1 : Int32)]) 1 rfl rfl rfl rfl rfl rfl H
    · replace H := H.2 (of_decide_eq_false c)
      refine mm_R.br (L' := [some ((.ref a0)), some (.int i1), some (.int i2)]) (st' := []) (t := 21) (u := 16) (b := mm_cc .lt i2 (0 : Int32)) 2 rfl (fun c => ?_) (fun c => ?_)
      · replace H := H.1 (of_decide_eq_true c)
        exact mm_R.rt (pc' := 22) (L' := [some ((.ref a0)), some (.int i1), some (.int i2)]) (st1 := [.int (-1 : Int32)]) 1 rfl rfl rfl rfl rfl rfl H
      · replace H := H.2 (of_decide_eq_false c)
        refine mm_R.br (L' := [some ((.ref a0)), some (.int i1), some (.int i2)]) (st' := []) (t := 23) (u := 21) (b := mm_cc .le i2 (2 : Int32)) 3 rfl (fun c => ?_) (fun c => ?_)
        · replace H := H.1 (of_decide_eq_true c)
          refine mm_R.br (L' := [some ((.ref a0)), some (.int i1), some (.int i2)]) (st' := []) (t := 39) (u := 27) (b := mm_cc .ne i2 (0 : Int32)) 2 rfl (fun c => ?_) (fun c => ?_)
          · replace H := H.1 (of_decide_eq_true c)
            refine mm_R.br (L' := [some ((.ref a0)), some (.int i1), some (.int i2)]) (st' := []) (t := 56) (u := 44) (b := mm_cc .ne i2 (1 : Int32)) 3 rfl (fun c => ?_) (fun c => ?_)
            · replace H := H.1 (of_decide_eq_true c)
              refine mm_R.wgv (pc' := 57) (L' := [some ((.ref a0)), some (.int i1), some (.int i2)]) (r := []) 1 rfl rfl (H.mono (fun v2 H => ?_))
              refine mm_R.wgv (pc' := 61) (L' := [some ((.ref a0)), some (.int i1), some (.int i2)]) (r := [v2]) 1 rfl rfl (H.mono (fun v3 H => ?_))
              refine mm_R.wai (pc' := 65) (L' := [some ((.ref a0)), some (.int i1), some (.int i2)]) (r := [v2]) (t := 1000) 1 rfl rfl rfl rfl (H.mono (fun x4 H => ?_))
              refine mm_R.wai (pc' := 66) (L' := [some ((.ref a0)), some (.int i1), some (.int i2)]) (r := []) (t := 1000) 0 rfl rfl rfl rfl (H.mono (fun x5 H => ?_))
              exact mm_R.rt (pc' := 67) (L' := [some ((.ref a0)), some (.int i1), some (.int i2)]) (st1 := [.int x5]) 0 rfl rfl rfl rfl rfl rfl H
            · replace H := H.2 (Decidable.of_not_not (of_decide_eq_false c))
              refine mm_R.wgv (pc' := 45) (L' := [some ((.ref a0)), some (.int i1), some (.int i2)]) (r := []) 1 rfl rfl (H.mono (fun v6 H => ?_))
              refine mm_R.wai (pc' := 49) (L' := [some ((.ref a0)), some (.int i1), some (.int i2)]) (r := []) (t := 1000) 1 rfl rfl rfl rfl (H.mono (fun x7 H => ?_))
              exact mm_R.rt (pc' := 67) (L' := [some ((.ref a0)), some (.int i1), some (.int i2)]) (st1 := [.int (x7 - x7 / (16 : Int32) * (16 : Int32))]) 3 rfl rfl rfl rfl rfl rfl H
          · replace H := H.2 (Decidable.of_not_not (of_decide_eq_false c))
            refine mm_R.wgv (pc' := 28) (L' := [some ((.ref a0)), some (.int i1), some (.int i2)]) (r := []) 1 rfl rfl (H.mono (fun v8 H => ?_))
            refine mm_R.wai (pc' := 32) (L' := [some ((.ref a0)), some (.int i1), some (.int i2)]) (r := []) (t := 1000) 1 rfl rfl rfl rfl (H.mono (fun x9 H => ?_))
            exact mm_R.rt (pc' := 67) (L' := [some ((.ref a0)), some (.int i1), some (.int i2)]) (st1 := [.int (x9 / (16 : Int32))]) 3 rfl rfl rfl rfl rfl rfl H
        · replace H := H.2 (of_decide_eq_false c)
          exact mm_R.rt (pc' := 22) (L' := [some ((.ref a0)), some (.int i1), some (.int i2)]) (st1 := [.int (-1 : Int32)]) 1 rfl rfl rfl rfl rfl rfl H
-- StepRunnerModel.word, from 0
set_option maxRecDepth 10000 in
theorem w206_0 {X : List Int32} {d : Nat} {a0 : Nat} {i1 : Int32} {i2 : Int32} {i3 : Int32} {hp : mm_H} {Q : Option Value → mm_H → Prop} (H : ((i1 < (0 : Int32) → Q (some (.int (-1 : Int32))) hp) ∧ (¬ i1 < (0 : Int32) → mw_gi 10 27 (.ref a0) hp (fun x1 => ((x1 ≤ i1 → Q (some (.int (-1 : Int32))) hp) ∧ (¬ x1 ≤ i1 → ((i2 < (0 : Int32) → Q (some (.int (-1 : Int32))) hp) ∧ (¬ i2 < (0 : Int32) → mw_gv 10 32 (.ref a0) hp (fun v2 => mw_gv 10 34 (.ref a0) hp (fun v3 => mw_ai 1000 v3 i1 hp (fun x4 => mw_ai 1000 v2 x4 hp (fun x5 => ((x5 ≤ i2 → Q (some (.int (-1 : Int32))) hp) ∧ (¬ x5 ≤ i2 → ((i3 < (0 : Int32) → Q (some (.int (-1 : Int32))) hp) ∧ (¬ i3 < (0 : Int32) → mw_gv 10 33 (.ref a0) hp (fun v6 => mw_gv 10 34 (.ref a0) hp (fun v7 => mw_ai 1000 v7 i1 hp (fun x8 => mw_ai 1000 v6 (((8 : Int32) * x8) + i2) hp (fun x9 => ((i3 < x9 → mw_gv 10 34 (.ref a0) hp (fun v10 => mw_ai 1000 v10 i1 hp (fun x11 => mw_rc (.ref a0) 154 hp ∧ mm_R X d 154 0 (mm_L0 154 [(.ref a0), .int ((((600 : Int32) + ((192 : Int32) * x11)) + ((24 : Int32) * i2)) + i3)]) [] hp (mw_ri (fun x14 hp13 => Q (some (.int x14)) hp13))))) ∧ (¬ i3 < x9 → Q (some (.int (-1 : Int32))) hp)))))))))))))))))))))) : mm_R X (d + 1) 206 0 (mm_L0 206 [(.ref a0), .int i1, .int i2, .int i3]) [] hp Q := by
  show mm_R X (d + 1) 206 0 [some ((.ref a0)), some (.int i1), some (.int i2), some (.int i3)] [] hp Q
  refine mm_R.br (L' := [some ((.ref a0)), some (.int i1), some (.int i2), some (.int i3)]) (st' := []) (t := 55) (u := 4) (b := mm_cc .lt i1 (0 : Int32)) 2 rfl (fun c => ?_) (fun c => ?_)
  · replace H := H.1 (of_decide_eq_true c)
    exact mm_R.rt (pc' := 56) (L' := [some ((.ref a0)), some (.int i1), some (.int i2), some (.int i3)]) (st1 := [.int (-1 : Int32)]) 1 rfl rfl rfl rfl rfl rfl H
  · replace H := H.2 (of_decide_eq_false c)
    refine mm_R.wgi (pc' := 6) (L' := [some ((.ref a0)), some (.int i1), some (.int i2), some (.int i3)]) (r := [.int i1]) 2 rfl rfl (H.mono (fun x1 H => ?_))
    refine mm_R.br (L' := [some ((.ref a0)), some (.int i1), some (.int i2), some (.int i3)]) (st' := []) (t := 55) (u := 12) (b := mm_cc .ge i1 x1) 1 rfl (fun c => ?_) (fun c => ?_)
    · replace H := H.1 (of_decide_eq_true c)
      exact mm_R.rt (pc' := 56) (L' := [some ((.ref a0)), some (.int i1), some (.int i2), some (.int i3)]) (st1 := [.int (-1 : Int32)]) 1 rfl rfl rfl rfl rfl rfl H
    · replace H := H.2 (of_decide_eq_false c)
      refine mm_R.br (L' := [some ((.ref a0)), some (.int i1), some (.int i2), some (.int i3)]) (st' := []) (t := 55) (u := 16) (b := mm_cc .lt i2 (0 : Int32)) 2 rfl (fun c => ?_) (fun c => ?_)
      · replace H := H.1 (of_decide_eq_true c)
        exact mm_R.rt (pc' := 56) (L' := [some ((.ref a0)), some (.int i1), some (.int i2), some (.int i3)]) (st1 := [.int (-1 : Int32)]) 1 rfl rfl rfl rfl rfl rfl H
      · replace H := H.2 (of_decide_eq_false c)
        refine mm_R.wgv (pc' := 18) (L' := [some ((.ref a0)), some (.int i1), some (.int i2), some (.int i3)]) (r := [.int i2]) 2 rfl rfl (H.mono (fun v2 H => ?_))
        refine mm_R.wgv (pc' := 22) (L' := [some ((.ref a0)), some (.int i1), some (.int i2), some (.int i3)]) (r := [v2, .int i2]) 1 rfl rfl (H.mono (fun v3 H => ?_))
        refine mm_R.wai (pc' := 26) (L' := [some ((.ref a0)), some (.int i1), some (.int i2), some (.int i3)]) (r := [v2, .int i2]) (t := 1000) 1 rfl rfl rfl rfl (H.mono (fun x4 H => ?_))
        refine mm_R.wai (pc' := 27) (L' := [some ((.ref a0)), some (.int i1), some (.int i2), some (.int i3)]) (r := [.int i2]) (t := 1000) 0 rfl rfl rfl rfl (H.mono (fun x5 H => ?_))
        refine mm_R.br (L' := [some ((.ref a0)), some (.int i1), some (.int i2), some (.int i3)]) (st' := []) (t := 55) (u := 31) (b := mm_cc .ge i2 x5) 1 rfl (fun c => ?_) (fun c => ?_)
        · replace H := H.1 (of_decide_eq_true c)
          exact mm_R.rt (pc' := 56) (L' := [some ((.ref a0)), some (.int i1), some (.int i2), some (.int i3)]) (st1 := [.int (-1 : Int32)]) 1 rfl rfl rfl rfl rfl rfl H
        · replace H := H.2 (of_decide_eq_false c)
          refine mm_R.br (L' := [some ((.ref a0)), some (.int i1), some (.int i2), some (.int i3)]) (st' := []) (t := 55) (u := 35) (b := mm_cc .lt i3 (0 : Int32)) 2 rfl (fun c => ?_) (fun c => ?_)
          · replace H := H.1 (of_decide_eq_true c)
            exact mm_R.rt (pc' := 56) (L' := [some ((.ref a0)), some (.int i1), some (.int i2), some (.int i3)]) (st1 := [.int (-1 : Int32)]) 1 rfl rfl rfl rfl rfl rfl H
          · replace H := H.2 (of_decide_eq_false c)
            refine mm_R.wgv (pc' := 37) (L' := [some ((.ref a0)), some (.int i1), some (.int i2), some (.int i3)]) (r := [.int i3]) 2 rfl rfl (H.mono (fun v6 H => ?_))
            refine mm_R.wgv (pc' := 43) (L' := [some ((.ref a0)), some (.int i1), some (.int i2), some (.int i3)]) (r := [.int (8 : Int32), v6, .int i3]) 2 rfl rfl (H.mono (fun v7 H => ?_))
            refine mm_R.wai (pc' := 47) (L' := [some ((.ref a0)), some (.int i1), some (.int i2), some (.int i3)]) (r := [.int (8 : Int32), v6, .int i3]) (t := 1000) 1 rfl rfl rfl rfl (H.mono (fun x8 H => ?_))
            refine mm_R.wai (pc' := 51) (L' := [some ((.ref a0)), some (.int i1), some (.int i2), some (.int i3)]) (r := [.int i3]) (t := 1000) 3 rfl rfl rfl rfl (H.mono (fun x9 H => ?_))
            refine mm_R.br (L' := [some ((.ref a0)), some (.int i1), some (.int i2), some (.int i3)]) (st' := []) (t := 57) (u := 55) (b := mm_cc .lt i3 x9) 1 rfl (fun c => ?_) (fun c => ?_)
            · replace H := H.1 (of_decide_eq_true c)
              refine mm_R.wgv (pc' := 65) (L' := [some ((.ref a0)), some (.int i1), some (.int i2), some (.int i3)]) (r := [.int (192 : Int32), .int (600 : Int32), (.ref a0)]) 4 rfl rfl (H.mono (fun v10 H => ?_))
              refine mm_R.wai (pc' := 69) (L' := [some ((.ref a0)), some (.int i1), some (.int i2), some (.int i3)]) (r := [.int (192 : Int32), .int (600 : Int32), (.ref a0)]) (t := 1000) 1 rfl rfl rfl rfl (H.mono (fun x11 H => ?_))
              obtain ⟨hc12, H⟩ := H
              refine mm_R.cV (pc' := 79) (L' := [some ((.ref a0)), some (.int i1), some (.int i2), some (.int i3)]) (st1 := [.int ((((600 : Int32) + ((192 : Int32) * x11)) + ((24 : Int32) * i2)) + i3), (.ref a0)]) (as := [.int ((((600 : Int32) + ((192 : Int32) * x11)) + ((24 : Int32) * i2)) + i3)]) (rest := []) 8 rfl rfl (mw_sp rfl rfl (Nat.le_of_ble_eq_true rfl) (mw_ac rfl (mw_ac rfl mw_an)) mw_an) rfl rfl hc12 (H.mono (fun o hp13 H => ?_))
              obtain ⟨x14, rfl, H⟩ := H
              exact mm_R.rt (pc' := 82) (L' := [some ((.ref a0)), some (.int i1), some (.int i2), some (.int i3)]) (st1 := [.int x14]) 0 rfl rfl rfl rfl rfl rfl H
            · replace H := H.2 (of_decide_eq_false c)
              exact mm_R.rt (pc' := 56) (L' := [some ((.ref a0)), some (.int i1), some (.int i2), some (.int i3)]) (st1 := [.int (-1 : Int32)]) 1 rfl rfl rfl rfl rfl rfl H
-- StepRunnerModel.state, from 0
set_option maxRecDepth 10000 in
theorem w207_0 {X : List Int32} {d : Nat} {a0 : Nat} {i1 : Int32} {hp : mm_H} {Q : Option Value → mm_H → Prop} (H : mw_gi 10 23 (.ref a0) hp (fun x1 => ((x1 = (0 : Int32) → Q (some (.int (-1 : Int32))) hp) ∧ (¬ x1 = (0 : Int32) → mw_rc (.ref a0) 131 hp ∧ mm_R X d 131 0 (mm_L0 131 [(.ref a0), .int i1]) [] hp (mw_ri (fun x4 hp3 => ((¬ x4 = (0 : Int32) → mw_gi 10 25 (.ref a0) hp3 (fun x5 => ((x5 ≤ i1 → Q (some (.int (0 : Int32))) hp3) ∧ (¬ x5 ≤ i1 → mw_gv 10 29 (.ref a0) hp3 (fun v6 => mw_ai 1000 v6 i1 hp3 (fun x7 => Q (some (.int x7)) hp3)))))) ∧ (x4 = (0 : Int32) → Q (some (.int (-1 : Int32))) hp3)))))))) : mm_R X (d + 1) 207 0 (mm_L0 207 [(.ref a0), .int i1]) [] hp Q := by
  show mm_R X (d + 1) 207 0 [some ((.ref a0)), some (.int i1)] [] hp Q
  refine mm_R.wgi (pc' := 1) (L' := [some ((.ref a0)), some (.int i1)]) (r := []) 1 rfl rfl (H.mono (fun x1 H => ?_))
  refine mm_R.br (L' := [some ((.ref a0)), some (.int i1)]) (st' := []) (t := 15) (u := 7) (b := mm_cc .eq x1 (0 : Int32)) 1 rfl (fun c => ?_) (fun c => ?_)
  · replace H := H.1 (of_decide_eq_true c)
    exact mm_R.rt (pc' := 37) (L' := [some ((.ref a0)), some (.int i1)]) (st1 := [.int (-1 : Int32)]) 2 rfl rfl rfl rfl rfl rfl H
  · replace H := H.2 (of_decide_eq_false c)
    obtain ⟨hc2, H⟩ := H
    refine mm_R.cV (pc' := 9) (L' := [some ((.ref a0)), some (.int i1)]) (st1 := [.int i1, (.ref a0)]) (as := [.int i1]) (rest := []) 2 rfl rfl (mw_sp rfl rfl (Nat.le_of_ble_eq_true rfl) (mw_ac rfl (mw_ac rfl mw_an)) mw_an) rfl rfl hc2 (H.mono (fun o hp3 H => ?_))
    obtain ⟨x4, rfl, H⟩ := H
    refine mm_R.br (L' := [some ((.ref a0)), some (.int i1)]) (st' := []) (t := 19) (u := 15) (b := mm_cc .ne x4 (0 : Int32)) 1 rfl (fun c => ?_) (fun c => ?_)
    · replace H := H.1 (of_decide_eq_true c)
      refine mm_R.wgi (pc' := 21) (L' := [some ((.ref a0)), some (.int i1)]) (r := [.int i1]) 2 rfl rfl (H.mono (fun x5 H => ?_))
      refine mm_R.br (L' := [some ((.ref a0)), some (.int i1)]) (st' := []) (t := 36) (u := 27) (b := mm_cc .ge i1 x5) 1 rfl (fun c => ?_) (fun c => ?_)
      · replace H := H.1 (of_decide_eq_true c)
        exact mm_R.rt (pc' := 37) (L' := [some ((.ref a0)), some (.int i1)]) (st1 := [.int (0 : Int32)]) 1 rfl rfl rfl rfl rfl rfl H
      · replace H := H.2 (of_decide_eq_false c)
        refine mm_R.wgv (pc' := 28) (L' := [some ((.ref a0)), some (.int i1)]) (r := []) 1 rfl rfl (H.mono (fun v6 H => ?_))
        refine mm_R.wai (pc' := 32) (L' := [some ((.ref a0)), some (.int i1)]) (r := []) (t := 1000) 1 rfl rfl rfl rfl (H.mono (fun x7 H => ?_))
        exact mm_R.rt (pc' := 37) (L' := [some ((.ref a0)), some (.int i1)]) (st1 := [.int x7]) 1 rfl rfl rfl rfl rfl rfl H
    · replace H := H.2 (Decidable.of_not_not (of_decide_eq_false c))
      exact mm_R.rt (pc' := 37) (L' := [some ((.ref a0)), some (.int i1)]) (st1 := [.int (-1 : Int32)]) 2 rfl rfl rfl rfl rfl rfl H
-- StepRunnerModel.output, from 0
set_option maxRecDepth 10000 in
theorem w208_0 {X : List Int32} {d : Nat} {a0 : Nat} {i1 : Int32} {i2 : Int32} {hp : mm_H} {Q : Option Value → mm_H → Prop} (H : mw_rc (.ref a0) 207 hp ∧ mm_R X d 207 0 (mm_L0 207 [(.ref a0), .int i1]) [] hp (mw_ri (fun x3 hp2 => ((¬ x3 = (2 : Int32) → Q (some (.int (-1 : Int32))) hp2) ∧ (x3 = (2 : Int32) → (((0 : Int32) ≤ i2 → mw_pt 10 44 (.ref a0) (.int (1 : Int32)) hp2 (fun hp4 => mw_pt 10 40 (.ref a0) (.int (0 : Int32)) hp4 (fun hp5 => mw_pt 10 41 (.ref a0) (.int i2) hp5 (fun hp6 => mw_pt 10 42 (.ref a0) (.int (-1 : Int32)) hp6 (fun hp7 => mw_pt 10 43 (.ref a0) (.int (1 : Int32)) hp7 (fun hp8 => mm_R X d 123 0 (mm_L0 123 [.int ((123 : Int32) + i1)]) [] hp8 (mw_ri (fun x10 hp9 => mw_rc (.ref a0) 143 hp9 ∧ mm_R X d 143 0 (mm_L0 143 [(.ref a0), .int ((123 : Int32) + i1)]) [] hp9 (mw_ri (fun x13 hp12 => mw_rc (.ref a0) 185 hp12 ∧ mm_R X d 185 0 (mm_L0 185 [(.ref a0), .int x10, .int x13]) [] hp12 (mw_r0 (fun hp15 => mw_pt 10 44 (.ref a0) (.int (0 : Int32)) hp15 (fun hp16 => mw_gi 10 42 (.ref a0) hp16 (fun x17 => Q (some (.int x17)) hp16)))))))))))))) ∧ (¬ (0 : Int32) ≤ i2 → Q (some (.int (-1 : Int32))) hp2))))))) : mm_R X (d + 1) 208 0 (mm_L0 208 [(.ref a0), .int i1, .int i2]) [] hp Q := by
  show mm_R X (d + 1) 208 0 [some ((.ref a0)), some (.int i1), some (.int i2)] [] hp Q
  obtain ⟨hc1, H⟩ := H
  refine mm_R.cV (pc' := 2) (L' := [some ((.ref a0)), some (.int i1), some (.int i2)]) (st1 := [.int i1, (.ref a0)]) (as := [.int i1]) (rest := []) 2 rfl rfl (mw_sp rfl rfl (Nat.le_of_ble_eq_true rfl) (mw_ac rfl (mw_ac rfl mw_an)) mw_an) rfl rfl hc1 (H.mono (fun o hp2 H => ?_))
  obtain ⟨x3, rfl, H⟩ := H
  refine mm_R.br (L' := [some ((.ref a0)), some (.int i1), some (.int i2)]) (st' := []) (t := 13) (u := 9) (b := mm_cc .ne x3 (2 : Int32)) 2 rfl (fun c => ?_) (fun c => ?_)
  · replace H := H.1 (of_decide_eq_true c)
    exact mm_R.rt (pc' := 14) (L' := [some ((.ref a0)), some (.int i1), some (.int i2)]) (st1 := [.int (-1 : Int32)]) 1 rfl rfl rfl rfl rfl rfl H
  · replace H := H.2 (Decidable.of_not_not (of_decide_eq_false c))
    refine mm_R.br (L' := [some ((.ref a0)), some (.int i1), some (.int i2)]) (st' := []) (t := 15) (u := 13) (b := mm_cc .ge i2 (0 : Int32)) 2 rfl (fun c => ?_) (fun c => ?_)
    · replace H := H.1 (of_decide_eq_true c)
      refine mm_R.wpt (pc' := 17) (L' := [some ((.ref a0)), some (.int i1), some (.int i2)]) (r := []) 2 rfl rfl (H.mono (fun hp4 H => ?_))
      refine mm_R.wpt (pc' := 22) (L' := [some ((.ref a0)), some (.int i1), some (.int i2)]) (r := []) 2 rfl rfl (H.mono (fun hp5 H => ?_))
      refine mm_R.wpt (pc' := 27) (L' := [some ((.ref a0)), some (.int i1), some (.int i2)]) (r := []) 2 rfl rfl (H.mono (fun hp6 H => ?_))
      refine mm_R.wpt (pc' := 32) (L' := [some ((.ref a0)), some (.int i1), some (.int i2)]) (r := []) 2 rfl rfl (H.mono (fun hp7 H => ?_))
      refine mm_R.wpt (pc' := 37) (L' := [some ((.ref a0)), some (.int i1), some (.int i2)]) (r := []) 2 rfl rfl (H.mono (fun hp8 H => ?_))
      refine mm_R.cS (pc' := 45) (L' := [some ((.ref a0)), some (.int i1), some (.int i2)]) (st1 := [.int ((123 : Int32) + i1), (.ref a0)]) (as := [.int ((123 : Int32) + i1)]) (rest := [(.ref a0)]) 4 rfl rfl (mw_sp rfl rfl (Nat.le_of_ble_eq_true rfl) (mw_ac rfl mw_an) (mw_ac rfl mw_an)) rfl rfl (H.mono (fun o hp9 H => ?_))
      obtain ⟨x10, rfl, H⟩ := H
      obtain ⟨hc11, H⟩ := H
      refine mm_R.cV (pc' := 53) (L' := [some ((.ref a0)), some (.int i1), some (.int i2)]) (st1 := [.int ((123 : Int32) + i1), (.ref a0), .int x10, (.ref a0)]) (as := [.int ((123 : Int32) + i1)]) (rest := [.int x10, (.ref a0)]) 4 rfl rfl (mw_sp rfl rfl (Nat.le_of_ble_eq_true rfl) (mw_ac rfl (mw_ac rfl mw_an)) (mw_ac rfl (mw_ac rfl mw_an))) rfl rfl hc11 (H.mono (fun o hp12 H => ?_))
      obtain ⟨x13, rfl, H⟩ := H
      obtain ⟨hc14, H⟩ := H
      refine mm_R.cV (pc' := 56) (L' := [some ((.ref a0)), some (.int i1), some (.int i2)]) (st1 := [.int x13, .int x10, (.ref a0)]) (as := [.int x10, .int x13]) (rest := []) 0 rfl rfl (mw_sp rfl rfl (Nat.le_of_ble_eq_true rfl) (mw_ac rfl (mw_ac rfl (mw_ac rfl mw_an))) mw_an) rfl rfl hc14 (H.mono (fun o hp15 H => ?_))
      obtain ⟨rfl, H⟩ := H
      refine mm_R.wpt (pc' := 61) (L' := [some ((.ref a0)), some (.int i1), some (.int i2)]) (r := []) 2 rfl rfl (H.mono (fun hp16 H => ?_))
      refine mm_R.wgi (pc' := 65) (L' := [some ((.ref a0)), some (.int i1), some (.int i2)]) (r := []) 1 rfl rfl (H.mono (fun x17 H => ?_))
      exact mm_R.rt (pc' := 68) (L' := [some ((.ref a0)), some (.int i1), some (.int i2)]) (st1 := [.int x17]) 0 rfl rfl rfl rfl rfl rfl H
    · replace H := H.2 (of_decide_eq_false c)
      exact mm_R.rt (pc' := 14) (L' := [some ((.ref a0)), some (.int i1), some (.int i2)]) (st1 := [.int (-1 : Int32)]) 1 rfl rfl rfl rfl rfl rfl H
