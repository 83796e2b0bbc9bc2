-- StepRunnerModel.ruleAt, from 0
set_option maxRecDepth 10000 in
theorem w180_0 {X : List Int32} {d : Nat} {a0 : Nat} {i1 : Int32} {i2 : Int32} {hp : mm_H} {Q : Option Value → mm_H → Prop} (H : mw_gv 10 22 (.ref a0) hp (fun v1 => mw_ai 1000 v1 i1 hp (fun x2 => ((x2 ≤ i2 → Q (some (.int (0 : Int32))) hp) ∧ (¬ x2 ≤ i2 → mw_gv 10 21 (.ref a0) hp (fun v3 => mw_ai 1001 v3 (((60 : Int32) * i1) + i2) hp (fun x4 => mm_fv .char (.int x4) = true ∧ Q (some (.int x4)) hp))))))) : mm_R X (d + 1) 180 0 (mm_L0 180 [(.ref a0), .int i1, .int i2]) [] hp Q := by
  show mm_R X (d + 1) 180 0 [some ((.ref a0)), some (.int i1), some (.int i2)] [] hp Q
  refine mm_R.wgv (pc' := 2) (L' := [some ((.ref a0)), some (.int i1), some (.int i2)]) (r := [.int i2]) 2 rfl rfl (H.mono (fun v1 H => ?_))
  refine mm_R.wai (pc' := 6) (L' := [some ((.ref a0)), some (.int i1), some (.int i2)]) (r := [.int i2]) (t := 1000) 1 rfl rfl rfl rfl (H.mono (fun x2 H => ?_))
  refine mm_R.br (L' := [some ((.ref a0)), some (.int i1), some (.int i2)]) (st' := []) (t := 24) (u := 10) (b := mm_cc .ge i2 x2) 1 rfl (fun c => ?_) (fun c => ?_)
  · replace H := H.1 (of_decide_eq_true c)
    exact mm_R.rt (pc' := 25) (L' := [some ((.ref a0)), some (.int i1), some (.int i2)]) (st1 := [.int (0 : Int32)]) 1 rfl rfl rfl rfl rfl rfl H
  · replace H := H.2 (of_decide_eq_false c)
    refine mm_R.wgv (pc' := 11) (L' := [some ((.ref a0)), some (.int i1), some (.int i2)]) (r := []) 1 rfl rfl (H.mono (fun v3 H => ?_))
    refine mm_R.wai (pc' := 20) (L' := [some ((.ref a0)), some (.int i1), some (.int i2)]) (r := []) (t := 1001) 5 rfl rfl rfl rfl (H.mono (fun x4 H => ?_))
    exact mm_R.rt (pc' := 25) (L' := [some ((.ref a0)), some (.int i1), some (.int i2)]) (st1 := [.int x4]) 1 rfl rfl rfl rfl rfl (mw_rvi (ty := .char) H.1) H.2
-- StepRunnerModel.follow, from 0
set_option maxRecDepth 10000 in
theorem w181_0 {X : List Int32} {d : Nat} {a0 : Nat} {i1 : Int32} {i2 : Int32} {i3 : Int32} {i4 : Int32} {hp : mm_H} {Q : Option Value → mm_H → Prop} (H : mw_rc (.ref a0) 180 hp ∧ mm_R X d 180 0 (mm_L0 180 [(.ref a0), .int i1, .int (i2 + (2 : Int32))]) [] hp (mw_ri (fun x3 hp2 => ((¬ x3 = (105 : Int32) → mm_R X (d + 1) 181 18 [some ((.ref a0)), some (.int i1), some (.int i2), some (.int i3), some (.int i4), none, none, none, none, none, none] [.int (0 : Int32)] hp2 Q) ∧ (x3 = (105 : Int32) → mm_R X (d + 1) 181 18 [some ((.ref a0)), some (.int i1), some (.int i2), some (.int i3), some (.int i4), none, none, none, none, none, none] [.int (1 : Int32)] hp2 Q))))) : mm_R X (d + 1) 181 0 (mm_L0 181 [(.ref a0), .int i1, .int i2, .int i3, .int i4]) [] hp Q := by
  show mm_R X (d + 1) 181 0 [some ((.ref a0)), some (.int i1), some (.int i2), some (.int i3), some (.int i4), none, none, none, none, none, none] [] hp Q
  obtain ⟨hc1, H⟩ := H
  refine mm_R.cV (pc' := 5) (L' := [some ((.ref a0)), some (.int i1), some (.int i2), some (.int i3), some (.int i4), none, none, none, none, none, none]) (st1 := [.int (i2 + (2 : Int32)), .int i1, (.ref a0)]) (as := [.int i1, .int (i2 + (2 : Int32))]) (rest := []) 5 rfl rfl (mw_sp rfl rfl (Nat.le_of_ble_eq_true rfl) (mw_ac rfl (mw_ac rfl (mw_ac rfl mw_an))) mw_an) rfl rfl hc1 (H.mono (fun o hp2 H => ?_))
  obtain ⟨x3, rfl, H⟩ := H
  refine mm_R.br (L' := [some ((.ref a0)), some (.int i1), some (.int i2), some (.int i3), some (.int i4), none, none, none, none, none, none]) (st' := []) (t := 17) (u := 13) (b := mm_cc .ne x3 (105 : Int32)) 2 rfl (fun c => ?_) (fun c => ?_)
  · replace H := H.1 (of_decide_eq_true c)
    exact mm_R.pn (pc' := 18) (L' := [some ((.ref a0)), some (.int i1), some (.int i2), some (.int i3), some (.int i4), none, none, none, none, none, none]) (st' := [.int (0 : Int32)]) 1 rfl H
  · replace H := H.2 (Decidable.of_not_not (of_decide_eq_false c))
    exact mm_R.pn (pc' := 18) (L' := [some ((.ref a0)), some (.int i1), some (.int i2), some (.int i3), some (.int i4), none, none, none, none, none, none]) (st' := [.int (1 : Int32)]) 2 rfl H
-- StepRunnerModel.follow, from 18
set_option maxRecDepth 10000 in
theorem w181_18 {X : List Int32} {d : Nat} {a0 : Nat} {i1 : Int32} {i2 : Int32} {i3 : Int32} {i4 : Int32} {o5 : Option Value} {o6 : Option Value} {o7 : Option Value} {o8 : Option Value} {o9 : Option Value} {o10 : Option Value} {s0 : Int32} {hp : mm_H} {Q : Option Value → mm_H → Prop} (H : ((s0 = (0 : Int32) → mm_R X (d + 1) 181 44 [some ((.ref a0)), some (.int i1), some (.int i2), some (.int i3), some (.int i4), some (.int s0), o6, o7, o8, o9, o10] [.int i4] hp Q) ∧ (¬ s0 = (0 : Int32) → mw_rc (.ref a0) 180 hp ∧ mm_R X d 180 0 (mm_L0 180 [(.ref a0), .int i1, .int (i2 + (9 : Int32))]) [] hp (mw_ri (fun x3 hp2 => mm_R X (d + 1) 181 44 [some ((.ref a0)), some (.int i1), some (.int i2), some (.int i3), some (.int i4), some (.int s0), o6, o7, o8, o9, o10] [.int ((i3 + x3) - (97 : Int32))] hp2 Q))))) : mm_R X (d + 1) 181 18 [some ((.ref a0)), some (.int i1), some (.int i2), some (.int i3), some (.int i4), o5, o6, o7, o8, o9, o10] [.int s0] hp Q := by
  refine mm_R.br (L' := [some ((.ref a0)), some (.int i1), some (.int i2), some (.int i3), some (.int i4), some (.int s0), o6, o7, o8, o9, o10]) (st' := []) (t := 42) (u := 25) (b := mm_cc .eq s0 (0 : Int32)) 3 rfl (fun c => ?_) (fun c => ?_)
  · replace H := H.1 (of_decide_eq_true c)
    exact mm_R.pn (pc' := 44) (L' := [some ((.ref a0)), some (.int i1), some (.int i2), some (.int i3), some (.int i4), some (.int s0), o6, o7, o8, o9, o10]) (st' := [.int i4]) 1 rfl H
  · replace H := H.2 (of_decide_eq_false c)
    obtain ⟨hc1, H⟩ := H
    refine mm_R.cV (pc' := 32) (L' := [some ((.ref a0)), some (.int i1), some (.int i2), some (.int i3), some (.int i4), some (.int s0), o6, o7, o8, o9, o10]) (st1 := [.int (i2 + (9 : Int32)), .int i1, (.ref a0), .int i3]) (as := [.int i1, .int (i2 + (9 : Int32))]) (rest := [.int i3]) 6 rfl rfl (mw_sp rfl rfl (Nat.le_of_ble_eq_true rfl) (mw_ac rfl (mw_ac rfl (mw_ac rfl mw_an))) (mw_ac rfl mw_an)) rfl rfl hc1 (H.mono (fun o hp2 H => ?_))
    obtain ⟨x3, rfl, H⟩ := H
    exact mm_R.pn (pc' := 44) (L' := [some ((.ref a0)), some (.int i1), some (.int i2), some (.int i3), some (.int i4), some (.int s0), o6, o7, o8, o9, o10]) (st' := [.int ((i3 + x3) - (97 : Int32))]) 4 rfl H
-- StepRunnerModel.follow, from 44
set_option maxRecDepth 10000 in
theorem w181_44 {X : List Int32} {d : Nat} {a0 : Nat} {i1 : Int32} {i2 : Int32} {i3 : Int32} {i4 : Int32} {i5 : Int32} {o6 : Option Value} {o7 : Option Value} {o8 : Option Value} {o9 : Option Value} {o10 : Option Value} {s0 : Int32} {hp : mm_H} {Q : Option Value → mm_H → Prop} (H : ((i5 = (0 : Int32) → (((0 : Int32) ≤ s0 → mm_R X d 123 0 (mm_L0 123 [.int s0]) [] hp (mw_ri (fun x2 hp1 => mw_pt 10 35 (.ref a0) (.int x2) hp1 (fun hp3 => mm_R X (d + 1) 181 83 [some ((.ref a0)), some (.int i1), some (.int i2), some (.int i3), some (.int i4), some (.int i5), some (.int s0), some (.int (i2 + (6 : Int32))), o8, o9, o10] [] hp3 Q)))) ∧ (¬ (0 : Int32) ≤ s0 → mw_pt 10 35 (.ref a0) (.int (-3 : Int32)) hp (fun hp4 => mm_R X (d + 1) 181 83 [some ((.ref a0)), some (.int i1), some (.int i2), some (.int i3), some (.int i4), some (.int i5), some (.int s0), some (.int (i2 + (6 : Int32))), o8, o9, o10] [] hp4 Q)))) ∧ (¬ i5 = (0 : Int32) → (((0 : Int32) ≤ s0 → mm_R X d 123 0 (mm_L0 123 [.int s0]) [] hp (mw_ri (fun x6 hp5 => mw_pt 10 35 (.ref a0) (.int x6) hp5 (fun hp7 => mm_R X (d + 1) 181 83 [some ((.ref a0)), some (.int i1), some (.int i2), some (.int i3), some (.int i4), some (.int i5), some (.int s0), some (.int (i2 + (10 : Int32))), o8, o9, o10] [] hp7 Q)))) ∧ (¬ (0 : Int32) ≤ s0 → mw_pt 10 35 (.ref a0) (.int (-3 : Int32)) hp (fun hp8 => mm_R X (d + 1) 181 83 [some ((.ref a0)), some (.int i1), some (.int i2), some (.int i3), some (.int i4), some (.int i5), some (.int s0), some (.int (i2 + (10 : Int32))), o8, o9, o10] [] hp8 Q)))))) : mm_R X (d + 1) 181 44 [some ((.ref a0)), some (.int i1), some (.int i2), some (.int i3), some (.int i4), some (.int i5), o6, o7, o8, o9, o10] [.int s0] hp Q := by
  refine mm_R.br (L' := [some ((.ref a0)), some (.int i1), some (.int i2), some (.int i3), some (.int i4), some (.int i5), some (.int s0), o7, o8, o9, o10]) (st' := []) (t := 58) (u := 51) (b := mm_cc .eq i5 (0 : Int32)) 3 rfl (fun c => ?_) (fun c => ?_)
  · replace H := H.1 (of_decide_eq_true c)
    refine mm_R.br (L' := [some ((.ref a0)), some (.int i1), some (.int i2), some (.int i3), some (.int i4), some (.int i5), some (.int s0), some (.int (i2 + (6 : Int32))), o8, o9, o10]) (st' := [(.ref a0)]) (t := 75) (u := 70) (b := mm_cc .ge s0 (0 : Int32)) 7 rfl (fun c => ?_) (fun c => ?_)
    · replace H := H.1 (of_decide_eq_true c)
      refine mm_R.cS (pc' := 77) (L' := [some ((.ref a0)), some (.int i1), some (.int i2), some (.int i3), some (.int i4), some (.int i5), some (.int s0), some (.int (i2 + (6 : Int32))), o8, o9, o10]) (st1 := [.int s0, (.ref a0)]) (as := [.int s0]) (rest := [(.ref a0)]) 1 rfl rfl (mw_sp rfl rfl (Nat.le_of_ble_eq_true rfl) (mw_ac rfl mw_an) (mw_ac rfl mw_an)) rfl rfl (H.mono (fun o hp1 H => ?_))
      obtain ⟨x2, rfl, H⟩ := H
      refine mm_R.wpt (pc' := 80) (L' := [some ((.ref a0)), some (.int i1), some (.int i2), some (.int i3), some (.int i4), some (.int i5), some (.int s0), some (.int (i2 + (6 : Int32))), o8, o9, o10]) (r := []) 0 rfl rfl (H.mono (fun hp3 H => ?_))
      exact H
    · replace H := H.2 (of_decide_eq_false c)
      refine mm_R.wpt (pc' := 80) (L' := [some ((.ref a0)), some (.int i1), some (.int i2), some (.int i3), some (.int i4), some (.int i5), some (.int s0), some (.int (i2 + (6 : Int32))), o8, o9, o10]) (r := []) 2 rfl rfl (H.mono (fun hp4 H => ?_))
      exact H
  · replace H := H.2 (of_decide_eq_false c)
    refine mm_R.br (L' := [some ((.ref a0)), some (.int i1), some (.int i2), some (.int i3), some (.int i4), some (.int i5), some (.int s0), some (.int (i2 + (10 : Int32))), o8, o9, o10]) (st' := [(.ref a0)]) (t := 75) (u := 70) (b := mm_cc .ge s0 (0 : Int32)) 8 rfl (fun c => ?_) (fun c => ?_)
    · replace H := H.1 (of_decide_eq_true c)
      refine mm_R.cS (pc' := 77) (L' := [some ((.ref a0)), some (.int i1), some (.int i2), some (.int i3), some (.int i4), some (.int i5), some (.int s0), some (.int (i2 + (10 : Int32))), o8, o9, o10]) (st1 := [.int s0, (.ref a0)]) (as := [.int s0]) (rest := [(.ref a0)]) 1 rfl rfl (mw_sp rfl rfl (Nat.le_of_ble_eq_true rfl) (mw_ac rfl mw_an) (mw_ac rfl mw_an)) rfl rfl (H.mono (fun o hp5 H => ?_))
      obtain ⟨x6, rfl, H⟩ := H
      refine mm_R.wpt (pc' := 80) (L' := [some ((.ref a0)), some (.int i1), some (.int i2), some (.int i3), some (.int i4), some (.int i5), some (.int s0), some (.int (i2 + (10 : Int32))), o8, o9, o10]) (r := []) 0 rfl rfl (H.mono (fun hp7 H => ?_))
      exact H
    · replace H := H.2 (of_decide_eq_false c)
      refine mm_R.wpt (pc' := 80) (L' := [some ((.ref a0)), some (.int i1), some (.int i2), some (.int i3), some (.int i4), some (.int i5), some (.int s0), some (.int (i2 + (10 : Int32))), o8, o9, o10]) (r := []) 2 rfl rfl (H.mono (fun hp8 H => ?_))
      exact H
-- StepRunnerModel.follow, from 83
set_option maxRecDepth 10000 in
theorem w181_83 {X : List Int32} {d : Nat} {a0 : Nat} {i1 : Int32} {i2 : Int32} {i3 : Int32} {i4 : Int32} {i5 : Int32} {i6 : Int32} {i7 : Int32} {o8 : Option Value} {o9 : Option Value} {o10 : Option Value} {hp : mm_H} {Q : Option Value → mm_H → Prop} (H : mw_rc (.ref a0) 180 hp ∧ mm_R X d 180 0 (mm_L0 180 [(.ref a0), .int i1, .int i7]) [] hp (mw_ri (fun x3 hp2 => ((x3 = (41 : Int32) → mw_pt 10 38 (.ref a0) (.int i6) hp2 (fun hp4 => Q (some (.int (i7 + (1 : Int32)))) hp4)) ∧ (¬ x3 = (41 : Int32) → mw_rc (.ref a0) 180 hp2 ∧ mm_R X d 180 0 (mm_L0 180 [(.ref a0), .int i1, .int i7]) [] hp2 (mw_ri (fun x7 hp6 => ((¬ x7 = (91 : Int32) → mm_R X (d + 1) 181 112 [some ((.ref a0)), some (.int i1), some (.int i2), some (.int i3), some (.int i4), some (.int i5), some (.int i6), some (.int i7), o8, o9, o10] [.int (0 : Int32)] hp6 Q) ∧ (x7 = (91 : Int32) → mm_R X (d + 1) 181 112 [some ((.ref a0)), some (.int i1), some (.int i2), some (.int i3), some (.int i4), some (.int i5), some (.int i6), some (.int i7), o8, o9, o10] [.int (1 : Int32)] hp6 Q))))))))) : mm_R X (d + 1) 181 83 [some ((.ref a0)), some (.int i1), some (.int i2), some (.int i3), some (.int i4), some (.int i5), some (.int i6), some (.int i7), o8, o9, o10] [] hp Q := by
  obtain ⟨hc1, H⟩ := H
  refine mm_R.cV (pc' := 87) (L' := [some ((.ref a0)), some (.int i1), some (.int i2), some (.int i3), some (.int i4), some (.int i5), some (.int i6), some (.int i7), o8, o9, o10]) (st1 := [.int i7, .int i1, (.ref a0)]) (as := [.int i1, .int i7]) (rest := []) 3 rfl rfl (mw_sp rfl rfl (Nat.le_of_ble_eq_true rfl) (mw_ac rfl (mw_ac rfl (mw_ac rfl mw_an))) mw_an) rfl rfl hc1 (H.mono (fun o hp2 H => ?_))
  obtain ⟨x3, rfl, H⟩ := H
  refine mm_R.br (L' := [some ((.ref a0)), some (.int i1), some (.int i2), some (.int i3), some (.int i4), some (.int i5), some (.int i6), some (.int i7), o8, o9, o10]) (st' := []) (t := 290) (u := 95) (b := mm_cc .eq x3 (41 : Int32)) 2 rfl (fun c => ?_) (fun c => ?_)
  · replace H := H.1 (of_decide_eq_true c)
    refine mm_R.wpt (pc' := 293) (L' := [some ((.ref a0)), some (.int i1), some (.int i2), some (.int i3), some (.int i4), some (.int i5), some (.int i6), some (.int i7), o8, o9, o10]) (r := []) 2 rfl rfl (H.mono (fun hp4 H => ?_))
    exact mm_R.rt (pc' := 300) (L' := [some ((.ref a0)), some (.int i1), some (.int i2), some (.int i3), some (.int i4), some (.int i5), some (.int i6), some (.int i7), o8, o9, o10]) (st1 := [.int (i7 + (1 : Int32))]) 3 rfl rfl rfl rfl rfl rfl H
  · replace H := H.2 (of_decide_eq_false c)
    obtain ⟨hc5, H⟩ := H
    refine mm_R.cV (pc' := 99) (L' := [some ((.ref a0)), some (.int i1), some (.int i2), some (.int i3), some (.int i4), some (.int i5), some (.int i6), some (.int i7), o8, o9, o10]) (st1 := [.int i7, .int i1, (.ref a0)]) (as := [.int i1, .int i7]) (rest := []) 3 rfl rfl (mw_sp rfl rfl (Nat.le_of_ble_eq_true rfl) (mw_ac rfl (mw_ac rfl (mw_ac rfl mw_an))) mw_an) rfl rfl hc5 (H.mono (fun o hp6 H => ?_))
    obtain ⟨x7, rfl, H⟩ := H
    refine mm_R.br (L' := [some ((.ref a0)), some (.int i1), some (.int i2), some (.int i3), some (.int i4), some (.int i5), some (.int i6), some (.int i7), o8, o9, o10]) (st' := []) (t := 111) (u := 107) (b := mm_cc .ne x7 (91 : Int32)) 2 rfl (fun c => ?_) (fun c => ?_)
    · replace H := H.1 (of_decide_eq_true c)
      exact mm_R.pn (pc' := 112) (L' := [some ((.ref a0)), some (.int i1), some (.int i2), some (.int i3), some (.int i4), some (.int i5), some (.int i6), some (.int i7), o8, o9, o10]) (st' := [.int (0 : Int32)]) 1 rfl H
    · replace H := H.2 (Decidable.of_not_not (of_decide_eq_false c))
      exact mm_R.pn (pc' := 112) (L' := [some ((.ref a0)), some (.int i1), some (.int i2), some (.int i3), some (.int i4), some (.int i5), some (.int i6), some (.int i7), o8, o9, o10]) (st' := [.int (1 : Int32)]) 2 rfl H
-- StepRunnerModel.follow, from 112
set_option maxRecDepth 10000 in
theorem w181_112 {X : List Int32} {d : Nat} {a0 : Nat} {i1 : Int32} {i2 : Int32} {i3 : Int32} {i4 : Int32} {i5 : Int32} {i6 : Int32} {i7 : Int32} {o8 : Option Value} {o9 : Option Value} {o10 : Option Value} {s0 : Int32} {hp : mm_H} {Q : Option Value → mm_H → Prop} (H : ((s0 = (0 : Int32) → mm_R X (d + 1) 181 135 [some ((.ref a0)), some (.int i1), some (.int i2), some (.int i3), some (.int i4), some (.int i5), some (.int i6), some (.int i7), some (.int s0), o9, o10] [.int (0 : Int32)] hp Q) ∧ (¬ s0 = (0 : Int32) → mw_rc (.ref a0) 180 hp ∧ mm_R X d 180 0 (mm_L0 180 [(.ref a0), .int i1, .int (i7 + (1 : Int32))]) [] hp (mw_ri (fun x3 hp2 => mm_R X (d + 1) 181 135 [some ((.ref a0)), some (.int i1), some (.int i2), some (.int i3), some (.int i4), some (.int i5), some (.int i6), some (.int i7), some (.int s0), o9, o10] [.int (x3 - (48 : Int32))] hp2 Q))))) : mm_R X (d + 1) 181 112 [some ((.ref a0)), some (.int i1), some (.int i2), some (.int i3), some (.int i4), some (.int i5), some (.int i6), some (.int i7), o8, o9, o10] [.int s0] hp Q := by
  refine mm_R.br (L' := [some ((.ref a0)), some (.int i1), some (.int i2), some (.int i3), some (.int i4), some (.int i5), some (.int i6), some (.int i7), some (.int s0), o9, o10]) (st' := []) (t := 134) (u := 119) (b := mm_cc .eq s0 (0 : Int32)) 3 rfl (fun c => ?_) (fun c => ?_)
  · replace H := H.1 (of_decide_eq_true c)
    exact mm_R.pn (pc' := 135) (L' := [some ((.ref a0)), some (.int i1), some (.int i2), some (.int i3), some (.int i4), some (.int i5), some (.int i6), some (.int i7), some (.int s0), o9, o10]) (st' := [.int (0 : Int32)]) 1 rfl H
  · replace H := H.2 (of_decide_eq_false c)
    obtain ⟨hc1, H⟩ := H
    refine mm_R.cV (pc' := 125) (L' := [some ((.ref a0)), some (.int i1), some (.int i2), some (.int i3), some (.int i4), some (.int i5), some (.int i6), some (.int i7), some (.int s0), o9, o10]) (st1 := [.int (i7 + (1 : Int32)), .int i1, (.ref a0)]) (as := [.int i1, .int (i7 + (1 : Int32))]) (rest := []) 5 rfl rfl (mw_sp rfl rfl (Nat.le_of_ble_eq_true rfl) (mw_ac rfl (mw_ac rfl (mw_ac rfl mw_an))) mw_an) rfl rfl hc1 (H.mono (fun o hp2 H => ?_))
    obtain ⟨x3, rfl, H⟩ := H
    exact mm_R.pn (pc' := 135) (L' := [some ((.ref a0)), some (.int i1), some (.int i2), some (.int i3), some (.int i4), some (.int i5), some (.int i6), some (.int i7), some (.int s0), o9, o10]) (st' := [.int (x3 - (48 : Int32))]) 3 rfl H
-- StepRunnerModel.follow, from 135
set_option maxRecDepth 10000 in
theorem w181_135 {X : List Int32} {d : Nat} {a0 : Nat} {i1 : Int32} {i2 : Int32} {i3 : Int32} {i4 : Int32} {i5 : Int32} {i6 : Int32} {i7 : Int32} {i8 : Int32} {o9 : Option Value} {o10 : Option Value} {s0 : Int32} {hp : mm_H} {Q : Option Value → mm_H → Prop} (H : mw_gi 10 35 (.ref a0) hp (fun x1 => ((x1 < (0 : Int32) → mw_pt 10 35 (.ref a0) (.int (-2 : Int32)) hp (fun hp2 => mm_R X (d + 1) 181 268 [some ((.ref a0)), some (.int i1), some (.int i2), some (.int i3), some (.int i4), some (.int i5), some (.int i6), some (.int i7), some (.int i8), some (.int s0), o10] [] hp2 Q)) ∧ (¬ x1 < (0 : Int32) → mw_gi 10 35 (.ref a0) hp (fun x3 => mw_rc (.ref a0) 144 hp ∧ mm_R X d 144 0 (mm_L0 144 [(.ref a0), .int x3]) [] hp (mw_ri (fun x6 hp5 => ((x6 = (3 : Int32) → mm_R X (d + 1) 181 182 [some ((.ref a0)), some (.int i1), some (.int i2), some (.int i3), some (.int i4), some (.int i5), some (.int i6), some (.int i7), some (.int i8), some (.int s0), o10] [] hp5 Q) ∧ (¬ x6 = (3 : Int32) → ((¬ i8 = (0 : Int32) → mw_pt 10 35 (.ref a0) (.int (-2 : Int32)) hp5 (fun hp7 => mm_R X (d + 1) 181 268 [some ((.ref a0)), some (.int i1), some (.int i2), some (.int i3), some (.int i4), some (.int i5), some (.int i6), some (.int i7), some (.int i8), some (.int s0), o10] [] hp7 Q)) ∧ (i8 = (0 : Int32) → mw_gi 10 35 (.ref a0) hp5 (fun x8 => mw_rc (.ref a0) 144 hp5 ∧ mm_R X d 144 0 (mm_L0 144 [(.ref a0), .int x8]) [] hp5 (mw_ri (fun x11 hp10 => ((x11 = (2 : Int32) → mm_R X (d + 1) 181 182 [some ((.ref a0)), some (.int i1), some (.int i2), some (.int i3), some (.int i4), some (.int i5), some (.int i6), some (.int i7), some (.int i8), some (.int s0), o10] [] hp10 Q) ∧ (¬ x11 = (2 : Int32) → mw_pt 10 35 (.ref a0) (.int (-2 : Int32)) hp10 (fun hp12 => mm_R X (d + 1) 181 268 [some ((.ref a0)), some (.int i1), some (.int i2), some (.int i3), some (.int i4), some (.int i5), some (.int i6), some (.int i7), some (.int i8), some (.int s0), o10] [] hp12 Q))))))))))))))))) : mm_R X (d + 1) 181 135 [some ((.ref a0)), some (.int i1), some (.int i2), some (.int i3), some (.int i4), some (.int i5), some (.int i6), some (.int i7), some (.int i8), o9, o10] [.int s0] hp Q := by
  refine mm_R.wgi (pc' := 138) (L' := [some ((.ref a0)), some (.int i1), some (.int i2), some (.int i3), some (.int i4), some (.int i5), some (.int i6), some (.int i7), some (.int i8), some (.int s0), o10]) (r := []) 2 rfl rfl (H.mono (fun x1 H => ?_))
  refine mm_R.br (L' := [some ((.ref a0)), some (.int i1), some (.int i2), some (.int i3), some (.int i4), some (.int i5), some (.int i6), some (.int i7), some (.int i8), some (.int s0), o10]) (st' := []) (t := 173) (u := 144) (b := mm_cc .lt x1 (0 : Int32)) 1 rfl (fun c => ?_) (fun c => ?_)
  · replace H := H.1 (of_decide_eq_true c)
    refine mm_R.wpt (pc' := 176) (L' := [some ((.ref a0)), some (.int i1), some (.int i2), some (.int i3), some (.int i4), some (.int i5), some (.int i6), some (.int i7), some (.int i8), some (.int s0), o10]) (r := []) 2 rfl rfl (H.mono (fun hp2 H => ?_))
    exact mm_R.pn (pc' := 268) (L' := [some ((.ref a0)), some (.int i1), some (.int i2), some (.int i3), some (.int i4), some (.int i5), some (.int i6), some (.int i7), some (.int i8), some (.int s0), o10]) (st' := []) 1 rfl H
  · replace H := H.2 (of_decide_eq_false c)
    refine mm_R.wgi (pc' := 146) (L' := [some ((.ref a0)), some (.int i1), some (.int i2), some (.int i3), some (.int i4), some (.int i5), some (.int i6), some (.int i7), some (.int i8), some (.int s0), o10]) (r := [(.ref a0)]) 2 rfl rfl (H.mono (fun x3 H => ?_))
    obtain ⟨hc4, H⟩ := H
    refine mm_R.cV (pc' := 149) (L' := [some ((.ref a0)), some (.int i1), some (.int i2), some (.int i3), some (.int i4), some (.int i5), some (.int i6), some (.int i7), some (.int i8), some (.int s0), o10]) (st1 := [.int x3, (.ref a0)]) (as := [.int x3]) (rest := []) 0 rfl rfl (mw_sp rfl rfl (Nat.le_of_ble_eq_true rfl) (mw_ac rfl (mw_ac rfl mw_an)) mw_an) rfl rfl hc4 (H.mono (fun o hp5 H => ?_))
    obtain ⟨x6, rfl, H⟩ := H
    refine mm_R.br (L' := [some ((.ref a0)), some (.int i1), some (.int i2), some (.int i3), some (.int i4), some (.int i5), some (.int i6), some (.int i7), some (.int i8), some (.int s0), o10]) (st' := []) (t := 182) (u := 156) (b := mm_cc .eq x6 (3 : Int32)) 2 rfl (fun c => ?_) (fun c => ?_)
    · replace H := H.1 (of_decide_eq_true c)
      exact H
    · replace H := H.2 (of_decide_eq_false c)
      refine mm_R.br (L' := [some ((.ref a0)), some (.int i1), some (.int i2), some (.int i3), some (.int i4), some (.int i5), some (.int i6), some (.int i7), some (.int i8), some (.int s0), o10]) (st' := []) (t := 173) (u := 161) (b := mm_cc .ne i8 (0 : Int32)) 2 rfl (fun c => ?_) (fun c => ?_)
      · replace H := H.1 (of_decide_eq_true c)
        refine mm_R.wpt (pc' := 176) (L' := [some ((.ref a0)), some (.int i1), some (.int i2), some (.int i3), some (.int i4), some (.int i5), some (.int i6), some (.int i7), some (.int i8), some (.int s0), o10]) (r := []) 2 rfl rfl (H.mono (fun hp7 H => ?_))
        exact mm_R.pn (pc' := 268) (L' := [some ((.ref a0)), some (.int i1), some (.int i2), some (.int i3), some (.int i4), some (.int i5), some (.int i6), some (.int i7), some (.int i8), some (.int s0), o10]) (st' := []) 1 rfl H
      · replace H := H.2 (Decidable.of_not_not (of_decide_eq_false c))
        refine mm_R.wgi (pc' := 163) (L' := [some ((.ref a0)), some (.int i1), some (.int i2), some (.int i3), some (.int i4), some (.int i5), some (.int i6), some (.int i7), some (.int i8), some (.int s0), o10]) (r := [(.ref a0)]) 2 rfl rfl (H.mono (fun x8 H => ?_))
        obtain ⟨hc9, H⟩ := H
        refine mm_R.cV (pc' := 166) (L' := [some ((.ref a0)), some (.int i1), some (.int i2), some (.int i3), some (.int i4), some (.int i5), some (.int i6), some (.int i7), some (.int i8), some (.int s0), o10]) (st1 := [.int x8, (.ref a0)]) (as := [.int x8]) (rest := []) 0 rfl rfl (mw_sp rfl rfl (Nat.le_of_ble_eq_true rfl) (mw_ac rfl (mw_ac rfl mw_an)) mw_an) rfl rfl hc9 (H.mono (fun o hp10 H => ?_))
        obtain ⟨x11, rfl, H⟩ := H
        refine mm_R.br (L' := [some ((.ref a0)), some (.int i1), some (.int i2), some (.int i3), some (.int i4), some (.int i5), some (.int i6), some (.int i7), some (.int i8), some (.int s0), o10]) (st' := []) (t := 182) (u := 173) (b := mm_cc .eq x11 (2 : Int32)) 2 rfl (fun c => ?_) (fun c => ?_)
        · replace H := H.1 (of_decide_eq_true c)
          exact H
        · replace H := H.2 (of_decide_eq_false c)
          refine mm_R.wpt (pc' := 176) (L' := [some ((.ref a0)), some (.int i1), some (.int i2), some (.int i3), some (.int i4), some (.int i5), some (.int i6), some (.int i7), some (.int i8), some (.int s0), o10]) (r := []) 2 rfl rfl (H.mono (fun hp12 H => ?_))
          exact mm_R.pn (pc' := 268) (L' := [some ((.ref a0)), some (.int i1), some (.int i2), some (.int i3), some (.int i4), some (.int i5), some (.int i6), some (.int i7), some (.int i8), some (.int s0), o10]) (st' := []) 1 rfl H
-- StepRunnerModel.follow, from 182
set_option maxRecDepth 10000 in
theorem w181_182 {X : List Int32} {d : Nat} {a0 : Nat} {i1 : Int32} {i2 : Int32} {i3 : Int32} {i4 : Int32} {i5 : Int32} {i6 : Int32} {i7 : Int32} {i8 : Int32} {i9 : Int32} {o10 : Option Value} {hp : mm_H} {Q : Option Value → mm_H → Prop} (H : mw_gi 10 35 (.ref a0) hp (fun x1 => mw_rc (.ref a0) 144 hp ∧ mm_R X d 144 0 (mm_L0 144 [(.ref a0), .int x1]) [] hp (mw_ri (fun x4 hp3 => ((¬ x4 = (3 : Int32) → mw_gi 10 35 (.ref a0) hp3 (fun x5 => mw_rc (.ref a0) 153 hp3 ∧ mm_R X d 153 0 (mm_L0 153 [(.ref a0), .int x5]) [] hp3 (mw_ri (fun x8 hp7 => mm_R X (d + 1) 181 219 [some ((.ref a0)), some (.int i1), some (.int i2), some (.int i3), some (.int i4), some (.int i5), some (.int i6), some (.int i7), some (.int i8), some (.int i9), o10] [.int x8] hp7 Q)))) ∧ (x4 = (3 : Int32) → mw_gi 10 35 (.ref a0) hp3 (fun x9 => mw_rc (.ref a0) 143 hp3 ∧ mm_R X d 143 0 (mm_L0 143 [(.ref a0), .int i6]) [] hp3 (mw_ri (fun x12 hp11 => mw_rc (.ref a0) 146 hp11 ∧ mm_R X d 146 0 (mm_L0 146 [(.ref a0), .int x9, .int x12]) [] hp11 (mw_ri (fun x15 hp14 => mm_R X (d + 1) 181 219 [some ((.ref a0)), some (.int i1), some (.int i2), some (.int i3), some (.int i4), some (.int i5), some (.int i6), some (.int i7), some (.int i8), some (.int i9), o10] [.int x15] hp14 Q))))))))))) : mm_R X (d + 1) 181 182 [some ((.ref a0)), some (.int i1), some (.int i2), some (.int i3), some (.int i4), some (.int i5), some (.int i6), some (.int i7), some (.int i8), some (.int i9), o10] [] hp Q := by
  refine mm_R.wgi (pc' := 184) (L' := [some ((.ref a0)), some (.int i1), some (.int i2), some (.int i3), some (.int i4), some (.int i5), some (.int i6), some (.int i7), some (.int i8), some (.int i9), o10]) (r := [(.ref a0)]) 2 rfl rfl (H.mono (fun x1 H => ?_))
  obtain ⟨hc2, H⟩ := H
  refine mm_R.cV (pc' := 187) (L' := [some ((.ref a0)), some (.int i1), some (.int i2), some (.int i3), some (.int i4), some (.int i5), some (.int i6), some (.int i7), some (.int i8), some (.int i9), o10]) (st1 := [.int x1, (.ref a0)]) (as := [.int x1]) (rest := []) 0 rfl rfl (mw_sp rfl rfl (Nat.le_of_ble_eq_true rfl) (mw_ac rfl (mw_ac rfl mw_an)) mw_an) rfl rfl hc2 (H.mono (fun o hp3 H => ?_))
  obtain ⟨x4, rfl, H⟩ := H
  refine mm_R.br (L' := [some ((.ref a0)), some (.int i1), some (.int i2), some (.int i3), some (.int i4), some (.int i5), some (.int i6), some (.int i7), some (.int i8), some (.int i9), o10]) (st' := []) (t := 211) (u := 194) (b := mm_cc .ne x4 (3 : Int32)) 2 rfl (fun c => ?_) (fun c => ?_)
  · replace H := H.1 (of_decide_eq_true c)
    refine mm_R.wgi (pc' := 213) (L' := [some ((.ref a0)), some (.int i1), some (.int i2), some (.int i3), some (.int i4), some (.int i5), some (.int i6), some (.int i7), some (.int i8), some (.int i9), o10]) (r := [(.ref a0)]) 2 rfl rfl (H.mono (fun x5 H => ?_))
    obtain ⟨hc6, H⟩ := H
    refine mm_R.cV (pc' := 216) (L' := [some ((.ref a0)), some (.int i1), some (.int i2), some (.int i3), some (.int i4), some (.int i5), some (.int i6), some (.int i7), some (.int i8), some (.int i9), o10]) (st1 := [.int x5, (.ref a0)]) (as := [.int x5]) (rest := []) 0 rfl rfl (mw_sp rfl rfl (Nat.le_of_ble_eq_true rfl) (mw_ac rfl (mw_ac rfl mw_an)) mw_an) rfl rfl hc6 (H.mono (fun o hp7 H => ?_))
    obtain ⟨x8, rfl, H⟩ := H
    exact H
  · replace H := H.2 (Decidable.of_not_not (of_decide_eq_false c))
    refine mm_R.wgi (pc' := 196) (L' := [some ((.ref a0)), some (.int i1), some (.int i2), some (.int i3), some (.int i4), some (.int i5), some (.int i6), some (.int i7), some (.int i8), some (.int i9), o10]) (r := [(.ref a0)]) 2 rfl rfl (H.mono (fun x9 H => ?_))
    obtain ⟨hc10, H⟩ := H
    refine mm_R.cV (pc' := 202) (L' := [some ((.ref a0)), some (.int i1), some (.int i2), some (.int i3), some (.int i4), some (.int i5), some (.int i6), some (.int i7), some (.int i8), some (.int i9), o10]) (st1 := [.int i6, (.ref a0), .int x9, (.ref a0)]) (as := [.int i6]) (rest := [.int x9, (.ref a0)]) 2 rfl rfl (mw_sp rfl rfl (Nat.le_of_ble_eq_true rfl) (mw_ac rfl (mw_ac rfl mw_an)) (mw_ac rfl (mw_ac rfl mw_an))) rfl rfl hc10 (H.mono (fun o hp11 H => ?_))
    obtain ⟨x12, rfl, H⟩ := H
    obtain ⟨hc13, H⟩ := H
    refine mm_R.cV (pc' := 205) (L' := [some ((.ref a0)), some (.int i1), some (.int i2), some (.int i3), some (.int i4), some (.int i5), some (.int i6), some (.int i7), some (.int i8), some (.int i9), o10]) (st1 := [.int x12, .int x9, (.ref a0)]) (as := [.int x9, .int x12]) (rest := []) 0 rfl rfl (mw_sp rfl rfl (Nat.le_of_ble_eq_true rfl) (mw_ac rfl (mw_ac rfl (mw_ac rfl mw_an))) mw_an) rfl rfl hc13 (H.mono (fun o hp14 H => ?_))
    obtain ⟨x15, rfl, H⟩ := H
    exact mm_R.pn (pc' := 219) (L' := [some ((.ref a0)), some (.int i1), some (.int i2), some (.int i3), some (.int i4), some (.int i5), some (.int i6), some (.int i7), some (.int i8), some (.int i9), o10]) (st' := [.int x15]) 1 rfl H
-- StepRunnerModel.follow, from 219
set_option maxRecDepth 10000 in
theorem w181_219 {X : List Int32} {d : Nat} {a0 : Nat} {i1 : Int32} {i2 : Int32} {i3 : Int32} {i4 : Int32} {i5 : Int32} {i6 : Int32} {i7 : Int32} {i8 : Int32} {i9 : Int32} {o10 : Option Value} {s0 : Int32} {hp : mm_H} {Q : Option Value → mm_H → Prop} (H : mw_pt 10 36 (.ref a0) (.int s0) hp (fun hp1 => ((¬ i8 = (0 : Int32) → ((s0 ≤ i9 → mw_pt 10 35 (.ref a0) (.int (-2 : Int32)) hp1 (fun hp2 => mm_R X (d + 1) 181 268 [some ((.ref a0)), some (.int i1), some (.int i2), some (.int i3), some (.int i4), some (.int i5), some (.int i6), some (.int i7), some (.int i8), some (.int i9), some (.int s0)] [] hp2 Q)) ∧ (¬ s0 ≤ i9 → mw_gi 10 35 (.ref a0) hp1 (fun x3 => mw_rc (.ref a0) 143 hp1 ∧ mm_R X d 143 0 (mm_L0 143 [(.ref a0), .int i6]) [] hp1 (mw_ri (fun x6 hp5 => mw_rc (.ref a0) 178 hp5 ∧ mm_R X d 178 0 (mm_L0 178 [(.ref a0), .int x3, .int x6, .int i9]) [] hp5 (mw_ri (fun x9 hp8 => mw_pt 10 35 (.ref a0) (.int x9) hp8 (fun hp10 => mm_R X (d + 1) 181 268 [some ((.ref a0)), some (.int i1), some (.int i2), some (.int i3), some (.int i4), some (.int i5), some (.int i6), some (.int i7), some (.int i8), some (.int i9), some (.int s0)] [] hp10 Q))))))))) ∧ (i8 = (0 : Int32) → mw_pt 10 35 (.ref a0) (.int (-1 : Int32)) hp1 (fun hp11 => mm_R X (d + 1) 181 268 [some ((.ref a0)), some (.int i1), some (.int i2), some (.int i3), some (.int i4), some (.int i5), some (.int i6), some (.int i7), some (.int i8), some (.int i9), some (.int s0)] [] hp11 Q))))) : mm_R X (d + 1) 181 219 [some ((.ref a0)), some (.int i1), some (.int i2), some (.int i3), some (.int i4), some (.int i5), some (.int i6), some (.int i7), some (.int i8), some (.int i9), o10] [.int s0] hp Q := by
  refine mm_R.wpt (pc' := 224) (L' := [some ((.ref a0)), some (.int i1), some (.int i2), some (.int i3), some (.int i4), some (.int i5), some (.int i6), some (.int i7), some (.int i8), some (.int i9), some (.int s0)]) (r := []) 3 rfl rfl (H.mono (fun hp1 H => ?_))
  refine mm_R.br (L' := [some ((.ref a0)), some (.int i1), some (.int i2), some (.int i3), some (.int i4), some (.int i5), some (.int i6), some (.int i7), some (.int i8), some (.int i9), some (.int s0)]) (st' := [(.ref a0)]) (t := 237) (u := 233) (b := mm_cc .ne i8 (0 : Int32)) 3 rfl (fun c => ?_) (fun c => ?_)
  · replace H := H.1 (of_decide_eq_true c)
    refine mm_R.br (L' := [some ((.ref a0)), some (.int i1), some (.int i2), some (.int i3), some (.int i4), some (.int i5), some (.int i6), some (.int i7), some (.int i8), some (.int i9), some (.int s0)]) (st' := [(.ref a0)]) (t := 263) (u := 244) (b := mm_cc .ge i9 s0) 3 rfl (fun c => ?_) (fun c => ?_)
    · replace H := H.1 (of_decide_eq_true c)
      refine mm_R.wpt (pc' := 265) (L' := [some ((.ref a0)), some (.int i1), some (.int i2), some (.int i3), some (.int i4), some (.int i5), some (.int i6), some (.int i7), some (.int i8), some (.int i9), some (.int s0)]) (r := []) 1 rfl rfl (H.mono (fun hp2 H => ?_))
      exact H
    · replace H := H.2 (of_decide_eq_false c)
      refine mm_R.wgi (pc' := 246) (L' := [some ((.ref a0)), some (.int i1), some (.int i2), some (.int i3), some (.int i4), some (.int i5), some (.int i6), some (.int i7), some (.int i8), some (.int i9), some (.int s0)]) (r := [(.ref a0), (.ref a0)]) 2 rfl rfl (H.mono (fun x3 H => ?_))
      obtain ⟨hc4, H⟩ := H
      refine mm_R.cV (pc' := 252) (L' := [some ((.ref a0)), some (.int i1), some (.int i2), some (.int i3), some (.int i4), some (.int i5), some (.int i6), some (.int i7), some (.int i8), some (.int i9), some (.int s0)]) (st1 := [.int i6, (.ref a0), .int x3, (.ref a0), (.ref a0)]) (as := [.int i6]) (rest := [.int x3, (.ref a0), (.ref a0)]) 2 rfl rfl (mw_sp rfl rfl (Nat.le_of_ble_eq_true rfl) (mw_ac rfl (mw_ac rfl mw_an)) (mw_ac rfl (mw_ac rfl (mw_ac rfl mw_an)))) rfl rfl hc4 (H.mono (fun o hp5 H => ?_))
      obtain ⟨x6, rfl, H⟩ := H
      obtain ⟨hc7, H⟩ := H
      refine mm_R.cV (pc' := 257) (L' := [some ((.ref a0)), some (.int i1), some (.int i2), some (.int i3), some (.int i4), some (.int i5), some (.int i6), some (.int i7), some (.int i8), some (.int i9), some (.int s0)]) (st1 := [.int i9, .int x6, .int x3, (.ref a0), (.ref a0)]) (as := [.int x3, .int x6, .int i9]) (rest := [(.ref a0)]) 1 rfl rfl (mw_sp rfl rfl (Nat.le_of_ble_eq_true rfl) (mw_ac rfl (mw_ac rfl (mw_ac rfl (mw_ac rfl mw_an)))) (mw_ac rfl mw_an)) rfl rfl hc7 (H.mono (fun o hp8 H => ?_))
      obtain ⟨x9, rfl, H⟩ := H
      refine mm_R.wpt (pc' := 265) (L' := [some ((.ref a0)), some (.int i1), some (.int i2), some (.int i3), some (.int i4), some (.int i5), some (.int i6), some (.int i7), some (.int i8), some (.int i9), some (.int s0)]) (r := []) 1 rfl rfl (H.mono (fun hp10 H => ?_))
      exact H
  · replace H := H.2 (Decidable.of_not_not (of_decide_eq_false c))
    refine mm_R.wpt (pc' := 265) (L' := [some ((.ref a0)), some (.int i1), some (.int i2), some (.int i3), some (.int i4), some (.int i5), some (.int i6), some (.int i7), some (.int i8), some (.int i9), some (.int s0)]) (r := []) 2 rfl rfl (H.mono (fun hp11 H => ?_))
    exact H
-- StepRunnerModel.follow, from 268
set_option maxRecDepth 10000 in
theorem w181_268 {X : List Int32} {d : Nat} {a0 : Nat} {i1 : Int32} {i2 : Int32} {i3 : Int32} {i4 : Int32} {i5 : Int32} {i6 : Int32} {i7 : Int32} {i8 : Int32} {i9 : Int32} {o10 : Option Value} {hp : mm_H} {Q : Option Value → mm_H → Prop} (H : ((i8 = (0 : Int32) → mm_R X (d + 1) 181 83 [some ((.ref a0)), some (.int i1), some (.int i2), some (.int i3), some (.int i4), some (.int i5), some (.int i6), some (.int (i7 + (7 : Int32))), some (.int i8), some (.int i9), o10] [] hp Q) ∧ (¬ i8 = (0 : Int32) → mm_R X (d + 1) 181 83 [some ((.ref a0)), some (.int i1), some (.int i2), some (.int i3), some (.int i4), some (.int i5), some (.int i6), some (.int (i7 + (3 : Int32))), some (.int i8), some (.int i9), o10] [] hp Q))) : mm_R X (d + 1) 181 268 [some ((.ref a0)), some (.int i1), some (.int i2), some (.int i3), some (.int i4), some (.int i5), some (.int i6), some (.int i7), some (.int i8), some (.int i9), o10] [] hp Q := by
  refine mm_R.br (L' := [some ((.ref a0)), some (.int i1), some (.int i2), some (.int i3), some (.int i4), some (.int i5), some (.int i6), some (.int i7), some (.int i8), some (.int i9), o10]) (st' := []) (t := 280) (u := 273) (b := mm_cc .eq i8 (0 : Int32)) 2 rfl (fun c => ?_) (fun c => ?_)
  · replace H := H.1 (of_decide_eq_true c)
    exact mm_R.pn (pc' := 83) (L' := [some ((.ref a0)), some (.int i1), some (.int i2), some (.int i3), some (.int i4), some (.int i5), some (.int i6), some (.int (i7 + (7 : Int32))), some (.int i8), some (.int i9), o10]) (st' := []) 5 rfl H
  · replace H := H.2 (of_decide_eq_false c)
    exact mm_R.pn (pc' := 83) (L' := [some ((.ref a0)), some (.int i1), some (.int i2), some (.int i3), some (.int i4), some (.int i5), some (.int i6), some (.int (i7 + (3 : Int32))), some (.int i8), some (.int i9), o10]) (st' := []) 6 rfl H
-- StepRunnerModel.putPlain, from 0
set_option maxRecDepth 10000 in
theorem w182_0 {X : List Int32} {d : Nat} {a0 : Nat} {i1 : Int32} {i2 : Int32} {hp : mm_H} {Q : Option Value → mm_H → Prop} (H : mw_rc (.ref a0) 144 hp ∧ mm_R X d 144 0 (mm_L0 144 [(.ref a0), .int i1]) [] hp (mw_ri (fun x3 hp2 => ((¬ x3 = (2 : Int32) → mw_rc (.ref a0) 185 hp2 ∧ mm_R X d 185 0 (mm_L0 185 [(.ref a0), .int i1, .int i2]) [] hp2 (mw_r0 (fun hp5 => Q none hp5))) ∧ (x3 = (2 : Int32) → mw_rc (.ref a0) 152 hp2 ∧ mm_R X d 152 0 (mm_L0 152 [(.ref a0), .int i1]) [] hp2 (mw_ri (fun x8 hp7 => mw_rc (.ref a0) 153 hp7 ∧ mm_R X d 153 0 (mm_L0 153 [(.ref a0), .int i1]) [] hp7 (mw_ri (fun x11 hp10 => mw_rc (.ref a0) 183 hp10 ∧ mm_R X d 183 0 (mm_L0 183 [(.ref a0), .int x8, .int x11]) [] hp10 (mw_r0 (fun hp13 => Q none hp13))))))))))) : mm_R X (d + 1) 182 0 (mm_L0 182 [(.ref a0), .int i1, .int i2]) [] hp Q := by
  show mm_R X (d + 1) 182 0 [some ((.ref a0)), some (.int i1), some (.int i2)] [] hp Q
  obtain ⟨hc1, H⟩ := H
  refine mm_R.cV (pc' := 2) (L' := [some ((.ref a0)), some (.int i1), some (.int i2)]) (st1 := [.int i1, (.ref a0)]) (as := [.int i1]) (rest := []) 2 rfl rfl (mw_sp rfl rfl (Nat.le_of_ble_eq_true rfl) (mw_ac rfl (mw_ac rfl mw_an)) mw_an) rfl rfl hc1 (H.mono (fun o hp2 H => ?_))
  obtain ⟨x3, rfl, H⟩ := H
  refine mm_R.br (L' := [some ((.ref a0)), some (.int i1), some (.int i2)]) (st' := []) (t := 26) (u := 9) (b := mm_cc .ne x3 (2 : Int32)) 2 rfl (fun c => ?_) (fun c => ?_)
  · replace H := H.1 (of_decide_eq_true c)
    obtain ⟨hc4, H⟩ := H
    refine mm_R.cV (pc' := 29) (L' := [some ((.ref a0)), some (.int i1), some (.int i2)]) (st1 := [.int i2, .int i1, (.ref a0)]) (as := [.int i1, .int i2]) (rest := []) 3 rfl rfl (mw_sp rfl rfl (Nat.le_of_ble_eq_true rfl) (mw_ac rfl (mw_ac rfl (mw_ac rfl mw_an))) mw_an) rfl rfl hc4 (H.mono (fun o hp5 H => ?_))
    obtain ⟨rfl, H⟩ := H
    exact mm_R.rt (pc' := 32) (L' := [some ((.ref a0)), some (.int i1), some (.int i2)]) (st1 := []) 0 rfl rfl rfl rfl rfl rfl H
  · replace H := H.2 (Decidable.of_not_not (of_decide_eq_false c))
    obtain ⟨hc6, H⟩ := H
    refine mm_R.cV (pc' := 12) (L' := [some ((.ref a0)), some (.int i1), some (.int i2)]) (st1 := [.int i1, (.ref a0), (.ref a0)]) (as := [.int i1]) (rest := [(.ref a0)]) 3 rfl rfl (mw_sp rfl rfl (Nat.le_of_ble_eq_true rfl) (mw_ac rfl (mw_ac rfl mw_an)) (mw_ac rfl mw_an)) rfl rfl hc6 (H.mono (fun o hp7 H => ?_))
    obtain ⟨x8, rfl, H⟩ := H
    obtain ⟨hc9, H⟩ := H
    refine mm_R.cV (pc' := 17) (L' := [some ((.ref a0)), some (.int i1), some (.int i2)]) (st1 := [.int i1, (.ref a0), .int x8, (.ref a0)]) (as := [.int i1]) (rest := [.int x8, (.ref a0)]) 2 rfl rfl (mw_sp rfl rfl (Nat.le_of_ble_eq_true rfl) (mw_ac rfl (mw_ac rfl mw_an)) (mw_ac rfl (mw_ac rfl mw_an))) rfl rfl hc9 (H.mono (fun o hp10 H => ?_))
    obtain ⟨x11, rfl, H⟩ := H
    obtain ⟨hc12, H⟩ := H
    refine mm_R.cV (pc' := 20) (L' := [some ((.ref a0)), some (.int i1), some (.int i2)]) (st1 := [.int x11, .int x8, (.ref a0)]) (as := [.int x8, .int x11]) (rest := []) 0 rfl rfl (mw_sp rfl rfl (Nat.le_of_ble_eq_true rfl) (mw_ac rfl (mw_ac rfl (mw_ac rfl mw_an))) mw_an) rfl rfl hc12 (H.mono (fun o hp13 H => ?_))
    obtain ⟨rfl, H⟩ := H
    exact mm_R.rt (pc' := 32) (L' := [some ((.ref a0)), some (.int i1), some (.int i2)]) (st1 := []) 1 rfl rfl rfl rfl rfl rfl H
-- StepRunnerModel.putText, from 0
set_option maxRecDepth 10000 in
theorem w183_0 {X : List Int32} {d : Nat} {a0 : Nat} {i1 : Int32} {i2 : Int32} {hp : mm_H} {Q : Option Value → mm_H → Prop} (H : mm_R X (d + 1) 183 2 [some ((.ref a0)), some (.int i1), some (.int i2), some (.int (0 : Int32))] [] hp Q) : mm_R X (d + 1) 183 0 (mm_L0 183 [(.ref a0), .int i1, .int i2]) [] hp Q := by
  show mm_R X (d + 1) 183 0 [some ((.ref a0)), some (.int i1), some (.int i2), none] [] hp Q
  exact mm_R.pn (pc' := 2) (L' := [some ((.ref a0)), some (.int i1), some (.int i2), some (.int (0 : Int32))]) (st' := []) 2 rfl H
-- StepRunnerModel.putText, from 2
set_option maxRecDepth 10000 in
theorem w183_2 {X : List Int32} {d : Nat} {a0 : Nat} {i1 : Int32} {i2 : Int32} {i3 : Int32} {hp : mm_H} {Q : Option Value → mm_H → Prop} (H : ((i2 ≤ i3 → Q none hp) ∧ (¬ i2 ≤ i3 → mw_rc (.ref a0) 154 hp ∧ mm_R X d 154 0 (mm_L0 154 [(.ref a0), .int (i1 + i3)]) [] hp (mw_ri (fun x3 hp2 => mw_rc (.ref a0) 184 hp2 ∧ mm_R X d 184 0 (mm_L0 184 [(.ref a0), .int x3]) [] hp2 (mw_r0 (fun hp5 => mm_R X (d + 1) 183 2 [some ((.ref a0)), some (.int i1), some (.int i2), some (.int (i3 + (1 : Int32)))] [] hp5 Q))))))) : mm_R X (d + 1) 183 2 [some ((.ref a0)), some (.int i1), some (.int i2), some (.int i3)] [] hp Q := by
  refine mm_R.br (L' := [some ((.ref a0)), some (.int i1), some (.int i2), some (.int i3)]) (st' := []) (t := 24) (u := 7) (b := mm_cc .ge i3 i2) 3 rfl (fun c => ?_) (fun c => ?_)
  · replace H := H.1 (of_decide_eq_true c)
    exact mm_R.rt (pc' := 24) (L' := [some ((.ref a0)), some (.int i1), some (.int i2), some (.int i3)]) (st1 := []) 0 rfl rfl rfl rfl rfl rfl H
  · replace H := H.2 (of_decide_eq_false c)
    obtain ⟨hc1, H⟩ := H
    refine mm_R.cV (pc' := 12) (L' := [some ((.ref a0)), some (.int i1), some (.int i2), some (.int i3)]) (st1 := [.int (i1 + i3), (.ref a0), (.ref a0)]) (as := [.int (i1 + i3)]) (rest := [(.ref a0)]) 5 rfl rfl (mw_sp rfl rfl (Nat.le_of_ble_eq_true rfl) (mw_ac rfl (mw_ac rfl mw_an)) (mw_ac rfl mw_an)) rfl rfl hc1 (H.mono (fun o hp2 H => ?_))
    obtain ⟨x3, rfl, H⟩ := H
    obtain ⟨hc4, H⟩ := H
    refine mm_R.cV (pc' := 15) (L' := [some ((.ref a0)), some (.int i1), some (.int i2), some (.int i3)]) (st1 := [.int x3, (.ref a0)]) (as := [.int x3]) (rest := []) 0 rfl rfl (mw_sp rfl rfl (Nat.le_of_ble_eq_true rfl) (mw_ac rfl (mw_ac rfl mw_an)) mw_an) rfl rfl hc4 (H.mono (fun o hp5 H => ?_))
    obtain ⟨rfl, H⟩ := H
    exact mm_R.pn (pc' := 2) (L' := [some ((.ref a0)), some (.int i1), some (.int i2), some (.int (i3 + (1 : Int32)))]) (st' := []) 2 rfl H
-- StepRunnerModel.put, from 0
set_option maxRecDepth 10000 in
theorem w184_0 {X : List Int32} {d : Nat} {a0 : Nat} {i1 : Int32} {hp : mm_H} {Q : Option Value → mm_H → Prop} (H : mw_gi 10 44 (.ref a0) hp (fun x1 => ((x1 = (0 : Int32) → mw_gi 10 40 (.ref a0) hp (fun x2 => ((x2 < (24 : Int32) → mw_gi 10 39 (.ref a0) hp (fun x3 => mw_gi 10 40 (.ref a0) hp (fun x4 => mw_rc (.ref a0) 138 hp ∧ mm_R X d 138 0 (mm_L0 138 [(.ref a0), .int (x3 + x4), .int i1]) [] hp (mw_r0 (fun hp6 => mw_gi 10 40 (.ref a0) hp6 (fun x7 => mw_pt 10 40 (.ref a0) (.int (x7 + (1 : Int32))) hp6 (fun hp8 => Q none hp8))))))) ∧ (¬ x2 < (24 : Int32) → mw_pt 10 43 (.ref a0) (.int (0 : Int32)) hp (fun hp9 => Q none hp9))))) ∧ (¬ x1 = (0 : Int32) → mw_gi 10 40 (.ref a0) hp (fun x10 => mw_gi 10 41 (.ref a0) hp (fun x11 => ((¬ x10 = x11 → mw_gi 10 42 (.ref a0) hp (fun x12 => mw_pt 10 42 (.ref a0) (.int x12) hp (fun hp13 => mw_gi 10 40 (.ref a0) hp13 (fun x14 => mw_pt 10 40 (.ref a0) (.int (x14 + (1 : Int32))) hp13 (fun hp15 => Q none hp15))))) ∧ (x10 = x11 → mw_pt 10 42 (.ref a0) (.int i1) hp (fun hp16 => mw_gi 10 40 (.ref a0) hp16 (fun x17 => mw_pt 10 40 (.ref a0) (.int (x17 + (1 : Int32))) hp16 (fun hp18 => Q none hp18))))))))))) : mm_R X (d + 1) 184 0 (mm_L0 184 [(.ref a0), .int i1]) [] hp Q := by
  show mm_R X (d + 1) 184 0 [some ((.ref a0)), some (.int i1)] [] hp Q
  refine mm_R.wgi (pc' := 1) (L' := [some ((.ref a0)), some (.int i1)]) (r := []) 1 rfl rfl (H.mono (fun x1 H => ?_))
  refine mm_R.br (L' := [some ((.ref a0)), some (.int i1)]) (st' := []) (t := 41) (u := 7) (b := mm_cc .eq x1 (0 : Int32)) 1 rfl (fun c => ?_) (fun c => ?_)
  · replace H := H.1 (of_decide_eq_true c)
    refine mm_R.wgi (pc' := 42) (L' := [some ((.ref a0)), some (.int i1)]) (r := []) 1 rfl rfl (H.mono (fun x2 H => ?_))
    refine mm_R.br (L' := [some ((.ref a0)), some (.int i1)]) (st' := []) (t := 56) (u := 50) (b := mm_cc .lt x2 (24 : Int32)) 2 rfl (fun c => ?_) (fun c => ?_)
    · replace H := H.1 (of_decide_eq_true c)
      refine mm_R.wgi (pc' := 58) (L' := [some ((.ref a0)), some (.int i1)]) (r := [(.ref a0)]) 2 rfl rfl (H.mono (fun x3 H => ?_))
      refine mm_R.wgi (pc' := 62) (L' := [some ((.ref a0)), some (.int i1)]) (r := [.int x3, (.ref a0)]) 1 rfl rfl (H.mono (fun x4 H => ?_))
      obtain ⟨hc5, H⟩ := H
      refine mm_R.cV (pc' := 67) (L' := [some ((.ref a0)), some (.int i1)]) (st1 := [.int i1, .int (x3 + x4), (.ref a0)]) (as := [.int (x3 + x4), .int i1]) (rest := []) 2 rfl rfl (mw_sp rfl rfl (Nat.le_of_ble_eq_true rfl) (mw_ac rfl (mw_ac rfl (mw_ac rfl mw_an))) mw_an) rfl rfl hc5 (H.mono (fun o hp6 H => ?_))
      obtain ⟨rfl, H⟩ := H
      refine mm_R.wgi (pc' := 72) (L' := [some ((.ref a0)), some (.int i1)]) (r := [(.ref a0)]) 2 rfl rfl (H.mono (fun x7 H => ?_))
      refine mm_R.wpt (pc' := 77) (L' := [some ((.ref a0)), some (.int i1)]) (r := []) 2 rfl rfl (H.mono (fun hp8 H => ?_))
      exact mm_R.rt (pc' := 80) (L' := [some ((.ref a0)), some (.int i1)]) (st1 := []) 0 rfl rfl rfl rfl rfl rfl H
    · replace H := H.2 (of_decide_eq_false c)
      refine mm_R.wpt (pc' := 52) (L' := [some ((.ref a0)), some (.int i1)]) (r := []) 2 rfl rfl (H.mono (fun hp9 H => ?_))
      exact mm_R.rt (pc' := 55) (L' := [some ((.ref a0)), some (.int i1)]) (st1 := []) 0 rfl rfl rfl rfl rfl rfl H
  · replace H := H.2 (of_decide_eq_false c)
    refine mm_R.wgi (pc' := 9) (L' := [some ((.ref a0)), some (.int i1)]) (r := [(.ref a0)]) 2 rfl rfl (H.mono (fun x10 H => ?_))
    refine mm_R.wgi (pc' := 13) (L' := [some ((.ref a0)), some (.int i1)]) (r := [.int x10, (.ref a0)]) 1 rfl rfl (H.mono (fun x11 H => ?_))
    refine mm_R.br (L' := [some ((.ref a0)), some (.int i1)]) (st' := [(.ref a0)]) (t := 23) (u := 19) (b := mm_cc .ne x10 x11) 1 rfl (fun c => ?_) (fun c => ?_)
    · replace H := H.1 (of_decide_eq_true c)
      refine mm_R.wgi (pc' := 24) (L' := [some ((.ref a0)), some (.int i1)]) (r := [(.ref a0)]) 1 rfl rfl (H.mono (fun x12 H => ?_))
      refine mm_R.wpt (pc' := 27) (L' := [some ((.ref a0)), some (.int i1)]) (r := []) 0 rfl rfl (H.mono (fun hp13 H => ?_))
      refine mm_R.wgi (pc' := 32) (L' := [some ((.ref a0)), some (.int i1)]) (r := [(.ref a0)]) 2 rfl rfl (H.mono (fun x14 H => ?_))
      refine mm_R.wpt (pc' := 37) (L' := [some ((.ref a0)), some (.int i1)]) (r := []) 2 rfl rfl (H.mono (fun hp15 H => ?_))
      exact mm_R.rt (pc' := 40) (L' := [some ((.ref a0)), some (.int i1)]) (st1 := []) 0 rfl rfl rfl rfl rfl rfl H
    · replace H := H.2 (Decidable.of_not_not (of_decide_eq_false c))
      refine mm_R.wpt (pc' := 27) (L' := [some ((.ref a0)), some (.int i1)]) (r := []) 2 rfl rfl (H.mono (fun hp16 H => ?_))
      refine mm_R.wgi (pc' := 32) (L' := [some ((.ref a0)), some (.int i1)]) (r := [(.ref a0)]) 2 rfl rfl (H.mono (fun x17 H => ?_))
      refine mm_R.wpt (pc' := 37) (L' := [some ((.ref a0)), some (.int i1)]) (r := []) 2 rfl rfl (H.mono (fun hp18 H => ?_))
      exact mm_R.rt (pc' := 40) (L' := [some ((.ref a0)), some (.int i1)]) (st1 := []) 0 rfl rfl rfl rfl rfl rfl H
-- StepRunnerModel.putForm, from 0
set_option maxRecDepth 10000 in
theorem w185_0 {X : List Int32} {d : Nat} {a0 : Nat} {i1 : Int32} {i2 : Int32} {hp : mm_H} {Q : Option Value → mm_H → Prop} (H : mw_rc (.ref a0) 147 hp ∧ mm_R X d 147 0 (mm_L0 147 [(.ref a0), .int i1, .int i2]) [] hp (mw_ri (fun x3 hp2 => mw_rc (.ref a0) 145 hp2 ∧ mm_R X d 145 0 (mm_L0 145 [(.ref a0), .int i1]) [] hp2 (mw_ri (fun x6 hp5 => mm_R X (d + 1) 185 17 [some ((.ref a0)), some (.int i1), some (.int i2), some (.int x3), some (.int x6), some (.int i1)] [] hp5 Q))))) : mm_R X (d + 1) 185 0 (mm_L0 185 [(.ref a0), .int i1, .int i2]) [] hp Q := by
  show mm_R X (d + 1) 185 0 [some ((.ref a0)), some (.int i1), some (.int i2), none, none, none] [] hp Q
  obtain ⟨hc1, H⟩ := H
  refine mm_R.cV (pc' := 3) (L' := [some ((.ref a0)), some (.int i1), some (.int i2), none, none, none]) (st1 := [.int i2, .int i1, (.ref a0)]) (as := [.int i1, .int i2]) (rest := []) 3 rfl rfl (mw_sp rfl rfl (Nat.le_of_ble_eq_true rfl) (mw_ac rfl (mw_ac rfl (mw_ac rfl mw_an))) mw_an) rfl rfl hc1 (H.mono (fun o hp2 H => ?_))
  obtain ⟨x3, rfl, H⟩ := H
  obtain ⟨hc4, H⟩ := H
  refine mm_R.cV (pc' := 9) (L' := [some ((.ref a0)), some (.int i1), some (.int i2), some (.int x3), none, none]) (st1 := [.int i1, (.ref a0)]) (as := [.int i1]) (rest := []) 3 rfl rfl (mw_sp rfl rfl (Nat.le_of_ble_eq_true rfl) (mw_ac rfl (mw_ac rfl mw_an)) mw_an) rfl rfl hc4 (H.mono (fun o hp5 H => ?_))
  obtain ⟨x6, rfl, H⟩ := H
  exact mm_R.pn (pc' := 17) (L' := [some ((.ref a0)), some (.int i1), some (.int i2), some (.int x3), some (.int x6), some (.int i1)]) (st' := []) 3 rfl H
-- StepRunnerModel.putForm, from 17
set_option maxRecDepth 10000 in
theorem w185_17 {X : List Int32} {d : Nat} {a0 : Nat} {i1 : Int32} {i2 : Int32} {i3 : Int32} {i4 : Int32} {i5 : Int32} {hp : mm_H} {Q : Option Value → mm_H → Prop} (H : ((i3 ≤ i5 → mm_R X (d + 1) 185 217 [some ((.ref a0)), some (.int i1), some (.int i2), some (.int i3), some (.int i4), some (.int i5)] [] hp Q) ∧ (¬ i3 ≤ i5 → mw_gi 10 43 (.ref a0) hp (fun x1 => ((x1 = (0 : Int32) → mm_R X (d + 1) 185 217 [some ((.ref a0)), some (.int i1), some (.int i2), some (.int i3), some (.int i4), some (.int i5)] [] hp Q) ∧ (¬ x1 = (0 : Int32) → mm_R X (d + 1) 185 30 [some ((.ref a0)), some (.int i1), some (.int i2), some (.int i3), some (.int i4), some (.int i5)] [] hp Q)))))) : mm_R X (d + 1) 185 17 [some ((.ref a0)), some (.int i1), some (.int i2), some (.int i3), some (.int i4), some (.int i5)] [] hp Q := by
  refine mm_R.br (L' := [some ((.ref a0)), some (.int i1), some (.int i2), some (.int i3), some (.int i4), some (.int i5)]) (st' := []) (t := 217) (u := 23) (b := mm_cc .ge i5 i3) 3 rfl (fun c => ?_) (fun c => ?_)
  · replace H := H.1 (of_decide_eq_true c)
    exact H
  · replace H := H.2 (of_decide_eq_false c)
    refine mm_R.wgi (pc' := 24) (L' := [some ((.ref a0)), some (.int i1), some (.int i2), some (.int i3), some (.int i4), some (.int i5)]) (r := []) 1 rfl rfl (H.mono (fun x1 H => ?_))
    refine mm_R.br (L' := [some ((.ref a0)), some (.int i1), some (.int i2), some (.int i3), some (.int i4), some (.int i5)]) (st' := []) (t := 217) (u := 30) (b := mm_cc .eq x1 (0 : Int32)) 1 rfl (fun c => ?_) (fun c => ?_)
    · replace H := H.1 (of_decide_eq_true c)
      exact H
    · replace H := H.2 (of_decide_eq_false c)
      exact H
-- StepRunnerModel.putForm, from 30
set_option maxRecDepth 10000 in
theorem w185_30 {X : List Int32} {d : Nat} {a0 : Nat} {i1 : Int32} {i2 : Int32} {i3 : Int32} {i4 : Int32} {i5 : Int32} {hp : mm_H} {Q : Option Value → mm_H → Prop} (H : mw_rc (.ref a0) 145 hp ∧ mm_R X d 145 0 (mm_L0 145 [(.ref a0), .int i5]) [] hp (mw_ri (fun x3 hp2 => ((i4 ≤ x3 → ((i5 ≤ i1 → mm_R X (d + 1) 185 94 [some ((.ref a0)), some (.int i1), some (.int i2), some (.int i3), some (.int i4), some (.int i5)] [] hp2 Q) ∧ (¬ i5 ≤ i1 → mw_rc (.ref a0) 144 hp2 ∧ mm_R X d 144 0 (mm_L0 144 [(.ref a0), .int (i5 - (1 : Int32))]) [] hp2 (mw_ri (fun x6 hp5 => ((¬ x6 = (3 : Int32) → mw_rc (.ref a0) 184 hp5 ∧ mm_R X d 184 0 (mm_L0 184 [(.ref a0), .int (44 : Int32)]) [] hp5 (mw_r0 (fun hp8 => mm_R X (d + 1) 185 94 [some ((.ref a0)), some (.int i1), some (.int i2), some (.int i3), some (.int i4), some (.int i5)] [] hp8 Q))) ∧ (x6 = (3 : Int32) → mw_rc (.ref a0) 145 hp5 ∧ mm_R X d 145 0 (mm_L0 145 [(.ref a0), .int (i5 - (1 : Int32))]) [] hp5 (mw_ri (fun x11 hp10 => mw_rc (.ref a0) 145 hp10 ∧ mm_R X d 145 0 (mm_L0 145 [(.ref a0), .int i5]) [] hp10 (mw_ri (fun x14 hp13 => ((x11 < x14 → mm_R X (d + 1) 185 94 [some ((.ref a0)), some (.int i1), some (.int i2), some (.int i3), some (.int i4), some (.int i5)] [] hp13 Q) ∧ (¬ x11 < x14 → mw_rc (.ref a0) 184 hp13 ∧ mm_R X d 184 0 (mm_L0 184 [(.ref a0), .int (44 : Int32)]) [] hp13 (mw_r0 (fun hp16 => mm_R X (d + 1) 185 94 [some ((.ref a0)), some (.int i1), some (.int i2), some (.int i3), some (.int i4), some (.int i5)] [] hp16 Q))))))))))))))) ∧ (¬ i4 ≤ x3 → mw_rc (.ref a0) 184 hp2 ∧ mm_R X d 184 0 (mm_L0 184 [(.ref a0), .int (93 : Int32)]) [] hp2 (mw_r0 (fun hp18 => mm_R X (d + 1) 185 30 [some ((.ref a0)), some (.int i1), some (.int i2), some (.int i3), some (.int (i4 + (-1 : Int32))), some (.int i5)] [] hp18 Q))))))) : mm_R X (d + 1) 185 30 [some ((.ref a0)), some (.int i1), some (.int i2), some (.int i3), some (.int i4), some (.int i5)] [] hp Q := by
  obtain ⟨hc1, H⟩ := H
  refine mm_R.cV (pc' := 35) (L' := [some ((.ref a0)), some (.int i1), some (.int i2), some (.int i3), some (.int i4), some (.int i5)]) (st1 := [.int i5, (.ref a0), .int i4]) (as := [.int i5]) (rest := [.int i4]) 3 rfl rfl (mw_sp rfl rfl (Nat.le_of_ble_eq_true rfl) (mw_ac rfl (mw_ac rfl mw_an)) (mw_ac rfl mw_an)) rfl rfl hc1 (H.mono (fun o hp2 H => ?_))
  obtain ⟨x3, rfl, H⟩ := H
  refine mm_R.br (L' := [some ((.ref a0)), some (.int i1), some (.int i2), some (.int i3), some (.int i4), some (.int i5)]) (st' := []) (t := 53) (u := 41) (b := mm_cc .le i4 x3) 1 rfl (fun c => ?_) (fun c => ?_)
  · replace H := H.1 (of_decide_eq_true c)
    refine mm_R.br (L' := [some ((.ref a0)), some (.int i1), some (.int i2), some (.int i3), some (.int i4), some (.int i5)]) (st' := []) (t := 94) (u := 59) (b := mm_cc .le i5 i1) 3 rfl (fun c => ?_) (fun c => ?_)
    · replace H := H.1 (of_decide_eq_true c)
      exact H
    · replace H := H.2 (of_decide_eq_false c)
      obtain ⟨hc4, H⟩ := H
      refine mm_R.cV (pc' := 64) (L' := [some ((.ref a0)), some (.int i1), some (.int i2), some (.int i3), some (.int i4), some (.int i5)]) (st1 := [.int (i5 - (1 : Int32)), (.ref a0)]) (as := [.int (i5 - (1 : Int32))]) (rest := []) 4 rfl rfl (mw_sp rfl rfl (Nat.le_of_ble_eq_true rfl) (mw_ac rfl (mw_ac rfl mw_an)) mw_an) rfl rfl hc4 (H.mono (fun o hp5 H => ?_))
      obtain ⟨x6, rfl, H⟩ := H
      refine mm_R.br (L' := [some ((.ref a0)), some (.int i1), some (.int i2), some (.int i3), some (.int i4), some (.int i5)]) (st' := []) (t := 88) (u := 71) (b := mm_cc .ne x6 (3 : Int32)) 2 rfl (fun c => ?_) (fun c => ?_)
      · replace H := H.1 (of_decide_eq_true c)
        obtain ⟨hc7, H⟩ := H
        refine mm_R.cV (pc' := 91) (L' := [some ((.ref a0)), some (.int i1), some (.int i2), some (.int i3), some (.int i4), some (.int i5)]) (st1 := [.int (44 : Int32), (.ref a0)]) (as := [.int (44 : Int32)]) (rest := []) 2 rfl rfl (mw_sp rfl rfl (Nat.le_of_ble_eq_true rfl) (mw_ac rfl (mw_ac rfl mw_an)) mw_an) rfl rfl hc7 (H.mono (fun o hp8 H => ?_))
        obtain ⟨rfl, H⟩ := H
        exact H
      · replace H := H.2 (Decidable.of_not_not (of_decide_eq_false c))
        obtain ⟨hc9, H⟩ := H
        refine mm_R.cV (pc' := 76) (L' := [some ((.ref a0)), some (.int i1), some (.int i2), some (.int i3), some (.int i4), some (.int i5)]) (st1 := [.int (i5 - (1 : Int32)), (.ref a0)]) (as := [.int (i5 - (1 : Int32))]) (rest := []) 4 rfl rfl (mw_sp rfl rfl (Nat.le_of_ble_eq_true rfl) (mw_ac rfl (mw_ac rfl mw_an)) mw_an) rfl rfl hc9 (H.mono (fun o hp10 H => ?_))
        obtain ⟨x11, rfl, H⟩ := H
        obtain ⟨hc12, H⟩ := H
        refine mm_R.cV (pc' := 82) (L' := [some ((.ref a0)), some (.int i1), some (.int i2), some (.int i3), some (.int i4), some (.int i5)]) (st1 := [.int i5, (.ref a0), .int x11]) (as := [.int i5]) (rest := [.int x11]) 2 rfl rfl (mw_sp rfl rfl (Nat.le_of_ble_eq_true rfl) (mw_ac rfl (mw_ac rfl mw_an)) (mw_ac rfl mw_an)) rfl rfl hc12 (H.mono (fun o hp13 H => ?_))
        obtain ⟨x14, rfl, H⟩ := H
        refine mm_R.br (L' := [some ((.ref a0)), some (.int i1), some (.int i2), some (.int i3), some (.int i4), some (.int i5)]) (st' := []) (t := 94) (u := 88) (b := mm_cc .lt x11 x14) 1 rfl (fun c => ?_) (fun c => ?_)
        · replace H := H.1 (of_decide_eq_true c)
          exact H
        · replace H := H.2 (of_decide_eq_false c)
          obtain ⟨hc15, H⟩ := H
          refine mm_R.cV (pc' := 91) (L' := [some ((.ref a0)), some (.int i1), some (.int i2), some (.int i3), some (.int i4), some (.int i5)]) (st1 := [.int (44 : Int32), (.ref a0)]) (as := [.int (44 : Int32)]) (rest := []) 2 rfl rfl (mw_sp rfl rfl (Nat.le_of_ble_eq_true rfl) (mw_ac rfl (mw_ac rfl mw_an)) mw_an) rfl rfl hc15 (H.mono (fun o hp16 H => ?_))
          obtain ⟨rfl, H⟩ := H
          exact H
  · replace H := H.2 (of_decide_eq_false c)
    obtain ⟨hc17, H⟩ := H
    refine mm_R.cV (pc' := 44) (L' := [some ((.ref a0)), some (.int i1), some (.int i2), some (.int i3), some (.int i4), some (.int i5)]) (st1 := [.int (93 : Int32), (.ref a0)]) (as := [.int (93 : Int32)]) (rest := []) 2 rfl rfl (mw_sp rfl rfl (Nat.le_of_ble_eq_true rfl) (mw_ac rfl (mw_ac rfl mw_an)) mw_an) rfl rfl hc17 (H.mono (fun o hp18 H => ?_))
    obtain ⟨rfl, H⟩ := H
    exact mm_R.pn (pc' := 30) (L' := [some ((.ref a0)), some (.int i1), some (.int i2), some (.int i3), some (.int (i4 + (-1 : Int32))), some (.int i5)]) (st' := []) 2 rfl H
-- StepRunnerModel.putForm, from 94
set_option maxRecDepth 10000 in
theorem w185_94 {X : List Int32} {d : Nat} {a0 : Nat} {i1 : Int32} {i2 : Int32} {i3 : Int32} {i4 : Int32} {i5 : Int32} {hp : mm_H} {Q : Option Value → mm_H → Prop} (H : mw_rc (.ref a0) 144 hp ∧ mm_R X d 144 0 (mm_L0 144 [(.ref a0), .int i5]) [] hp (mw_ri (fun x3 hp2 => ((¬ x3 = (0 : Int32) → mw_rc (.ref a0) 144 hp2 ∧ mm_R X d 144 0 (mm_L0 144 [(.ref a0), .int i5]) [] hp2 (mw_ri (fun x6 hp5 => ((¬ x6 = (1 : Int32) → mm_R X (d + 1) 185 147 [some ((.ref a0)), some (.int i1), some (.int i2), some (.int i3), some (.int i4), some (.int i5)] [] hp5 Q) ∧ (x6 = (1 : Int32) → mw_rc (.ref a0) 151 hp5 ∧ mm_R X d 151 0 (mm_L0 151 [(.ref a0), .int i5]) [] hp5 (mw_ri (fun x9 hp8 => mw_rc (.ref a0) 186 hp8 ∧ mm_R X d 186 0 (mm_L0 186 [(.ref a0), .int x9]) [] hp8 (mw_r0 (fun hp11 => mm_R X (d + 1) 185 147 [some ((.ref a0)), some (.int i1), some (.int i2), some (.int i3), some (.int i4), some (.int i5)] [] hp11 Q))))))))) ∧ (x3 = (0 : Int32) → mw_rc (.ref a0) 184 hp2 ∧ mm_R X d 184 0 (mm_L0 184 [(.ref a0), .int (110 : Int32)]) [] hp2 (mw_r0 (fun hp13 => mw_rc (.ref a0) 184 hp13 ∧ mm_R X d 184 0 (mm_L0 184 [(.ref a0), .int (117 : Int32)]) [] hp13 (mw_r0 (fun hp15 => mw_rc (.ref a0) 184 hp15 ∧ mm_R X d 184 0 (mm_L0 184 [(.ref a0), .int (108 : Int32)]) [] hp15 (mw_r0 (fun hp17 => mw_rc (.ref a0) 184 hp17 ∧ mm_R X d 184 0 (mm_L0 184 [(.ref a0), .int (108 : Int32)]) [] hp17 (mw_r0 (fun hp19 => mw_rc (.ref a0) 144 hp19 ∧ mm_R X d 144 0 (mm_L0 144 [(.ref a0), .int i5]) [] hp19 (mw_ri (fun x22 hp21 => ((¬ x22 = (1 : Int32) → mm_R X (d + 1) 185 147 [some ((.ref a0)), some (.int i1), some (.int i2), some (.int i3), some (.int i4), some (.int i5)] [] hp21 Q) ∧ (x22 = (1 : Int32) → mw_rc (.ref a0) 151 hp21 ∧ mm_R X d 151 0 (mm_L0 151 [(.ref a0), .int i5]) [] hp21 (mw_ri (fun x25 hp24 => mw_rc (.ref a0) 186 hp24 ∧ mm_R X d 186 0 (mm_L0 186 [(.ref a0), .int x25]) [] hp24 (mw_r0 (fun hp27 => mm_R X (d + 1) 185 147 [some ((.ref a0)), some (.int i1), some (.int i2), some (.int i3), some (.int i4), some (.int i5)] [] hp27 Q))))))))))))))))))))) : mm_R X (d + 1) 185 94 [some ((.ref a0)), some (.int i1), some (.int i2), some (.int i3), some (.int i4), some (.int i5)] [] hp Q := by
  obtain ⟨hc1, H⟩ := H
  refine mm_R.cV (pc' := 97) (L' := [some ((.ref a0)), some (.int i1), some (.int i2), some (.int i3), some (.int i4), some (.int i5)]) (st1 := [.int i5, (.ref a0)]) (as := [.int i5]) (rest := []) 2 rfl rfl (mw_sp rfl rfl (Nat.le_of_ble_eq_true rfl) (mw_ac rfl (mw_ac rfl mw_an)) mw_an) rfl rfl hc1 (H.mono (fun o hp2 H => ?_))
  obtain ⟨x3, rfl, H⟩ := H
  refine mm_R.br (L' := [some ((.ref a0)), some (.int i1), some (.int i2), some (.int i3), some (.int i4), some (.int i5)]) (st' := []) (t := 127) (u := 103) (b := mm_cc .ne x3 (0 : Int32)) 1 rfl (fun c => ?_) (fun c => ?_)
  · replace H := H.1 (of_decide_eq_true c)
    obtain ⟨hc4, H⟩ := H
    refine mm_R.cV (pc' := 130) (L' := [some ((.ref a0)), some (.int i1), some (.int i2), some (.int i3), some (.int i4), some (.int i5)]) (st1 := [.int i5, (.ref a0)]) (as := [.int i5]) (rest := []) 2 rfl rfl (mw_sp rfl rfl (Nat.le_of_ble_eq_true rfl) (mw_ac rfl (mw_ac rfl mw_an)) mw_an) rfl rfl hc4 (H.mono (fun o hp5 H => ?_))
    obtain ⟨x6, rfl, H⟩ := H
    refine mm_R.br (L' := [some ((.ref a0)), some (.int i1), some (.int i2), some (.int i3), some (.int i4), some (.int i5)]) (st' := []) (t := 147) (u := 137) (b := mm_cc .ne x6 (1 : Int32)) 2 rfl (fun c => ?_) (fun c => ?_)
    · replace H := H.1 (of_decide_eq_true c)
      exact H
    · replace H := H.2 (Decidable.of_not_not (of_decide_eq_false c))
      obtain ⟨hc7, H⟩ := H
      refine mm_R.cV (pc' := 141) (L' := [some ((.ref a0)), some (.int i1), some (.int i2), some (.int i3), some (.int i4), some (.int i5)]) (st1 := [.int i5, (.ref a0), (.ref a0)]) (as := [.int i5]) (rest := [(.ref a0)]) 3 rfl rfl (mw_sp rfl rfl (Nat.le_of_ble_eq_true rfl) (mw_ac rfl (mw_ac rfl mw_an)) (mw_ac rfl mw_an)) rfl rfl hc7 (H.mono (fun o hp8 H => ?_))
      obtain ⟨x9, rfl, H⟩ := H
      obtain ⟨hc10, H⟩ := H
      refine mm_R.cV (pc' := 144) (L' := [some ((.ref a0)), some (.int i1), some (.int i2), some (.int i3), some (.int i4), some (.int i5)]) (st1 := [.int x9, (.ref a0)]) (as := [.int x9]) (rest := []) 0 rfl rfl (mw_sp rfl rfl (Nat.le_of_ble_eq_true rfl) (mw_ac rfl (mw_ac rfl mw_an)) mw_an) rfl rfl hc10 (H.mono (fun o hp11 H => ?_))
      obtain ⟨rfl, H⟩ := H
      exact H
  · replace H := H.2 (Decidable.of_not_not (of_decide_eq_false c))
    obtain ⟨hc12, H⟩ := H
    refine mm_R.cV (pc' := 106) (L' := [some ((.ref a0)), some (.int i1), some (.int i2), some (.int i3), some (.int i4), some (.int i5)]) (st1 := [.int (110 : Int32), (.ref a0)]) (as := [.int (110 : Int32)]) (rest := []) 2 rfl rfl (mw_sp rfl rfl (Nat.le_of_ble_eq_true rfl) (mw_ac rfl (mw_ac rfl mw_an)) mw_an) rfl rfl hc12 (H.mono (fun o hp13 H => ?_))
    obtain ⟨rfl, H⟩ := H
    obtain ⟨hc14, H⟩ := H
    refine mm_R.cV (pc' := 112) (L' := [some ((.ref a0)), some (.int i1), some (.int i2), some (.int i3), some (.int i4), some (.int i5)]) (st1 := [.int (117 : Int32), (.ref a0)]) (as := [.int (117 : Int32)]) (rest := []) 2 rfl rfl (mw_sp rfl rfl (Nat.le_of_ble_eq_true rfl) (mw_ac rfl (mw_ac rfl mw_an)) mw_an) rfl rfl hc14 (H.mono (fun o hp15 H => ?_))
    obtain ⟨rfl, H⟩ := H
    obtain ⟨hc16, H⟩ := H
    refine mm_R.cV (pc' := 118) (L' := [some ((.ref a0)), some (.int i1), some (.int i2), some (.int i3), some (.int i4), some (.int i5)]) (st1 := [.int (108 : Int32), (.ref a0)]) (as := [.int (108 : Int32)]) (rest := []) 2 rfl rfl (mw_sp rfl rfl (Nat.le_of_ble_eq_true rfl) (mw_ac rfl (mw_ac rfl mw_an)) mw_an) rfl rfl hc16 (H.mono (fun o hp17 H => ?_))
    obtain ⟨rfl, H⟩ := H
    obtain ⟨hc18, H⟩ := H
    refine mm_R.cV (pc' := 124) (L' := [some ((.ref a0)), some (.int i1), some (.int i2), some (.int i3), some (.int i4), some (.int i5)]) (st1 := [.int (108 : Int32), (.ref a0)]) (as := [.int (108 : Int32)]) (rest := []) 2 rfl rfl (mw_sp rfl rfl (Nat.le_of_ble_eq_true rfl) (mw_ac rfl (mw_ac rfl mw_an)) mw_an) rfl rfl hc18 (H.mono (fun o hp19 H => ?_))
    obtain ⟨rfl, H⟩ := H
    obtain ⟨hc20, H⟩ := H
    refine mm_R.cV (pc' := 130) (L' := [some ((.ref a0)), some (.int i1), some (.int i2), some (.int i3), some (.int i4), some (.int i5)]) (st1 := [.int i5, (.ref a0)]) (as := [.int i5]) (rest := []) 2 rfl rfl (mw_sp rfl rfl (Nat.le_of_ble_eq_true rfl) (mw_ac rfl (mw_ac rfl mw_an)) mw_an) rfl rfl hc20 (H.mono (fun o hp21 H => ?_))
    obtain ⟨x22, rfl, H⟩ := H
    refine mm_R.br (L' := [some ((.ref a0)), some (.int i1), some (.int i2), some (.int i3), some (.int i4), some (.int i5)]) (st' := []) (t := 147) (u := 137) (b := mm_cc .ne x22 (1 : Int32)) 2 rfl (fun c => ?_) (fun c => ?_)
    · replace H := H.1 (of_decide_eq_true c)
      exact H
    · replace H := H.2 (Decidable.of_not_not (of_decide_eq_false c))
      obtain ⟨hc23, H⟩ := H
      refine mm_R.cV (pc' := 141) (L' := [some ((.ref a0)), some (.int i1), some (.int i2), some (.int i3), some (.int i4), some (.int i5)]) (st1 := [.int i5, (.ref a0), (.ref a0)]) (as := [.int i5]) (rest := [(.ref a0)]) 3 rfl rfl (mw_sp rfl rfl (Nat.le_of_ble_eq_true rfl) (mw_ac rfl (mw_ac rfl mw_an)) (mw_ac rfl mw_an)) rfl rfl hc23 (H.mono (fun o hp24 H => ?_))
      obtain ⟨x25, rfl, H⟩ := H
      obtain ⟨hc26, H⟩ := H
      refine mm_R.cV (pc' := 144) (L' := [some ((.ref a0)), some (.int i1), some (.int i2), some (.int i3), some (.int i4), some (.int i5)]) (st1 := [.int x25, (.ref a0)]) (as := [.int x25]) (rest := []) 0 rfl rfl (mw_sp rfl rfl (Nat.le_of_ble_eq_true rfl) (mw_ac rfl (mw_ac rfl mw_an)) mw_an) rfl rfl hc26 (H.mono (fun o hp27 H => ?_))
      obtain ⟨rfl, H⟩ := H
      exact H
-- StepRunnerModel.putForm, from 147
set_option maxRecDepth 10000 in
theorem w185_147 {X : List Int32} {d : Nat} {a0 : Nat} {i1 : Int32} {i2 : Int32} {i3 : Int32} {i4 : Int32} {i5 : Int32} {hp : mm_H} {Q : Option Value → mm_H → Prop} (H : mw_rc (.ref a0) 144 hp ∧ mm_R X d 144 0 (mm_L0 144 [(.ref a0), .int i5]) [] hp (mw_ri (fun x3 hp2 => ((¬ x3 = (2 : Int32) → mm_R X (d + 1) 185 185 [some ((.ref a0)), some (.int i1), some (.int i2), some (.int i3), some (.int i4), some (.int i5)] [] hp2 Q) ∧ (x3 = (2 : Int32) → mw_rc (.ref a0) 184 hp2 ∧ mm_R X d 184 0 (mm_L0 184 [(.ref a0), .int (34 : Int32)]) [] hp2 (mw_r0 (fun hp5 => mw_rc (.ref a0) 152 hp5 ∧ mm_R X d 152 0 (mm_L0 152 [(.ref a0), .int i5]) [] hp5 (mw_ri (fun x8 hp7 => mw_rc (.ref a0) 153 hp7 ∧ mm_R X d 153 0 (mm_L0 153 [(.ref a0), .int i5]) [] hp7 (mw_ri (fun x11 hp10 => mw_rc (.ref a0) 183 hp10 ∧ mm_R X d 183 0 (mm_L0 183 [(.ref a0), .int x8, .int x11]) [] hp10 (mw_r0 (fun hp13 => mw_rc (.ref a0) 184 hp13 ∧ mm_R X d 184 0 (mm_L0 184 [(.ref a0), .int (34 : Int32)]) [] hp13 (mw_r0 (fun hp15 => mm_R X (d + 1) 185 185 [some ((.ref a0)), some (.int i1), some (.int i2), some (.int i3), some (.int i4), some (.int i5)] [] hp15 Q))))))))))))))) : mm_R X (d + 1) 185 147 [some ((.ref a0)), some (.int i1), some (.int i2), some (.int i3), some (.int i4), some (.int i5)] [] hp Q := by
  obtain ⟨hc1, H⟩ := H
  refine mm_R.cV (pc' := 150) (L' := [some ((.ref a0)), some (.int i1), some (.int i2), some (.int i3), some (.int i4), some (.int i5)]) (st1 := [.int i5, (.ref a0)]) (as := [.int i5]) (rest := []) 2 rfl rfl (mw_sp rfl rfl (Nat.le_of_ble_eq_true rfl) (mw_ac rfl (mw_ac rfl mw_an)) mw_an) rfl rfl hc1 (H.mono (fun o hp2 H => ?_))
  obtain ⟨x3, rfl, H⟩ := H
  refine mm_R.br (L' := [some ((.ref a0)), some (.int i1), some (.int i2), some (.int i3), some (.int i4), some (.int i5)]) (st' := []) (t := 185) (u := 157) (b := mm_cc .ne x3 (2 : Int32)) 2 rfl (fun c => ?_) (fun c => ?_)
  · replace H := H.1 (of_decide_eq_true c)
    exact H
  · replace H := H.2 (Decidable.of_not_not (of_decide_eq_false c))
    obtain ⟨hc4, H⟩ := H
    refine mm_R.cV (pc' := 160) (L' := [some ((.ref a0)), some (.int i1), some (.int i2), some (.int i3), some (.int i4), some (.int i5)]) (st1 := [.int (34 : Int32), (.ref a0)]) (as := [.int (34 : Int32)]) (rest := []) 2 rfl rfl (mw_sp rfl rfl (Nat.le_of_ble_eq_true rfl) (mw_ac rfl (mw_ac rfl mw_an)) mw_an) rfl rfl hc4 (H.mono (fun o hp5 H => ?_))
    obtain ⟨rfl, H⟩ := H
    obtain ⟨hc6, H⟩ := H
    refine mm_R.cV (pc' := 167) (L' := [some ((.ref a0)), some (.int i1), some (.int i2), some (.int i3), some (.int i4), some (.int i5)]) (st1 := [.int i5, (.ref a0), (.ref a0)]) (as := [.int i5]) (rest := [(.ref a0)]) 3 rfl rfl (mw_sp rfl rfl (Nat.le_of_ble_eq_true rfl) (mw_ac rfl (mw_ac rfl mw_an)) (mw_ac rfl mw_an)) rfl rfl hc6 (H.mono (fun o hp7 H => ?_))
    obtain ⟨x8, rfl, H⟩ := H
    obtain ⟨hc9, H⟩ := H
    refine mm_R.cV (pc' := 173) (L' := [some ((.ref a0)), some (.int i1), some (.int i2), some (.int i3), some (.int i4), some (.int i5)]) (st1 := [.int i5, (.ref a0), .int x8, (.ref a0)]) (as := [.int i5]) (rest := [.int x8, (.ref a0)]) 2 rfl rfl (mw_sp rfl rfl (Nat.le_of_ble_eq_true rfl) (mw_ac rfl (mw_ac rfl mw_an)) (mw_ac rfl (mw_ac rfl mw_an))) rfl rfl hc9 (H.mono (fun o hp10 H => ?_))
    obtain ⟨x11, rfl, H⟩ := H
    obtain ⟨hc12, H⟩ := H
    refine mm_R.cV (pc' := 176) (L' := [some ((.ref a0)), some (.int i1), some (.int i2), some (.int i3), some (.int i4), some (.int i5)]) (st1 := [.int x11, .int x8, (.ref a0)]) (as := [.int x8, .int x11]) (rest := []) 0 rfl rfl (mw_sp rfl rfl (Nat.le_of_ble_eq_true rfl) (mw_ac rfl (mw_ac rfl (mw_ac rfl mw_an))) mw_an) rfl rfl hc12 (H.mono (fun o hp13 H => ?_))
    obtain ⟨rfl, H⟩ := H
    obtain ⟨hc14, H⟩ := H
    refine mm_R.cV (pc' := 182) (L' := [some ((.ref a0)), some (.int i1), some (.int i2), some (.int i3), some (.int i4), some (.int i5)]) (st1 := [.int (34 : Int32), (.ref a0)]) (as := [.int (34 : Int32)]) (rest := []) 2 rfl rfl (mw_sp rfl rfl (Nat.le_of_ble_eq_true rfl) (mw_ac rfl (mw_ac rfl mw_an)) mw_an) rfl rfl hc14 (H.mono (fun o hp15 H => ?_))
    obtain ⟨rfl, H⟩ := H
    exact H
-- StepRunnerModel.putForm, from 185
set_option maxRecDepth 10000 in
theorem w185_185 {X : List Int32} {d : Nat} {a0 : Nat} {i1 : Int32} {i2 : Int32} {i3 : Int32} {i4 : Int32} {i5 : Int32} {hp : mm_H} {Q : Option Value → mm_H → Prop} (H : mw_rc (.ref a0) 144 hp ∧ mm_R X d 144 0 (mm_L0 144 [(.ref a0), .int i5]) [] hp (mw_ri (fun x3 hp2 => ((¬ x3 = (3 : Int32) → mm_R X (d + 1) 185 17 [some ((.ref a0)), some (.int i1), some (.int i2), some (.int i3), some (.int i4), some (.int (i5 + (1 : Int32)))] [] hp2 Q) ∧ (x3 = (3 : Int32) → mw_rc (.ref a0) 184 hp2 ∧ mm_R X d 184 0 (mm_L0 184 [(.ref a0), .int (91 : Int32)]) [] hp2 (mw_r0 (fun hp5 => mw_rc (.ref a0) 145 hp5 ∧ mm_R X d 145 0 (mm_L0 145 [(.ref a0), .int i5]) [] hp5 (mw_ri (fun x8 hp7 => mm_R X (d + 1) 185 17 [some ((.ref a0)), some (.int i1), some (.int i2), some (.int i3), some (.int (x8 + (1 : Int32))), some (.int (i5 + (1 : Int32)))] [] hp7 Q))))))))) : mm_R X (d + 1) 185 185 [some ((.ref a0)), some (.int i1), some (.int i2), some (.int i3), some (.int i4), some (.int i5)] [] hp Q := by
  obtain ⟨hc1, H⟩ := H
  refine mm_R.cV (pc' := 188) (L' := [some ((.ref a0)), some (.int i1), some (.int i2), some (.int i3), some (.int i4), some (.int i5)]) (st1 := [.int i5, (.ref a0)]) (as := [.int i5]) (rest := []) 2 rfl rfl (mw_sp rfl rfl (Nat.le_of_ble_eq_true rfl) (mw_ac rfl (mw_ac rfl mw_an)) mw_an) rfl rfl hc1 (H.mono (fun o hp2 H => ?_))
  obtain ⟨x3, rfl, H⟩ := H
  refine mm_R.br (L' := [some ((.ref a0)), some (.int i1), some (.int i2), some (.int i3), some (.int i4), some (.int i5)]) (st' := []) (t := 211) (u := 195) (b := mm_cc .ne x3 (3 : Int32)) 2 rfl (fun c => ?_) (fun c => ?_)
  · replace H := H.1 (of_decide_eq_true c)
    exact mm_R.pn (pc' := 17) (L' := [some ((.ref a0)), some (.int i1), some (.int i2), some (.int i3), some (.int i4), some (.int (i5 + (1 : Int32)))]) (st' := []) 2 rfl H
  · replace H := H.2 (Decidable.of_not_not (of_decide_eq_false c))
    obtain ⟨hc4, H⟩ := H
    refine mm_R.cV (pc' := 198) (L' := [some ((.ref a0)), some (.int i1), some (.int i2), some (.int i3), some (.int i4), some (.int i5)]) (st1 := [.int (91 : Int32), (.ref a0)]) (as := [.int (91 : Int32)]) (rest := []) 2 rfl rfl (mw_sp rfl rfl (Nat.le_of_ble_eq_true rfl) (mw_ac rfl (mw_ac rfl mw_an)) mw_an) rfl rfl hc4 (H.mono (fun o hp5 H => ?_))
    obtain ⟨rfl, H⟩ := H
    obtain ⟨hc6, H⟩ := H
    refine mm_R.cV (pc' := 204) (L' := [some ((.ref a0)), some (.int i1), some (.int i2), some (.int i3), some (.int i4), some (.int i5)]) (st1 := [.int i5, (.ref a0)]) (as := [.int i5]) (rest := []) 2 rfl rfl (mw_sp rfl rfl (Nat.le_of_ble_eq_true rfl) (mw_ac rfl (mw_ac rfl mw_an)) mw_an) rfl rfl hc6 (H.mono (fun o hp7 H => ?_))
    obtain ⟨x8, rfl, H⟩ := H
    exact mm_R.pn (pc' := 17) (L' := [some ((.ref a0)), some (.int i1), some (.int i2), some (.int i3), some (.int (x8 + (1 : Int32))), some (.int (i5 + (1 : Int32)))]) (st' := []) 5 rfl H
-- StepRunnerModel.putForm, from 217
set_option maxRecDepth 10000 in
theorem w185_217 {X : List Int32} {d : Nat} {a0 : Nat} {i1 : Int32} {i2 : Int32} {i3 : Int32} {i4 : Int32} {i5 : Int32} {hp : mm_H} {Q : Option Value → mm_H → Prop} (H : mw_rc (.ref a0) 145 hp ∧ mm_R X d 145 0 (mm_L0 145 [(.ref a0), .int i1]) [] hp (mw_ri (fun x3 hp2 => ((i4 ≤ x3 → Q none hp2) ∧ (¬ i4 ≤ x3 → mw_rc (.ref a0) 184 hp2 ∧ mm_R X d 184 0 (mm_L0 184 [(.ref a0), .int (93 : Int32)]) [] hp2 (mw_r0 (fun hp5 => mm_R X (d + 1) 185 217 [some ((.ref a0)), some (.int i1), some (.int i2), some (.int i3), some (.int (i4 + (-1 : Int32))), some (.int i5)] [] hp5 Q))))))) : mm_R X (d + 1) 185 217 [some ((.ref a0)), some (.int i1), some (.int i2), some (.int i3), some (.int i4), some (.int i5)] [] hp Q := by
  obtain ⟨hc1, H⟩ := H
  refine mm_R.cV (pc' := 221) (L' := [some ((.ref a0)), some (.int i1), some (.int i2), some (.int i3), some (.int i4), some (.int i5)]) (st1 := [.int i1, (.ref a0), .int i4]) (as := [.int i1]) (rest := [.int i4]) 3 rfl rfl (mw_sp rfl rfl (Nat.le_of_ble_eq_true rfl) (mw_ac rfl (mw_ac rfl mw_an)) (mw_ac rfl mw_an)) rfl rfl hc1 (H.mono (fun o hp2 H => ?_))
  obtain ⟨x3, rfl, H⟩ := H
  refine mm_R.br (L' := [some ((.ref a0)), some (.int i1), some (.int i2), some (.int i3), some (.int i4), some (.int i5)]) (st' := []) (t := 239) (u := 227) (b := mm_cc .le i4 x3) 1 rfl (fun c => ?_) (fun c => ?_)
  · replace H := H.1 (of_decide_eq_true c)
    exact mm_R.rt (pc' := 239) (L' := [some ((.ref a0)), some (.int i1), some (.int i2), some (.int i3), some (.int i4), some (.int i5)]) (st1 := []) 0 rfl rfl rfl rfl rfl rfl H
  · replace H := H.2 (of_decide_eq_false c)
    obtain ⟨hc4, H⟩ := H
    refine mm_R.cV (pc' := 230) (L' := [some ((.ref a0)), some (.int i1), some (.int i2), some (.int i3), some (.int i4), some (.int i5)]) (st1 := [.int (93 : Int32), (.ref a0)]) (as := [.int (93 : Int32)]) (rest := []) 2 rfl rfl (mw_sp rfl rfl (Nat.le_of_ble_eq_true rfl) (mw_ac rfl (mw_ac rfl mw_an)) mw_an) rfl rfl hc4 (H.mono (fun o hp5 H => ?_))
    obtain ⟨rfl, H⟩ := H
    exact mm_R.pn (pc' := 217) (L' := [some ((.ref a0)), some (.int i1), some (.int i2), some (.int i3), some (.int (i4 + (-1 : Int32))), some (.int i5)]) (st' := []) 2 rfl H
