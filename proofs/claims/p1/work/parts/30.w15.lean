-- StepRunnerModel.next, from 0
set_option maxRecDepth 10000 in
theorem w167_0 {X : List Int32} {d : Nat} {a0 : Nat} {hp : mm_H} {Q : Option Value → mm_H → Prop} (H : mm_R X (d + 1) 167 2 [some ((.ref a0)), some (.int (0 : Int32)), none, none] [] hp Q) : mm_R X (d + 1) 167 0 (mm_L0 167 [(.ref a0)]) [] hp Q := by
  show mm_R X (d + 1) 167 0 [some ((.ref a0)), none, none, none] [] hp Q
  exact mm_R.pn (pc' := 2) (L' := [some ((.ref a0)), some (.int (0 : Int32)), none, none]) (st' := []) 2 rfl H
-- StepRunnerModel.next, from 2
set_option maxRecDepth 10000 in
theorem w167_2 {X : List Int32} {d : Nat} {a0 : Nat} {i1 : Int32} {o2 : Option Value} {o3 : Option Value} {hp : mm_H} {Q : Option Value → mm_H → Prop} (H : mw_gi 10 25 (.ref a0) hp (fun x1 => ((x1 ≤ i1 → Q (some (.int (-1 : Int32))) hp) ∧ (¬ x1 ≤ i1 → mw_gv 10 29 (.ref a0) hp (fun v2 => mw_ai 1000 v2 i1 hp (fun x3 => ((¬ x3 = (0 : Int32) → mm_R X (d + 1) 167 27 [some ((.ref a0)), some (.int i1), some (.int (0 : Int32)), some (.int (0 : Int32))] [] hp Q) ∧ (x3 = (0 : Int32) → mm_R X (d + 1) 167 27 [some ((.ref a0)), some (.int i1), some (.int (1 : Int32)), some (.int (0 : Int32))] [] hp Q)))))))) : mm_R X (d + 1) 167 2 [some ((.ref a0)), some (.int i1), o2, o3] [] hp Q := by
  refine mm_R.wgi (pc' := 4) (L' := [some ((.ref a0)), some (.int i1), o2, o3]) (r := [.int i1]) 2 rfl rfl (H.mono (fun x1 H => ?_))
  refine mm_R.br (L' := [some ((.ref a0)), some (.int i1), o2, o3]) (st' := []) (t := 82) (u := 10) (b := mm_cc .ge i1 x1) 1 rfl (fun c => ?_) (fun c => ?_)
  · replace H := H.1 (of_decide_eq_true c)
    exact mm_R.rt (pc' := 83) (L' := [some ((.ref a0)), some (.int i1), o2, o3]) (st1 := [.int (-1 : Int32)]) 1 rfl rfl rfl rfl rfl rfl H
  · replace H := H.2 (of_decide_eq_false c)
    refine mm_R.wgv (pc' := 11) (L' := [some ((.ref a0)), some (.int i1), o2, o3]) (r := []) 1 rfl rfl (H.mono (fun v2 H => ?_))
    refine mm_R.wai (pc' := 15) (L' := [some ((.ref a0)), some (.int i1), o2, o3]) (r := []) (t := 1000) 1 rfl rfl rfl rfl (H.mono (fun x3 H => ?_))
    refine mm_R.br (L' := [some ((.ref a0)), some (.int i1), o2, o3]) (st' := []) (t := 23) (u := 19) (b := mm_cc .ne x3 (0 : Int32)) 1 rfl (fun c => ?_) (fun c => ?_)
    · replace H := H.1 (of_decide_eq_true c)
      exact mm_R.pn (pc' := 27) (L' := [some ((.ref a0)), some (.int i1), some (.int (0 : Int32)), some (.int (0 : Int32))]) (st' := []) 4 rfl H
    · replace H := H.2 (Decidable.of_not_not (of_decide_eq_false c))
      exact mm_R.pn (pc' := 27) (L' := [some ((.ref a0)), some (.int i1), some (.int (1 : Int32)), some (.int (0 : Int32))]) (st' := []) 5 rfl H
-- StepRunnerModel.next, from 27
set_option maxRecDepth 10000 in
theorem w167_27 {X : List Int32} {d : Nat} {a0 : Nat} {i1 : Int32} {i2 : Int32} {i3 : Int32} {hp : mm_H} {Q : Option Value → mm_H → Prop} (H : mw_gi 10 25 (.ref a0) hp (fun x1 => ((x1 ≤ i3 → ((i2 = (0 : Int32) → mm_R X (d + 1) 167 2 [some ((.ref a0)), some (.int (i1 + (1 : Int32))), some (.int i2), some (.int i3)] [] hp Q) ∧ (¬ i2 = (0 : Int32) → Q (some (.int i1)) hp))) ∧ (¬ x1 ≤ i3 → ((i2 = (0 : Int32) → mm_R X (d + 1) 167 27 [some ((.ref a0)), some (.int i1), some (.int (0 : Int32)), some (.int (i3 + (1 : Int32)))] [] hp Q) ∧ (¬ i2 = (0 : Int32) → mw_rc (.ref a0) 164 hp ∧ mm_R X d 164 0 (mm_L0 164 [(.ref a0), .int i1, .int i3]) [] hp (mw_ri (fun x4 hp3 => ((x4 = (0 : Int32) → mm_R X (d + 1) 167 27 [some ((.ref a0)), some (.int i1), some (.int (1 : Int32)), some (.int (i3 + (1 : Int32)))] [] hp3 Q) ∧ (¬ x4 = (0 : Int32) → mw_gv 10 29 (.ref a0) hp3 (fun v5 => mw_ai 1000 v5 i3 hp3 (fun x6 => ((¬ x6 = (2 : Int32) → mm_R X (d + 1) 167 27 [some ((.ref a0)), some (.int i1), some (.int (0 : Int32)), some (.int (i3 + (1 : Int32)))] [] hp3 Q) ∧ (x6 = (2 : Int32) → mm_R X (d + 1) 167 27 [some ((.ref a0)), some (.int i1), some (.int (1 : Int32)), some (.int (i3 + (1 : Int32)))] [] hp3 Q)))))))))))))) : mm_R X (d + 1) 167 27 [some ((.ref a0)), some (.int i1), some (.int i2), some (.int i3)] [] hp Q := by
  refine mm_R.wgi (pc' := 29) (L' := [some ((.ref a0)), some (.int i1), some (.int i2), some (.int i3)]) (r := [.int i3]) 2 rfl rfl (H.mono (fun x1 H => ?_))
  refine mm_R.br (L' := [some ((.ref a0)), some (.int i1), some (.int i2), some (.int i3)]) (st' := []) (t := 70) (u := 35) (b := mm_cc .ge i3 x1) 1 rfl (fun c => ?_) (fun c => ?_)
  · replace H := H.1 (of_decide_eq_true c)
    refine mm_R.br (L' := [some ((.ref a0)), some (.int i1), some (.int i2), some (.int i3)]) (st' := []) (t := 76) (u := 74) (b := mm_cc .eq i2 (0 : Int32)) 2 rfl (fun c => ?_) (fun c => ?_)
    · replace H := H.1 (of_decide_eq_true c)
      exact mm_R.pn (pc' := 2) (L' := [some ((.ref a0)), some (.int (i1 + (1 : Int32))), some (.int i2), some (.int i3)]) (st' := []) 2 rfl H
    · replace H := H.2 (of_decide_eq_false c)
      exact mm_R.rt (pc' := 75) (L' := [some ((.ref a0)), some (.int i1), some (.int i2), some (.int i3)]) (st1 := [.int i1]) 1 rfl rfl rfl rfl rfl rfl H
  · replace H := H.2 (of_decide_eq_false c)
    refine mm_R.br (L' := [some ((.ref a0)), some (.int i1), some (.int i2), some (.int i3)]) (st' := []) (t := 62) (u := 39) (b := mm_cc .eq i2 (0 : Int32)) 2 rfl (fun c => ?_) (fun c => ?_)
    · replace H := H.1 (of_decide_eq_true c)
      exact mm_R.pn (pc' := 27) (L' := [some ((.ref a0)), some (.int i1), some (.int (0 : Int32)), some (.int (i3 + (1 : Int32)))]) (st' := []) 4 rfl H
    · replace H := H.2 (of_decide_eq_false c)
      obtain ⟨hc2, H⟩ := H
      refine mm_R.cV (pc' := 42) (L' := [some ((.ref a0)), some (.int i1), some (.int i2), some (.int i3)]) (st1 := [.int i3, .int i1, (.ref a0)]) (as := [.int i1, .int i3]) (rest := []) 3 rfl rfl (mw_sp rfl rfl (Nat.le_of_ble_eq_true rfl) (mw_ac rfl (mw_ac rfl (mw_ac rfl mw_an))) mw_an) rfl rfl hc2 (H.mono (fun o hp3 H => ?_))
      obtain ⟨x4, rfl, H⟩ := H
      refine mm_R.br (L' := [some ((.ref a0)), some (.int i1), some (.int i2), some (.int i3)]) (st' := []) (t := 58) (u := 48) (b := mm_cc .eq x4 (0 : Int32)) 1 rfl (fun c => ?_) (fun c => ?_)
      · replace H := H.1 (of_decide_eq_true c)
        exact mm_R.pn (pc' := 27) (L' := [some ((.ref a0)), some (.int i1), some (.int (1 : Int32)), some (.int (i3 + (1 : Int32)))]) (st' := []) 5 rfl H
      · replace H := H.2 (of_decide_eq_false c)
        refine mm_R.wgv (pc' := 49) (L' := [some ((.ref a0)), some (.int i1), some (.int i2), some (.int i3)]) (r := []) 1 rfl rfl (H.mono (fun v5 H => ?_))
        refine mm_R.wai (pc' := 53) (L' := [some ((.ref a0)), some (.int i1), some (.int i2), some (.int i3)]) (r := []) (t := 1000) 1 rfl rfl rfl rfl (H.mono (fun x6 H => ?_))
        refine mm_R.br (L' := [some ((.ref a0)), some (.int i1), some (.int i2), some (.int i3)]) (st' := []) (t := 62) (u := 58) (b := mm_cc .ne x6 (2 : Int32)) 2 rfl (fun c => ?_) (fun c => ?_)
        · replace H := H.1 (of_decide_eq_true c)
          exact mm_R.pn (pc' := 27) (L' := [some ((.ref a0)), some (.int i1), some (.int (0 : Int32)), some (.int (i3 + (1 : Int32)))]) (st' := []) 4 rfl H
        · replace H := H.2 (Decidable.of_not_not (of_decide_eq_false c))
          exact mm_R.pn (pc' := 27) (L' := [some ((.ref a0)), some (.int i1), some (.int (1 : Int32)), some (.int (i3 + (1 : Int32)))]) (st' := []) 5 rfl H
-- StepRunnerModel.expand, from 0
set_option maxRecDepth 10000 in
theorem w168_0 {X : List Int32} {d : Nat} {a0 : Nat} {i1 : Int32} {hp : mm_H} {Q : Option Value → mm_H → Prop} (H : mw_gv 10 8 (.ref a0) hp (fun v1 => mw_gv 10 13 (.ref a0) hp (fun v2 => mw_ai 1000 v2 i1 hp (fun x3 => mw_ai 1000 v1 x3 hp (fun x4 => mm_R X (d + 1) 168 14 [some ((.ref a0)), some (.int i1), some (.int x4), some (.int (0 : Int32)), none, none] [] hp Q))))) : mm_R X (d + 1) 168 0 (mm_L0 168 [(.ref a0), .int i1]) [] hp Q := by
  show mm_R X (d + 1) 168 0 [some ((.ref a0)), some (.int i1), none, none, none, none] [] hp Q
  refine mm_R.wgv (pc' := 1) (L' := [some ((.ref a0)), some (.int i1), none, none, none, none]) (r := []) 1 rfl rfl (H.mono (fun v1 H => ?_))
  refine mm_R.wgv (pc' := 5) (L' := [some ((.ref a0)), some (.int i1), none, none, none, none]) (r := [v1]) 1 rfl rfl (H.mono (fun v2 H => ?_))
  refine mm_R.wai (pc' := 9) (L' := [some ((.ref a0)), some (.int i1), none, none, none, none]) (r := [v1]) (t := 1000) 1 rfl rfl rfl rfl (H.mono (fun x3 H => ?_))
  refine mm_R.wai (pc' := 10) (L' := [some ((.ref a0)), some (.int i1), none, none, none, none]) (r := []) (t := 1000) 0 rfl rfl rfl rfl (H.mono (fun x4 H => ?_))
  exact mm_R.pn (pc' := 14) (L' := [some ((.ref a0)), some (.int i1), some (.int x4), some (.int (0 : Int32)), none, none]) (st' := []) 3 rfl H
-- StepRunnerModel.expand, from 14
set_option maxRecDepth 10000 in
theorem w168_14 {X : List Int32} {d : Nat} {a0 : Nat} {i1 : Int32} {i2 : Int32} {i3 : Int32} {o4 : Option Value} {o5 : Option Value} {hp : mm_H} {Q : Option Value → mm_H → Prop} (H : ((i2 ≤ i3 → mw_rc (.ref a0) 174 hp ∧ mm_R X d 174 0 (mm_L0 174 [(.ref a0), .int i1]) [] hp (mw_ri (fun x3 hp2 => ((¬ x3 = (0 : Int32) → mw_rc (.ref a0) 175 hp2 ∧ mm_R X d 175 0 (mm_L0 175 [(.ref a0), .int i1, .int x3]) [] hp2 (mw_ri (fun x6 hp5 => (((0 : Int32) ≤ x6 → mm_R X (d + 1) 168 76 [some ((.ref a0)), some (.int i1), some (.int i2), some (.int x3), some (.int x6), some (.int (0 : Int32))] [] hp5 Q) ∧ (¬ (0 : Int32) ≤ x6 → mw_rc (.ref a0) 173 hp5 ∧ mm_R X d 173 0 (mm_L0 173 [(.ref a0), .int i1]) [] hp5 (mw_r0 (fun hp8 => Q none hp8))))))) ∧ (x3 = (0 : Int32) → (((0 : Int32) ≤ (1 : Int32) → mm_R X (d + 1) 168 76 [some ((.ref a0)), some (.int i1), some (.int i2), some (.int x3), some (.int (1 : Int32)), some (.int (0 : Int32))] [] hp2 Q) ∧ (¬ (0 : Int32) ≤ (1 : Int32) → mw_rc (.ref a0) 173 hp2 ∧ mm_R X d 173 0 (mm_L0 173 [(.ref a0), .int i1]) [] hp2 (mw_r0 (fun hp10 => Q none hp10))))))))) ∧ (¬ i2 ≤ i3 → mw_rc (.ref a0) 169 hp ∧ mm_R X d 169 0 (mm_L0 169 [(.ref a0), .int i1, .int i3]) [] hp (mw_ri (fun x13 hp12 => ((¬ x13 = (0 : Int32) → mm_R X (d + 1) 168 14 [some ((.ref a0)), some (.int i1), some (.int i2), some (.int (i3 + (1 : Int32))), o4, o5] [] hp12 Q) ∧ (x13 = (0 : Int32) → mw_rc (.ref a0) 173 hp12 ∧ mm_R X d 173 0 (mm_L0 173 [(.ref a0), .int i1]) [] hp12 (mw_r0 (fun hp15 => Q none hp15))))))))) : mm_R X (d + 1) 168 14 [some ((.ref a0)), some (.int i1), some (.int i2), some (.int i3), o4, o5] [] hp Q := by
  refine mm_R.br (L' := [some ((.ref a0)), some (.int i1), some (.int i2), some (.int i3), o4, o5]) (st' := []) (t := 40) (u := 19) (b := mm_cc .ge i3 i2) 3 rfl (fun c => ?_) (fun c => ?_)
  · replace H := H.1 (of_decide_eq_true c)
    obtain ⟨hc1, H⟩ := H
    refine mm_R.cV (pc' := 42) (L' := [some ((.ref a0)), some (.int i1), some (.int i2), some (.int i3), o4, o5]) (st1 := [.int i1, (.ref a0)]) (as := [.int i1]) (rest := []) 2 rfl rfl (mw_sp rfl rfl (Nat.le_of_ble_eq_true rfl) (mw_ac rfl (mw_ac rfl mw_an)) mw_an) rfl rfl hc1 (H.mono (fun o hp2 H => ?_))
    obtain ⟨x3, rfl, H⟩ := H
    refine mm_R.br (L' := [some ((.ref a0)), some (.int i1), some (.int i2), some (.int x3), o4, o5]) (st' := []) (t := 54) (u := 50) (b := mm_cc .ne x3 (0 : Int32)) 3 rfl (fun c => ?_) (fun c => ?_)
    · replace H := H.1 (of_decide_eq_true c)
      obtain ⟨hc4, H⟩ := H
      refine mm_R.cV (pc' := 57) (L' := [some ((.ref a0)), some (.int i1), some (.int i2), some (.int x3), o4, o5]) (st1 := [.int x3, .int i1, (.ref a0)]) (as := [.int i1, .int x3]) (rest := []) 3 rfl rfl (mw_sp rfl rfl (Nat.le_of_ble_eq_true rfl) (mw_ac rfl (mw_ac rfl (mw_ac rfl mw_an))) mw_an) rfl rfl hc4 (H.mono (fun o hp5 H => ?_))
      obtain ⟨x6, rfl, H⟩ := H
      refine mm_R.br (L' := [some ((.ref a0)), some (.int i1), some (.int i2), some (.int x3), some (.int x6), o5]) (st' := []) (t := 73) (u := 67) (b := mm_cc .ge x6 (0 : Int32)) 3 rfl (fun c => ?_) (fun c => ?_)
      · replace H := H.1 (of_decide_eq_true c)
        exact mm_R.pn (pc' := 76) (L' := [some ((.ref a0)), some (.int i1), some (.int i2), some (.int x3), some (.int x6), some (.int (0 : Int32))]) (st' := []) 2 rfl H
      · replace H := H.2 (of_decide_eq_false c)
        obtain ⟨hc7, H⟩ := H
        refine mm_R.cV (pc' := 69) (L' := [some ((.ref a0)), some (.int i1), some (.int i2), some (.int x3), some (.int x6), o5]) (st1 := [.int i1, (.ref a0)]) (as := [.int i1]) (rest := []) 2 rfl rfl (mw_sp rfl rfl (Nat.le_of_ble_eq_true rfl) (mw_ac rfl (mw_ac rfl mw_an)) mw_an) rfl rfl hc7 (H.mono (fun o hp8 H => ?_))
        obtain ⟨rfl, H⟩ := H
        exact mm_R.rt (pc' := 72) (L' := [some ((.ref a0)), some (.int i1), some (.int i2), some (.int x3), some (.int x6), o5]) (st1 := []) 0 rfl rfl rfl rfl rfl rfl H
    · replace H := H.2 (Decidable.of_not_not (of_decide_eq_false c))
      refine mm_R.br (L' := [some ((.ref a0)), some (.int i1), some (.int i2), some (.int x3), some (.int (1 : Int32)), o5]) (st' := []) (t := 73) (u := 67) (b := mm_cc .ge (1 : Int32) (0 : Int32)) 5 rfl (fun c => ?_) (fun c => ?_)
      · replace H := H.1 (of_decide_eq_true c)
        exact mm_R.pn (pc' := 76) (L' := [some ((.ref a0)), some (.int i1), some (.int i2), some (.int x3), some (.int (1 : Int32)), some (.int (0 : Int32))]) (st' := []) 2 rfl H
      · replace H := H.2 (of_decide_eq_false c)
        obtain ⟨hc9, H⟩ := H
        refine mm_R.cV (pc' := 69) (L' := [some ((.ref a0)), some (.int i1), some (.int i2), some (.int x3), some (.int (1 : Int32)), o5]) (st1 := [.int i1, (.ref a0)]) (as := [.int i1]) (rest := []) 2 rfl rfl (mw_sp rfl rfl (Nat.le_of_ble_eq_true rfl) (mw_ac rfl (mw_ac rfl mw_an)) mw_an) rfl rfl hc9 (H.mono (fun o hp10 H => ?_))
        obtain ⟨rfl, H⟩ := H
        exact mm_R.rt (pc' := 72) (L' := [some ((.ref a0)), some (.int i1), some (.int i2), some (.int x3), some (.int (1 : Int32)), o5]) (st1 := []) 0 rfl rfl rfl rfl rfl rfl H
  · replace H := H.2 (of_decide_eq_false c)
    obtain ⟨hc11, H⟩ := H
    refine mm_R.cV (pc' := 22) (L' := [some ((.ref a0)), some (.int i1), some (.int i2), some (.int i3), o4, o5]) (st1 := [.int i3, .int i1, (.ref a0)]) (as := [.int i1, .int i3]) (rest := []) 3 rfl rfl (mw_sp rfl rfl (Nat.le_of_ble_eq_true rfl) (mw_ac rfl (mw_ac rfl (mw_ac rfl mw_an))) mw_an) rfl rfl hc11 (H.mono (fun o hp12 H => ?_))
    obtain ⟨x13, rfl, H⟩ := H
    refine mm_R.br (L' := [some ((.ref a0)), some (.int i1), some (.int i2), some (.int i3), o4, o5]) (st' := []) (t := 34) (u := 28) (b := mm_cc .ne x13 (0 : Int32)) 1 rfl (fun c => ?_) (fun c => ?_)
    · replace H := H.1 (of_decide_eq_true c)
      exact mm_R.pn (pc' := 14) (L' := [some ((.ref a0)), some (.int i1), some (.int i2), some (.int (i3 + (1 : Int32))), o4, o5]) (st' := []) 2 rfl H
    · replace H := H.2 (Decidable.of_not_not (of_decide_eq_false c))
      obtain ⟨hc14, H⟩ := H
      refine mm_R.cV (pc' := 30) (L' := [some ((.ref a0)), some (.int i1), some (.int i2), some (.int i3), o4, o5]) (st1 := [.int i1, (.ref a0)]) (as := [.int i1]) (rest := []) 2 rfl rfl (mw_sp rfl rfl (Nat.le_of_ble_eq_true rfl) (mw_ac rfl (mw_ac rfl mw_an)) mw_an) rfl rfl hc14 (H.mono (fun o hp15 H => ?_))
      obtain ⟨rfl, H⟩ := H
      exact mm_R.rt (pc' := 33) (L' := [some ((.ref a0)), some (.int i1), some (.int i2), some (.int i3), o4, o5]) (st1 := []) 0 rfl rfl rfl rfl rfl rfl H
-- StepRunnerModel.expand, from 76
set_option maxRecDepth 10000 in
theorem w168_76 {X : List Int32} {d : Nat} {a0 : Nat} {i1 : Int32} {i2 : Int32} {i3 : Int32} {i4 : Int32} {i5 : Int32} {hp : mm_H} {Q : Option Value → mm_H → Prop} (H : ((i2 ≤ i5 → mw_gv 10 29 (.ref a0) hp (fun v1 => mw_si 1000 .int v1 i1 (1 : Int32) hp (fun hp2 => mw_gv 10 30 (.ref a0) hp2 (fun v3 => mw_si 1000 .int v3 i1 i4 hp2 (fun hp4 => mm_R X (d + 1) 168 140 [some ((.ref a0)), some (.int i1), some (.int i2), some (.int i3), some (.int i4), some (.int (0 : Int32))] [] hp4 Q))))) ∧ (¬ i2 ≤ i5 → mw_gv 10 37 (.ref a0) hp (fun v5 => mm_isr v5 = true ∧ mm_R X d 123 0 (mm_L0 123 [.int ((129 : Int32) + i5)]) [] hp (mw_ri (fun x8 hp7 => mw_rc (.ref a0) 143 hp7 ∧ mm_R X d 143 0 (mm_L0 143 [(.ref a0), .int ((129 : Int32) + i5)]) [] hp7 (mw_ri (fun x11 hp10 => mw_rc (.ref a0) 146 hp10 ∧ mm_R X d 146 0 (mm_L0 146 [(.ref a0), .int x8, .int x11]) [] hp10 (mw_ri (fun x14 hp13 => mw_si 1000 .int v5 (((4 : Int32) * i1) + i5) x14 hp13 (fun hp15 => mm_R X (d + 1) 168 76 [some ((.ref a0)), some (.int i1), some (.int i2), some (.int i3), some (.int i4), some (.int (i5 + (1 : Int32)))] [] hp15 Q))))))))))) : mm_R X (d + 1) 168 76 [some ((.ref a0)), some (.int i1), some (.int i2), some (.int i3), some (.int i4), some (.int i5)] [] hp Q := by
  refine mm_R.br (L' := [some ((.ref a0)), some (.int i1), some (.int i2), some (.int i3), some (.int i4), some (.int i5)]) (st' := []) (t := 122) (u := 82) (b := mm_cc .ge i5 i2) 3 rfl (fun c => ?_) (fun c => ?_)
  · replace H := H.1 (of_decide_eq_true c)
    refine mm_R.wgv (pc' := 123) (L' := [some ((.ref a0)), some (.int i1), some (.int i2), some (.int i3), some (.int i4), some (.int i5)]) (r := []) 1 rfl rfl (H.mono (fun v1 H => ?_))
    refine mm_R.wsi (pc' := 128) (L' := [some ((.ref a0)), some (.int i1), some (.int i2), some (.int i3), some (.int i4), some (.int i5)]) (r := []) (t := 1000) (ty := .int) 2 rfl rfl rfl rfl (H.mono (fun hp2 H => ?_))
    refine mm_R.wgv (pc' := 130) (L' := [some ((.ref a0)), some (.int i1), some (.int i2), some (.int i3), some (.int i4), some (.int i5)]) (r := []) 1 rfl rfl (H.mono (fun v3 H => ?_))
    refine mm_R.wsi (pc' := 136) (L' := [some ((.ref a0)), some (.int i1), some (.int i2), some (.int i3), some (.int i4), some (.int i5)]) (r := []) (t := 1000) (ty := .int) 2 rfl rfl rfl rfl (H.mono (fun hp4 H => ?_))
    exact mm_R.pn (pc' := 140) (L' := [some ((.ref a0)), some (.int i1), some (.int i2), some (.int i3), some (.int i4), some (.int (0 : Int32))]) (st' := []) 2 rfl H
  · replace H := H.2 (of_decide_eq_false c)
    refine mm_R.wgv (pc' := 83) (L' := [some ((.ref a0)), some (.int i1), some (.int i2), some (.int i3), some (.int i4), some (.int i5)]) (r := []) 1 rfl rfl (H.mono (fun v5 H => ?_))
    obtain ⟨hr6, H⟩ := H
    refine mm_R.cS (pc' := 99) (L' := [some ((.ref a0)), some (.int i1), some (.int i2), some (.int i3), some (.int i4), some (.int i5)]) (st1 := [.int ((129 : Int32) + i5), (.ref a0), .int (((4 : Int32) * i1) + i5), v5]) (as := [.int ((129 : Int32) + i5)]) (rest := [(.ref a0), .int (((4 : Int32) * i1) + i5), v5]) 9 rfl rfl (mw_sp rfl rfl (Nat.le_of_ble_eq_true rfl) (mw_ac rfl mw_an) (mw_ac rfl (mw_ac rfl (mw_ac (mw_c1 hr6) mw_an)))) rfl rfl (H.mono (fun o hp7 H => ?_))
    obtain ⟨x8, rfl, H⟩ := H
    obtain ⟨hc9, H⟩ := H
    refine mm_R.cV (pc' := 109) (L' := [some ((.ref a0)), some (.int i1), some (.int i2), some (.int i3), some (.int i4), some (.int i5)]) (st1 := [.int ((129 : Int32) + i5), (.ref a0), .int x8, (.ref a0), .int (((4 : Int32) * i1) + i5), v5]) (as := [.int ((129 : Int32) + i5)]) (rest := [.int x8, (.ref a0), .int (((4 : Int32) * i1) + i5), v5]) 4 rfl rfl (mw_sp rfl rfl (Nat.le_of_ble_eq_true rfl) (mw_ac rfl (mw_ac rfl mw_an)) (mw_ac rfl (mw_ac rfl (mw_ac rfl (mw_ac (mw_c1 hr6) mw_an))))) rfl rfl hc9 (H.mono (fun o hp10 H => ?_))
    obtain ⟨x11, rfl, H⟩ := H
    obtain ⟨hc12, H⟩ := H
    refine mm_R.cV (pc' := 112) (L' := [some ((.ref a0)), some (.int i1), some (.int i2), some (.int i3), some (.int i4), some (.int i5)]) (st1 := [.int x11, .int x8, (.ref a0), .int (((4 : Int32) * i1) + i5), v5]) (as := [.int x8, .int x11]) (rest := [.int (((4 : Int32) * i1) + i5), v5]) 0 rfl rfl (mw_sp rfl rfl (Nat.le_of_ble_eq_true rfl) (mw_ac rfl (mw_ac rfl (mw_ac rfl mw_an))) (mw_ac rfl (mw_ac (mw_c1 hr6) mw_an))) rfl rfl hc12 (H.mono (fun o hp13 H => ?_))
    obtain ⟨x14, rfl, H⟩ := H
    refine mm_R.wsi (pc' := 115) (L' := [some ((.ref a0)), some (.int i1), some (.int i2), some (.int i3), some (.int i4), some (.int i5)]) (r := []) (t := 1000) (ty := .int) 0 rfl rfl rfl rfl (H.mono (fun hp15 H => ?_))
    exact mm_R.pn (pc' := 76) (L' := [some ((.ref a0)), some (.int i1), some (.int i2), some (.int i3), some (.int i4), some (.int (i5 + (1 : Int32)))]) (st' := []) 2 rfl H
-- StepRunnerModel.expand, from 140
set_option maxRecDepth 10000 in
theorem w168_140 {X : List Int32} {d : Nat} {a0 : Nat} {i1 : Int32} {i2 : Int32} {i3 : Int32} {i4 : Int32} {i5 : Int32} {hp : mm_H} {Q : Option Value → mm_H → Prop} (H : ((i4 ≤ i5 → mw_rc (.ref a0) 193 hp ∧ mm_R X d 193 0 (mm_L0 193 [(.ref a0), .int i1]) [] hp (mw_ri (fun x3 hp2 => ((x3 = (0 : Int32) → Q none hp2) ∧ (¬ x3 = (0 : Int32) → mw_rc (.ref a0) 194 hp2 ∧ mm_R X d 194 0 (mm_L0 194 [(.ref a0), .int i1]) [] hp2 (mw_r0 (fun hp5 => Q none hp5))))))) ∧ (¬ i4 ≤ i5 → mw_rc (.ref a0) 176 hp ∧ mm_R X d 176 0 (mm_L0 176 [(.ref a0), .int i1, .int i5, .int i3]) [] hp (mw_ri (fun x8 hp7 => ((¬ x8 = (0 : Int32) → mm_R X (d + 1) 168 140 [some ((.ref a0)), some (.int i1), some (.int i2), some (.int i3), some (.int i4), some (.int (i5 + (1 : Int32)))] [] hp7 Q) ∧ (x8 = (0 : Int32) → mw_rc (.ref a0) 173 hp7 ∧ mm_R X d 173 0 (mm_L0 173 [(.ref a0), .int i1]) [] hp7 (mw_r0 (fun hp10 => Q none hp10))))))))) : mm_R X (d + 1) 168 140 [some ((.ref a0)), some (.int i1), some (.int i2), some (.int i3), some (.int i4), some (.int i5)] [] hp Q := by
  refine mm_R.br (L' := [some ((.ref a0)), some (.int i1), some (.int i2), some (.int i3), some (.int i4), some (.int i5)]) (st' := []) (t := 170) (u := 147) (b := mm_cc .ge i5 i4) 3 rfl (fun c => ?_) (fun c => ?_)
  · replace H := H.1 (of_decide_eq_true c)
    obtain ⟨hc1, H⟩ := H
    refine mm_R.cV (pc' := 172) (L' := [some ((.ref a0)), some (.int i1), some (.int i2), some (.int i3), some (.int i4), some (.int i5)]) (st1 := [.int i1, (.ref a0)]) (as := [.int i1]) (rest := []) 2 rfl rfl (mw_sp rfl rfl (Nat.le_of_ble_eq_true rfl) (mw_ac rfl (mw_ac rfl mw_an)) mw_an) rfl rfl hc1 (H.mono (fun o hp2 H => ?_))
    obtain ⟨x3, rfl, H⟩ := H
    refine mm_R.br (L' := [some ((.ref a0)), some (.int i1), some (.int i2), some (.int i3), some (.int i4), some (.int i5)]) (st' := []) (t := 183) (u := 178) (b := mm_cc .eq x3 (0 : Int32)) 1 rfl (fun c => ?_) (fun c => ?_)
    · replace H := H.1 (of_decide_eq_true c)
      exact mm_R.rt (pc' := 183) (L' := [some ((.ref a0)), some (.int i1), some (.int i2), some (.int i3), some (.int i4), some (.int i5)]) (st1 := []) 0 rfl rfl rfl rfl rfl rfl H
    · replace H := H.2 (of_decide_eq_false c)
      obtain ⟨hc4, H⟩ := H
      refine mm_R.cV (pc' := 180) (L' := [some ((.ref a0)), some (.int i1), some (.int i2), some (.int i3), some (.int i4), some (.int i5)]) (st1 := [.int i1, (.ref a0)]) (as := [.int i1]) (rest := []) 2 rfl rfl (mw_sp rfl rfl (Nat.le_of_ble_eq_true rfl) (mw_ac rfl (mw_ac rfl mw_an)) mw_an) rfl rfl hc4 (H.mono (fun o hp5 H => ?_))
      obtain ⟨rfl, H⟩ := H
      exact mm_R.rt (pc' := 183) (L' := [some ((.ref a0)), some (.int i1), some (.int i2), some (.int i3), some (.int i4), some (.int i5)]) (st1 := []) 0 rfl rfl rfl rfl rfl rfl H
  · replace H := H.2 (of_decide_eq_false c)
    obtain ⟨hc6, H⟩ := H
    refine mm_R.cV (pc' := 152) (L' := [some ((.ref a0)), some (.int i1), some (.int i2), some (.int i3), some (.int i4), some (.int i5)]) (st1 := [.int i3, .int i5, .int i1, (.ref a0)]) (as := [.int i1, .int i5, .int i3]) (rest := []) 4 rfl rfl (mw_sp rfl rfl (Nat.le_of_ble_eq_true rfl) (mw_ac rfl (mw_ac rfl (mw_ac rfl (mw_ac rfl mw_an)))) mw_an) rfl rfl hc6 (H.mono (fun o hp7 H => ?_))
    obtain ⟨x8, rfl, H⟩ := H
    refine mm_R.br (L' := [some ((.ref a0)), some (.int i1), some (.int i2), some (.int i3), some (.int i4), some (.int i5)]) (st' := []) (t := 164) (u := 158) (b := mm_cc .ne x8 (0 : Int32)) 1 rfl (fun c => ?_) (fun c => ?_)
    · replace H := H.1 (of_decide_eq_true c)
      exact mm_R.pn (pc' := 140) (L' := [some ((.ref a0)), some (.int i1), some (.int i2), some (.int i3), some (.int i4), some (.int (i5 + (1 : Int32)))]) (st' := []) 2 rfl H
    · replace H := H.2 (Decidable.of_not_not (of_decide_eq_false c))
      obtain ⟨hc9, H⟩ := H
      refine mm_R.cV (pc' := 160) (L' := [some ((.ref a0)), some (.int i1), some (.int i2), some (.int i3), some (.int i4), some (.int i5)]) (st1 := [.int i1, (.ref a0)]) (as := [.int i1]) (rest := []) 2 rfl rfl (mw_sp rfl rfl (Nat.le_of_ble_eq_true rfl) (mw_ac rfl (mw_ac rfl mw_an)) mw_an) rfl rfl hc9 (H.mono (fun o hp10 H => ?_))
      obtain ⟨rfl, H⟩ := H
      exact mm_R.rt (pc' := 163) (L' := [some ((.ref a0)), some (.int i1), some (.int i2), some (.int i3), some (.int i4), some (.int i5)]) (st1 := []) 0 rfl rfl rfl rfl rfl rfl H
-- StepRunnerModel.gathered, from 0
set_option maxRecDepth 10000 in
theorem w169_0 {X : List Int32} {d : Nat} {a0 : Nat} {i1 : Int32} {i2 : Int32} {hp : mm_H} {Q : Option Value → mm_H → Prop} (H : mw_rc (.ref a0) 121 hp ∧ mm_R X d 121 0 (mm_L0 121 [(.ref a0), .int ((129 : Int32) + i2)]) [] hp (mw_r0 (fun hp2 => mw_gv 10 16 (.ref a0) hp2 (fun v3 => mw_ai 1000 v3 (((4 : Int32) * i1) + i2) hp2 (fun x4 => ((¬ x4 = (0 : Int32) → mw_gv 10 16 (.ref a0) hp2 (fun v5 => mw_ai 1000 v5 (((4 : Int32) * i1) + i2) hp2 (fun x6 => ((¬ x6 = (1 : Int32) → mw_rc (.ref a0) 171 hp2 ∧ mm_R X d 171 0 (mm_L0 171 [(.ref a0), .int (((4 : Int32) * i1) + i2), .int ((129 : Int32) + i2)]) [] hp2 (mw_r0 (fun hp8 => mm_R X (d + 1) 169 84 [some ((.ref a0)), some (.int i1), some (.int i2), some (.int (((4 : Int32) * i1) + i2)), some (.int ((129 : Int32) + i2))] [] hp8 Q))) ∧ (x6 = (1 : Int32) → mw_gv 10 18 (.ref a0) hp2 (fun v9 => mw_ai 1000 v9 (((4 : Int32) * i1) + i2) hp2 (fun x10 => ((¬ x10 = (0 : Int32) → mw_rc (.ref a0) 171 hp2 ∧ mm_R X d 171 0 (mm_L0 171 [(.ref a0), .int (((4 : Int32) * i1) + i2), .int ((129 : Int32) + i2)]) [] hp2 (mw_r0 (fun hp12 => mm_R X (d + 1) 169 84 [some ((.ref a0)), some (.int i1), some (.int i2), some (.int (((4 : Int32) * i1) + i2)), some (.int ((129 : Int32) + i2))] [] hp12 Q))) ∧ (x10 = (0 : Int32) → mw_gv 10 17 (.ref a0) hp2 (fun v13 => mw_ai 1000 v13 ((3 : Int32) * (((4 : Int32) * i1) + i2)) hp2 (fun x14 => mw_rc (.ref a0) 170 hp2 ∧ mm_R X d 170 0 (mm_L0 170 [(.ref a0), .int x14, .int ((129 : Int32) + i2), .int (0 : Int32)]) [] hp2 (mw_r0 (fun hp16 => mm_R X (d + 1) 169 84 [some ((.ref a0)), some (.int i1), some (.int i2), some (.int (((4 : Int32) * i1) + i2)), some (.int ((129 : Int32) + i2))] [] hp16 Q))))))))))))) ∧ (x4 = (0 : Int32) → mw_rc (.ref a0) 122 hp2 ∧ mm_R X d 122 0 (mm_L0 122 [(.ref a0), .int ((129 : Int32) + i2), .int (0 : Int32), .int (0 : Int32), .int (0 : Int32)]) [] hp2 (mw_r0 (fun hp18 => mm_R X (d + 1) 169 84 [some ((.ref a0)), some (.int i1), some (.int i2), some (.int (((4 : Int32) * i1) + i2)), some (.int ((129 : Int32) + i2))] [] hp18 Q))))))))) : mm_R X (d + 1) 169 0 (mm_L0 169 [(.ref a0), .int i1, .int i2]) [] hp Q := by
  show mm_R X (d + 1) 169 0 [some ((.ref a0)), some (.int i1), some (.int i2), none, none] [] hp Q
  obtain ⟨hc1, H⟩ := H
  refine mm_R.cV (pc' := 16) (L' := [some ((.ref a0)), some (.int i1), some (.int i2), some (.int (((4 : Int32) * i1) + i2)), some (.int ((129 : Int32) + i2))]) (st1 := [.int ((129 : Int32) + i2), (.ref a0)]) (as := [.int ((129 : Int32) + i2)]) (rest := []) 12 rfl rfl (mw_sp rfl rfl (Nat.le_of_ble_eq_true rfl) (mw_ac rfl (mw_ac rfl mw_an)) mw_an) rfl rfl hc1 (H.mono (fun o hp2 H => ?_))
  obtain ⟨rfl, H⟩ := H
  refine mm_R.wgv (pc' := 20) (L' := [some ((.ref a0)), some (.int i1), some (.int i2), some (.int (((4 : Int32) * i1) + i2)), some (.int ((129 : Int32) + i2))]) (r := []) 1 rfl rfl (H.mono (fun v3 H => ?_))
  refine mm_R.wai (pc' := 24) (L' := [some ((.ref a0)), some (.int i1), some (.int i2), some (.int (((4 : Int32) * i1) + i2)), some (.int ((129 : Int32) + i2))]) (r := []) (t := 1000) 1 rfl rfl rfl rfl (H.mono (fun x4 H => ?_))
  refine mm_R.br (L' := [some ((.ref a0)), some (.int i1), some (.int i2), some (.int (((4 : Int32) * i1) + i2)), some (.int ((129 : Int32) + i2))]) (st' := []) (t := 40) (u := 28) (b := mm_cc .ne x4 (0 : Int32)) 1 rfl (fun c => ?_) (fun c => ?_)
  · replace H := H.1 (of_decide_eq_true c)
    refine mm_R.wgv (pc' := 41) (L' := [some ((.ref a0)), some (.int i1), some (.int i2), some (.int (((4 : Int32) * i1) + i2)), some (.int ((129 : Int32) + i2))]) (r := []) 1 rfl rfl (H.mono (fun v5 H => ?_))
    refine mm_R.wai (pc' := 45) (L' := [some ((.ref a0)), some (.int i1), some (.int i2), some (.int (((4 : Int32) * i1) + i2)), some (.int ((129 : Int32) + i2))]) (r := []) (t := 1000) 1 rfl rfl rfl rfl (H.mono (fun x6 H => ?_))
    refine mm_R.br (L' := [some ((.ref a0)), some (.int i1), some (.int i2), some (.int (((4 : Int32) * i1) + i2)), some (.int ((129 : Int32) + i2))]) (st' := []) (t := 77) (u := 50) (b := mm_cc .ne x6 (1 : Int32)) 2 rfl (fun c => ?_) (fun c => ?_)
    · replace H := H.1 (of_decide_eq_true c)
      obtain ⟨hc7, H⟩ := H
      refine mm_R.cV (pc' := 81) (L' := [some ((.ref a0)), some (.int i1), some (.int i2), some (.int (((4 : Int32) * i1) + i2)), some (.int ((129 : Int32) + i2))]) (st1 := [.int ((129 : Int32) + i2), .int (((4 : Int32) * i1) + i2), (.ref a0)]) (as := [.int (((4 : Int32) * i1) + i2), .int ((129 : Int32) + i2)]) (rest := []) 3 rfl rfl (mw_sp rfl rfl (Nat.le_of_ble_eq_true rfl) (mw_ac rfl (mw_ac rfl (mw_ac rfl mw_an))) mw_an) rfl rfl hc7 (H.mono (fun o hp8 H => ?_))
      obtain ⟨rfl, H⟩ := H
      exact H
    · replace H := H.2 (Decidable.of_not_not (of_decide_eq_false c))
      refine mm_R.wgv (pc' := 51) (L' := [some ((.ref a0)), some (.int i1), some (.int i2), some (.int (((4 : Int32) * i1) + i2)), some (.int ((129 : Int32) + i2))]) (r := []) 1 rfl rfl (H.mono (fun v9 H => ?_))
      refine mm_R.wai (pc' := 55) (L' := [some ((.ref a0)), some (.int i1), some (.int i2), some (.int (((4 : Int32) * i1) + i2)), some (.int ((129 : Int32) + i2))]) (r := []) (t := 1000) 1 rfl rfl rfl rfl (H.mono (fun x10 H => ?_))
      refine mm_R.br (L' := [some ((.ref a0)), some (.int i1), some (.int i2), some (.int (((4 : Int32) * i1) + i2)), some (.int ((129 : Int32) + i2))]) (st' := []) (t := 77) (u := 59) (b := mm_cc .ne x10 (0 : Int32)) 1 rfl (fun c => ?_) (fun c => ?_)
      · replace H := H.1 (of_decide_eq_true c)
        obtain ⟨hc11, H⟩ := H
        refine mm_R.cV (pc' := 81) (L' := [some ((.ref a0)), some (.int i1), some (.int i2), some (.int (((4 : Int32) * i1) + i2)), some (.int ((129 : Int32) + i2))]) (st1 := [.int ((129 : Int32) + i2), .int (((4 : Int32) * i1) + i2), (.ref a0)]) (as := [.int (((4 : Int32) * i1) + i2), .int ((129 : Int32) + i2)]) (rest := []) 3 rfl rfl (mw_sp rfl rfl (Nat.le_of_ble_eq_true rfl) (mw_ac rfl (mw_ac rfl (mw_ac rfl mw_an))) mw_an) rfl rfl hc11 (H.mono (fun o hp12 H => ?_))
        obtain ⟨rfl, H⟩ := H
        exact H
      · replace H := H.2 (Decidable.of_not_not (of_decide_eq_false c))
        refine mm_R.wgv (pc' := 61) (L' := [some ((.ref a0)), some (.int i1), some (.int i2), some (.int (((4 : Int32) * i1) + i2)), some (.int ((129 : Int32) + i2))]) (r := [(.ref a0)]) 2 rfl rfl (H.mono (fun v13 H => ?_))
        refine mm_R.wai (pc' := 67) (L' := [some ((.ref a0)), some (.int i1), some (.int i2), some (.int (((4 : Int32) * i1) + i2)), some (.int ((129 : Int32) + i2))]) (r := [(.ref a0)]) (t := 1000) 3 rfl rfl rfl rfl (H.mono (fun x14 H => ?_))
        obtain ⟨hc15, H⟩ := H
        refine mm_R.cV (pc' := 71) (L' := [some ((.ref a0)), some (.int i1), some (.int i2), some (.int (((4 : Int32) * i1) + i2)), some (.int ((129 : Int32) + i2))]) (st1 := [.int (0 : Int32), .int ((129 : Int32) + i2), .int x14, (.ref a0)]) (as := [.int x14, .int ((129 : Int32) + i2), .int (0 : Int32)]) (rest := []) 2 rfl rfl (mw_sp rfl rfl (Nat.le_of_ble_eq_true rfl) (mw_ac rfl (mw_ac rfl (mw_ac rfl (mw_ac rfl mw_an)))) mw_an) rfl rfl hc15 (H.mono (fun o hp16 H => ?_))
        obtain ⟨rfl, H⟩ := H
        exact mm_R.pn (pc' := 84) (L' := [some ((.ref a0)), some (.int i1), some (.int i2), some (.int (((4 : Int32) * i1) + i2)), some (.int ((129 : Int32) + i2))]) (st' := []) 1 rfl H
  · replace H := H.2 (Decidable.of_not_not (of_decide_eq_false c))
    obtain ⟨hc17, H⟩ := H
    refine mm_R.cV (pc' := 34) (L' := [some ((.ref a0)), some (.int i1), some (.int i2), some (.int (((4 : Int32) * i1) + i2)), some (.int ((129 : Int32) + i2))]) (st1 := [.int (0 : Int32), .int (0 : Int32), .int (0 : Int32), .int ((129 : Int32) + i2), (.ref a0)]) (as := [.int ((129 : Int32) + i2), .int (0 : Int32), .int (0 : Int32), .int (0 : Int32)]) (rest := []) 5 rfl rfl (mw_sp rfl rfl (Nat.le_of_ble_eq_true rfl) (mw_ac rfl (mw_ac rfl (mw_ac rfl (mw_ac rfl (mw_ac rfl mw_an))))) mw_an) rfl rfl hc17 (H.mono (fun o hp18 H => ?_))
    obtain ⟨rfl, H⟩ := H
    exact mm_R.pn (pc' := 84) (L' := [some ((.ref a0)), some (.int i1), some (.int i2), some (.int (((4 : Int32) * i1) + i2)), some (.int ((129 : Int32) + i2))]) (st' := []) 1 rfl H
-- StepRunnerModel.gathered, from 84
set_option maxRecDepth 10000 in
theorem w169_84 {X : List Int32} {d : Nat} {a0 : Nat} {i1 : Int32} {i2 : Int32} {i3 : Int32} {i4 : Int32} {hp : mm_H} {Q : Option Value → mm_H → Prop} (H : mw_rc (.ref a0) 142 hp ∧ mm_R X d 142 0 (mm_L0 142 [(.ref a0), .int i4]) [] hp (mw_ri (fun x3 hp2 => ((¬ x3 = (0 : Int32) → mw_gv 10 19 (.ref a0) hp2 (fun v4 => mw_ai 1000 v4 i3 hp2 (fun x5 => ((x5 ≤ (0 : Int32) → mm_R X (d + 1) 169 121 [some ((.ref a0)), some (.int i1), some (.int i2), some (.int i3), some (.int i4)] [] hp2 Q) ∧ (¬ x5 ≤ (0 : Int32) → mw_gv 10 19 (.ref a0) hp2 (fun v6 => mw_ai 1000 v6 i3 hp2 (fun x7 => mw_rc (.ref a0) 172 hp2 ∧ mm_R X d 172 0 (mm_L0 172 [(.ref a0), .int x7, .int i4]) [] hp2 (mw_ri (fun x10 hp9 => ((¬ x10 = (0 : Int32) → mm_R X (d + 1) 169 121 [some ((.ref a0)), some (.int i1), some (.int i2), some (.int i3), some (.int i4)] [] hp9 Q) ∧ (x10 = (0 : Int32) → Q (some (.int (0 : Int32))) hp9))))))))))) ∧ (x3 = (0 : Int32) → Q (some (.int (0 : Int32))) hp2))))) : mm_R X (d + 1) 169 84 [some ((.ref a0)), some (.int i1), some (.int i2), some (.int i3), some (.int i4)] [] hp Q := by
  obtain ⟨hc1, H⟩ := H
  refine mm_R.cV (pc' := 87) (L' := [some ((.ref a0)), some (.int i1), some (.int i2), some (.int i3), some (.int i4)]) (st1 := [.int i4, (.ref a0)]) (as := [.int i4]) (rest := []) 2 rfl rfl (mw_sp rfl rfl (Nat.le_of_ble_eq_true rfl) (mw_ac rfl (mw_ac rfl mw_an)) mw_an) rfl rfl hc1 (H.mono (fun o hp2 H => ?_))
  obtain ⟨x3, rfl, H⟩ := H
  refine mm_R.br (L' := [some ((.ref a0)), some (.int i1), some (.int i2), some (.int i3), some (.int i4)]) (st' := []) (t := 95) (u := 93) (b := mm_cc .ne x3 (0 : Int32)) 1 rfl (fun c => ?_) (fun c => ?_)
  · replace H := H.1 (of_decide_eq_true c)
    refine mm_R.wgv (pc' := 96) (L' := [some ((.ref a0)), some (.int i1), some (.int i2), some (.int i3), some (.int i4)]) (r := []) 1 rfl rfl (H.mono (fun v4 H => ?_))
    refine mm_R.wai (pc' := 100) (L' := [some ((.ref a0)), some (.int i1), some (.int i2), some (.int i3), some (.int i4)]) (r := []) (t := 1000) 1 rfl rfl rfl rfl (H.mono (fun x5 H => ?_))
    refine mm_R.br (L' := [some ((.ref a0)), some (.int i1), some (.int i2), some (.int i3), some (.int i4)]) (st' := []) (t := 121) (u := 104) (b := mm_cc .le x5 (0 : Int32)) 1 rfl (fun c => ?_) (fun c => ?_)
    · replace H := H.1 (of_decide_eq_true c)
      exact H
    · replace H := H.2 (of_decide_eq_false c)
      refine mm_R.wgv (pc' := 106) (L' := [some ((.ref a0)), some (.int i1), some (.int i2), some (.int i3), some (.int i4)]) (r := [(.ref a0)]) 2 rfl rfl (H.mono (fun v6 H => ?_))
      refine mm_R.wai (pc' := 110) (L' := [some ((.ref a0)), some (.int i1), some (.int i2), some (.int i3), some (.int i4)]) (r := [(.ref a0)]) (t := 1000) 1 rfl rfl rfl rfl (H.mono (fun x7 H => ?_))
      obtain ⟨hc8, H⟩ := H
      refine mm_R.cV (pc' := 113) (L' := [some ((.ref a0)), some (.int i1), some (.int i2), some (.int i3), some (.int i4)]) (st1 := [.int i4, .int x7, (.ref a0)]) (as := [.int x7, .int i4]) (rest := []) 1 rfl rfl (mw_sp rfl rfl (Nat.le_of_ble_eq_true rfl) (mw_ac rfl (mw_ac rfl (mw_ac rfl mw_an))) mw_an) rfl rfl hc8 (H.mono (fun o hp9 H => ?_))
      obtain ⟨x10, rfl, H⟩ := H
      refine mm_R.br (L' := [some ((.ref a0)), some (.int i1), some (.int i2), some (.int i3), some (.int i4)]) (st' := []) (t := 121) (u := 119) (b := mm_cc .ne x10 (0 : Int32)) 1 rfl (fun c => ?_) (fun c => ?_)
      · replace H := H.1 (of_decide_eq_true c)
        exact H
      · replace H := H.2 (Decidable.of_not_not (of_decide_eq_false c))
        exact mm_R.rt (pc' := 120) (L' := [some ((.ref a0)), some (.int i1), some (.int i2), some (.int i3), some (.int i4)]) (st1 := [.int (0 : Int32)]) 1 rfl rfl rfl rfl rfl rfl H
  · replace H := H.2 (Decidable.of_not_not (of_decide_eq_false c))
    exact mm_R.rt (pc' := 94) (L' := [some ((.ref a0)), some (.int i1), some (.int i2), some (.int i3), some (.int i4)]) (st1 := [.int (0 : Int32)]) 1 rfl rfl rfl rfl rfl rfl H
-- StepRunnerModel.gathered, from 121
set_option maxRecDepth 10000 in
theorem w169_121 {X : List Int32} {d : Nat} {a0 : Nat} {i1 : Int32} {i2 : Int32} {i3 : Int32} {i4 : Int32} {hp : mm_H} {Q : Option Value → mm_H → Prop} (H : mm_R X d 123 0 (mm_L0 123 [.int i4]) [] hp (mw_ri (fun x2 hp1 => mw_rc (.ref a0) 144 hp1 ∧ mm_R X d 144 0 (mm_L0 144 [(.ref a0), .int x2]) [] hp1 (mw_ri (fun x5 hp4 => ((¬ x5 = (0 : Int32) → Q (some (.int (1 : Int32))) hp4) ∧ (x5 = (0 : Int32) → mw_gv 10 20 (.ref a0) hp4 (fun v6 => mw_ai 1002 v6 i3 hp4 (fun x7 => ((x7 = (0 : Int32) → Q (some (.int (1 : Int32))) hp4) ∧ (¬ x7 = (0 : Int32) → mw_rc (.ref a0) 149 hp4 ∧ mm_R X d 149 0 (mm_L0 149 [(.ref a0), .int ((3 : Int32) + i3), .int i4]) [] hp4 (mw_r0 (fun hp9 => Q (some (.int (1 : Int32))) hp9))))))))))))) : mm_R X (d + 1) 169 121 [some ((.ref a0)), some (.int i1), some (.int i2), some (.int i3), some (.int i4)] [] hp Q := by
  refine mm_R.cS (pc' := 124) (L' := [some ((.ref a0)), some (.int i1), some (.int i2), some (.int i3), some (.int i4)]) (st1 := [.int i4, (.ref a0)]) (as := [.int i4]) (rest := [(.ref a0)]) 2 rfl rfl (mw_sp rfl rfl (Nat.le_of_ble_eq_true rfl) (mw_ac rfl mw_an) (mw_ac rfl mw_an)) rfl rfl (H.mono (fun o hp1 H => ?_))
  obtain ⟨x2, rfl, H⟩ := H
  obtain ⟨hc3, H⟩ := H
  refine mm_R.cV (pc' := 127) (L' := [some ((.ref a0)), some (.int i1), some (.int i2), some (.int i3), some (.int i4)]) (st1 := [.int x2, (.ref a0)]) (as := [.int x2]) (rest := []) 0 rfl rfl (mw_sp rfl rfl (Nat.le_of_ble_eq_true rfl) (mw_ac rfl (mw_ac rfl mw_an)) mw_an) rfl rfl hc3 (H.mono (fun o hp4 H => ?_))
  obtain ⟨x5, rfl, H⟩ := H
  refine mm_R.br (L' := [some ((.ref a0)), some (.int i1), some (.int i2), some (.int i3), some (.int i4)]) (st' := []) (t := 151) (u := 133) (b := mm_cc .ne x5 (0 : Int32)) 1 rfl (fun c => ?_) (fun c => ?_)
  · replace H := H.1 (of_decide_eq_true c)
    exact mm_R.rt (pc' := 152) (L' := [some ((.ref a0)), some (.int i1), some (.int i2), some (.int i3), some (.int i4)]) (st1 := [.int (1 : Int32)]) 1 rfl rfl rfl rfl rfl rfl H
  · replace H := H.2 (Decidable.of_not_not (of_decide_eq_false c))
    refine mm_R.wgv (pc' := 134) (L' := [some ((.ref a0)), some (.int i1), some (.int i2), some (.int i3), some (.int i4)]) (r := []) 1 rfl rfl (H.mono (fun v6 H => ?_))
    refine mm_R.wai (pc' := 138) (L' := [some ((.ref a0)), some (.int i1), some (.int i2), some (.int i3), some (.int i4)]) (r := []) (t := 1002) 1 rfl rfl rfl rfl (H.mono (fun x7 H => ?_))
    refine mm_R.br (L' := [some ((.ref a0)), some (.int i1), some (.int i2), some (.int i3), some (.int i4)]) (st' := []) (t := 151) (u := 142) (b := mm_cc .eq x7 (0 : Int32)) 1 rfl (fun c => ?_) (fun c => ?_)
    · replace H := H.1 (of_decide_eq_true c)
      exact mm_R.rt (pc' := 152) (L' := [some ((.ref a0)), some (.int i1), some (.int i2), some (.int i3), some (.int i4)]) (st1 := [.int (1 : Int32)]) 1 rfl rfl rfl rfl rfl rfl H
    · replace H := H.2 (of_decide_eq_false c)
      obtain ⟨hc8, H⟩ := H
      refine mm_R.cV (pc' := 148) (L' := [some ((.ref a0)), some (.int i1), some (.int i2), some (.int i3), some (.int i4)]) (st1 := [.int i4, .int ((3 : Int32) + i3), (.ref a0)]) (as := [.int ((3 : Int32) + i3), .int i4]) (rest := []) 5 rfl rfl (mw_sp rfl rfl (Nat.le_of_ble_eq_true rfl) (mw_ac rfl (mw_ac rfl (mw_ac rfl mw_an))) mw_an) rfl rfl hc8 (H.mono (fun o hp9 H => ?_))
      obtain ⟨rfl, H⟩ := H
      exact mm_R.rt (pc' := 152) (L' := [some ((.ref a0)), some (.int i1), some (.int i2), some (.int i3), some (.int i4)]) (st1 := [.int (1 : Int32)]) 1 rfl rfl rfl rfl rfl rfl H
-- StepRunnerModel.take, from 0
set_option maxRecDepth 10000 in
theorem w170_0 {X : List Int32} {d : Nat} {a0 : Nat} {i1 : Int32} {i2 : Int32} {i3 : Int32} {hp : mm_H} {Q : Option Value → mm_H → Prop} (H : (((3 : Int32) ≤ i1 → mm_R X d 123 0 (mm_L0 123 [.int (((123 : Int32) + i1) - (10 : Int32))]) [] hp (mw_ri (fun x2 hp1 => mw_rc (.ref a0) 143 hp1 ∧ mm_R X d 143 0 (mm_L0 143 [(.ref a0), .int (((123 : Int32) + i1) - (10 : Int32))]) [] hp1 (mw_ri (fun x5 hp4 => mw_rc (.ref a0) 150 hp4 ∧ mm_R X d 150 0 (mm_L0 150 [(.ref a0), .int x2, .int x5, .int i2, .int i3]) [] hp4 (mw_r0 (fun hp7 => Q none hp7))))))) ∧ (¬ (3 : Int32) ≤ i1 → mm_R X d 123 0 (mm_L0 123 [.int i1]) [] hp (mw_ri (fun x9 hp8 => mw_rc (.ref a0) 143 hp8 ∧ mm_R X d 143 0 (mm_L0 143 [(.ref a0), .int i1]) [] hp8 (mw_ri (fun x12 hp11 => mw_rc (.ref a0) 150 hp11 ∧ mm_R X d 150 0 (mm_L0 150 [(.ref a0), .int x9, .int x12, .int i2, .int i3]) [] hp11 (mw_r0 (fun hp14 => Q none hp14))))))))) : mm_R X (d + 1) 170 0 (mm_L0 170 [(.ref a0), .int i1, .int i2, .int i3]) [] hp Q := by
  show mm_R X (d + 1) 170 0 [some ((.ref a0)), some (.int i1), some (.int i2), some (.int i3), none] [] hp Q
  refine mm_R.br (L' := [some ((.ref a0)), some (.int i1), some (.int i2), some (.int i3), none]) (st' := []) (t := 9) (u := 5) (b := mm_cc .ge i1 (3 : Int32)) 3 rfl (fun c => ?_) (fun c => ?_)
  · replace H := H.1 (of_decide_eq_true c)
    refine mm_R.cS (pc' := 21) (L' := [some ((.ref a0)), some (.int i1), some (.int i2), some (.int i3), some (.int (((123 : Int32) + i1) - (10 : Int32)))]) (st1 := [.int (((123 : Int32) + i1) - (10 : Int32)), (.ref a0)]) (as := [.int (((123 : Int32) + i1) - (10 : Int32))]) (rest := [(.ref a0)]) 8 rfl rfl (mw_sp rfl rfl (Nat.le_of_ble_eq_true rfl) (mw_ac rfl mw_an) (mw_ac rfl mw_an)) rfl rfl (H.mono (fun o hp1 H => ?_))
    obtain ⟨x2, rfl, H⟩ := H
    obtain ⟨hc3, H⟩ := H
    refine mm_R.cV (pc' := 27) (L' := [some ((.ref a0)), some (.int i1), some (.int i2), some (.int i3), some (.int (((123 : Int32) + i1) - (10 : Int32)))]) (st1 := [.int (((123 : Int32) + i1) - (10 : Int32)), (.ref a0), .int x2, (.ref a0)]) (as := [.int (((123 : Int32) + i1) - (10 : Int32))]) (rest := [.int x2, (.ref a0)]) 2 rfl rfl (mw_sp rfl rfl (Nat.le_of_ble_eq_true rfl) (mw_ac rfl (mw_ac rfl mw_an)) (mw_ac rfl (mw_ac rfl mw_an))) rfl rfl hc3 (H.mono (fun o hp4 H => ?_))
    obtain ⟨x5, rfl, H⟩ := H
    obtain ⟨hc6, H⟩ := H
    refine mm_R.cV (pc' := 32) (L' := [some ((.ref a0)), some (.int i1), some (.int i2), some (.int i3), some (.int (((123 : Int32) + i1) - (10 : Int32)))]) (st1 := [.int i3, .int i2, .int x5, .int x2, (.ref a0)]) (as := [.int x2, .int x5, .int i2, .int i3]) (rest := []) 2 rfl rfl (mw_sp rfl rfl (Nat.le_of_ble_eq_true rfl) (mw_ac rfl (mw_ac rfl (mw_ac rfl (mw_ac rfl (mw_ac rfl mw_an))))) mw_an) rfl rfl hc6 (H.mono (fun o hp7 H => ?_))
    obtain ⟨rfl, H⟩ := H
    exact mm_R.rt (pc' := 35) (L' := [some ((.ref a0)), some (.int i1), some (.int i2), some (.int i3), some (.int (((123 : Int32) + i1) - (10 : Int32)))]) (st1 := []) 0 rfl rfl rfl rfl rfl rfl H
  · replace H := H.2 (of_decide_eq_false c)
    refine mm_R.cS (pc' := 21) (L' := [some ((.ref a0)), some (.int i1), some (.int i2), some (.int i3), some (.int i1)]) (st1 := [.int i1, (.ref a0)]) (as := [.int i1]) (rest := [(.ref a0)]) 5 rfl rfl (mw_sp rfl rfl (Nat.le_of_ble_eq_true rfl) (mw_ac rfl mw_an) (mw_ac rfl mw_an)) rfl rfl (H.mono (fun o hp8 H => ?_))
    obtain ⟨x9, rfl, H⟩ := H
    obtain ⟨hc10, H⟩ := H
    refine mm_R.cV (pc' := 27) (L' := [some ((.ref a0)), some (.int i1), some (.int i2), some (.int i3), some (.int i1)]) (st1 := [.int i1, (.ref a0), .int x9, (.ref a0)]) (as := [.int i1]) (rest := [.int x9, (.ref a0)]) 2 rfl rfl (mw_sp rfl rfl (Nat.le_of_ble_eq_true rfl) (mw_ac rfl (mw_ac rfl mw_an)) (mw_ac rfl (mw_ac rfl mw_an))) rfl rfl hc10 (H.mono (fun o hp11 H => ?_))
    obtain ⟨x12, rfl, H⟩ := H
    obtain ⟨hc13, H⟩ := H
    refine mm_R.cV (pc' := 32) (L' := [some ((.ref a0)), some (.int i1), some (.int i2), some (.int i3), some (.int i1)]) (st1 := [.int i3, .int i2, .int x12, .int x9, (.ref a0)]) (as := [.int x9, .int x12, .int i2, .int i3]) (rest := []) 2 rfl rfl (mw_sp rfl rfl (Nat.le_of_ble_eq_true rfl) (mw_ac rfl (mw_ac rfl (mw_ac rfl (mw_ac rfl (mw_ac rfl mw_an))))) mw_an) rfl rfl hc13 (H.mono (fun o hp14 H => ?_))
    obtain ⟨rfl, H⟩ := H
    exact mm_R.rt (pc' := 35) (L' := [some ((.ref a0)), some (.int i1), some (.int i2), some (.int i3), some (.int i1)]) (st1 := []) 0 rfl rfl rfl rfl rfl rfl H
-- StepRunnerModel.all, from 0
set_option maxRecDepth 10000 in
theorem w171_0 {X : List Int32} {d : Nat} {a0 : Nat} {i1 : Int32} {i2 : Int32} {hp : mm_H} {Q : Option Value → mm_H → Prop} (H : mw_rc (.ref a0) 122 hp ∧ mm_R X d 122 0 (mm_L0 122 [(.ref a0), .int i2, .int (3 : Int32), .int (0 : Int32), .int (0 : Int32)]) [] hp (mw_r0 (fun hp2 => mm_R X (d + 1) 171 10 [some ((.ref a0)), some (.int i1), some (.int i2), some (.int (0 : Int32)), none, none, none] [] hp2 Q))) : mm_R X (d + 1) 171 0 (mm_L0 171 [(.ref a0), .int i1, .int i2]) [] hp Q := by
  show mm_R X (d + 1) 171 0 [some ((.ref a0)), some (.int i1), some (.int i2), none, none, none, none] [] hp Q
  obtain ⟨hc1, H⟩ := H
  refine mm_R.cV (pc' := 5) (L' := [some ((.ref a0)), some (.int i1), some (.int i2), none, none, none, none]) (st1 := [.int (0 : Int32), .int (0 : Int32), .int (3 : Int32), .int i2, (.ref a0)]) (as := [.int i2, .int (3 : Int32), .int (0 : Int32), .int (0 : Int32)]) (rest := []) 5 rfl rfl (mw_sp rfl rfl (Nat.le_of_ble_eq_true rfl) (mw_ac rfl (mw_ac rfl (mw_ac rfl (mw_ac rfl (mw_ac rfl mw_an))))) mw_an) rfl rfl hc1 (H.mono (fun o hp2 H => ?_))
  obtain ⟨rfl, H⟩ := H
  exact mm_R.pn (pc' := 10) (L' := [some ((.ref a0)), some (.int i1), some (.int i2), some (.int (0 : Int32)), none, none, none]) (st' := []) 2 rfl H
-- StepRunnerModel.all, from 10
set_option maxRecDepth 10000 in
theorem w171_10 {X : List Int32} {d : Nat} {a0 : Nat} {i1 : Int32} {i2 : Int32} {i3 : Int32} {o4 : Option Value} {o5 : Option Value} {o6 : Option Value} {hp : mm_H} {Q : Option Value → mm_H → Prop} (H : mw_gv 10 16 (.ref a0) hp (fun v1 => mw_ai 1000 v1 i1 hp (fun x2 => ((x2 ≤ i3 → Q none hp) ∧ (¬ x2 ≤ i3 → mw_gv 10 17 (.ref a0) hp (fun v3 => mw_ai 1000 v3 (((3 : Int32) * i1) + i3) hp (fun x4 => (((3 : Int32) ≤ x4 → mm_R X (d + 1) 171 51 [some ((.ref a0)), some (.int i1), some (.int i2), some (.int i3), some (.int x4), o5, o6] [.int (((123 : Int32) + x4) - (10 : Int32))] hp Q) ∧ (¬ (3 : Int32) ≤ x4 → mm_R X (d + 1) 171 51 [some ((.ref a0)), some (.int i1), some (.int i2), some (.int i3), some (.int x4), o5, o6] [.int x4] hp Q))))))))) : mm_R X (d + 1) 171 10 [some ((.ref a0)), some (.int i1), some (.int i2), some (.int i3), o4, o5, o6] [] hp Q := by
  refine mm_R.wgv (pc' := 12) (L' := [some ((.ref a0)), some (.int i1), some (.int i2), some (.int i3), o4, o5, o6]) (r := [.int i3]) 2 rfl rfl (H.mono (fun v1 H => ?_))
  refine mm_R.wai (pc' := 16) (L' := [some ((.ref a0)), some (.int i1), some (.int i2), some (.int i3), o4, o5, o6]) (r := [.int i3]) (t := 1000) 1 rfl rfl rfl rfl (H.mono (fun x2 H => ?_))
  refine mm_R.br (L' := [some ((.ref a0)), some (.int i1), some (.int i2), some (.int i3), o4, o5, o6]) (st' := []) (t := 144) (u := 20) (b := mm_cc .ge i3 x2) 1 rfl (fun c => ?_) (fun c => ?_)
  · replace H := H.1 (of_decide_eq_true c)
    exact mm_R.rt (pc' := 144) (L' := [some ((.ref a0)), some (.int i1), some (.int i2), some (.int i3), o4, o5, o6]) (st1 := []) 0 rfl rfl rfl rfl rfl rfl H
  · replace H := H.2 (of_decide_eq_false c)
    refine mm_R.wgv (pc' := 21) (L' := [some ((.ref a0)), some (.int i1), some (.int i2), some (.int i3), o4, o5, o6]) (r := []) 1 rfl rfl (H.mono (fun v3 H => ?_))
    refine mm_R.wai (pc' := 29) (L' := [some ((.ref a0)), some (.int i1), some (.int i2), some (.int i3), o4, o5, o6]) (r := []) (t := 1000) 5 rfl rfl rfl rfl (H.mono (fun x4 H => ?_))
    refine mm_R.br (L' := [some ((.ref a0)), some (.int i1), some (.int i2), some (.int i3), some (.int x4), o5, o6]) (st' := []) (t := 43) (u := 38) (b := mm_cc .ge x4 (3 : Int32)) 4 rfl (fun c => ?_) (fun c => ?_)
    · replace H := H.1 (of_decide_eq_true c)
      exact mm_R.pn (pc' := 51) (L' := [some ((.ref a0)), some (.int i1), some (.int i2), some (.int i3), some (.int x4), o5, o6]) (st' := [.int (((123 : Int32) + x4) - (10 : Int32))]) 5 rfl H
    · replace H := H.2 (of_decide_eq_false c)
      exact mm_R.pn (pc' := 51) (L' := [some ((.ref a0)), some (.int i1), some (.int i2), some (.int i3), some (.int x4), o5, o6]) (st' := [.int x4]) 2 rfl H
-- StepRunnerModel.all, from 51
set_option maxRecDepth 10000 in
theorem w171_51 {X : List Int32} {d : Nat} {a0 : Nat} {i1 : Int32} {i2 : Int32} {i3 : Int32} {i4 : Int32} {o5 : Option Value} {o6 : Option Value} {s0 : Int32} {hp : mm_H} {Q : Option Value → mm_H → Prop} (H : mw_gv 10 18 (.ref a0) hp (fun v1 => mw_ai 1000 v1 i1 hp (fun x2 => ((¬ x2 = (2 : Int32) → mw_rc (.ref a0) 170 hp ∧ mm_R X d 170 0 (mm_L0 170 [(.ref a0), .int i4, .int i2, .int (1 : Int32)]) [] hp (mw_r0 (fun hp4 => mm_R X (d + 1) 171 10 [some ((.ref a0)), some (.int i1), some (.int i2), some (.int (i3 + (1 : Int32))), some (.int i4), some (.int s0), o6] [] hp4 Q))) ∧ (x2 = (2 : Int32) → mm_R X d 123 0 (mm_L0 123 [.int s0]) [] hp (mw_ri (fun x6 hp5 => mw_rc (.ref a0) 144 hp5 ∧ mm_R X d 144 0 (mm_L0 144 [(.ref a0), .int x6]) [] hp5 (mw_ri (fun x9 hp8 => ((¬ x9 = (3 : Int32) → mw_rc (.ref a0) 170 hp8 ∧ mm_R X d 170 0 (mm_L0 170 [(.ref a0), .int i4, .int i2, .int (1 : Int32)]) [] hp8 (mw_r0 (fun hp11 => mm_R X (d + 1) 171 10 [some ((.ref a0)), some (.int i1), some (.int i2), some (.int (i3 + (1 : Int32))), some (.int i4), some (.int s0), o6] [] hp11 Q))) ∧ (x9 = (3 : Int32) → mm_R X d 123 0 (mm_L0 123 [.int s0]) [] hp8 (mw_ri (fun x13 hp12 => mm_R X (d + 1) 171 85 [some ((.ref a0)), some (.int i1), some (.int i2), some (.int i3), some (.int i4), some (.int s0), some (.int (x13 + (1 : Int32)))] [] hp12 Q))))))))))))) : mm_R X (d + 1) 171 51 [some ((.ref a0)), some (.int i1), some (.int i2), some (.int i3), some (.int i4), o5, o6] [.int s0] hp Q := by
  refine mm_R.wgv (pc' := 54) (L' := [some ((.ref a0)), some (.int i1), some (.int i2), some (.int i3), some (.int i4), some (.int s0), o6]) (r := []) 2 rfl rfl (H.mono (fun v1 H => ?_))
  refine mm_R.wai (pc' := 58) (L' := [some ((.ref a0)), some (.int i1), some (.int i2), some (.int i3), some (.int i4), some (.int s0), o6]) (r := []) (t := 1000) 1 rfl rfl rfl rfl (H.mono (fun x2 H => ?_))
  refine mm_R.br (L' := [some ((.ref a0)), some (.int i1), some (.int i2), some (.int i3), some (.int i4), some (.int s0), o6]) (st' := []) (t := 130) (u := 63) (b := mm_cc .ne x2 (2 : Int32)) 2 rfl (fun c => ?_) (fun c => ?_)
  · replace H := H.1 (of_decide_eq_true c)
    obtain ⟨hc3, H⟩ := H
    refine mm_R.cV (pc' := 135) (L' := [some ((.ref a0)), some (.int i1), some (.int i2), some (.int i3), some (.int i4), some (.int s0), o6]) (st1 := [.int (1 : Int32), .int i2, .int i4, (.ref a0)]) (as := [.int i4, .int i2, .int (1 : Int32)]) (rest := []) 4 rfl rfl (mw_sp rfl rfl (Nat.le_of_ble_eq_true rfl) (mw_ac rfl (mw_ac rfl (mw_ac rfl (mw_ac rfl mw_an)))) mw_an) rfl rfl hc3 (H.mono (fun o hp4 H => ?_))
    obtain ⟨rfl, H⟩ := H
    exact mm_R.pn (pc' := 10) (L' := [some ((.ref a0)), some (.int i1), some (.int i2), some (.int (i3 + (1 : Int32))), some (.int i4), some (.int s0), o6]) (st' := []) 2 rfl H
  · replace H := H.2 (Decidable.of_not_not (of_decide_eq_false c))
    refine mm_R.cS (pc' := 66) (L' := [some ((.ref a0)), some (.int i1), some (.int i2), some (.int i3), some (.int i4), some (.int s0), o6]) (st1 := [.int s0, (.ref a0)]) (as := [.int s0]) (rest := [(.ref a0)]) 2 rfl rfl (mw_sp rfl rfl (Nat.le_of_ble_eq_true rfl) (mw_ac rfl mw_an) (mw_ac rfl mw_an)) rfl rfl (H.mono (fun o hp5 H => ?_))
    obtain ⟨x6, rfl, H⟩ := H
    obtain ⟨hc7, H⟩ := H
    refine mm_R.cV (pc' := 69) (L' := [some ((.ref a0)), some (.int i1), some (.int i2), some (.int i3), some (.int i4), some (.int s0), o6]) (st1 := [.int x6, (.ref a0)]) (as := [.int x6]) (rest := []) 0 rfl rfl (mw_sp rfl rfl (Nat.le_of_ble_eq_true rfl) (mw_ac rfl (mw_ac rfl mw_an)) mw_an) rfl rfl hc7 (H.mono (fun o hp8 H => ?_))
    obtain ⟨x9, rfl, H⟩ := H
    refine mm_R.br (L' := [some ((.ref a0)), some (.int i1), some (.int i2), some (.int i3), some (.int i4), some (.int s0), o6]) (st' := []) (t := 130) (u := 76) (b := mm_cc .ne x9 (3 : Int32)) 2 rfl (fun c => ?_) (fun c => ?_)
    · replace H := H.1 (of_decide_eq_true c)
      obtain ⟨hc10, H⟩ := H
      refine mm_R.cV (pc' := 135) (L' := [some ((.ref a0)), some (.int i1), some (.int i2), some (.int i3), some (.int i4), some (.int s0), o6]) (st1 := [.int (1 : Int32), .int i2, .int i4, (.ref a0)]) (as := [.int i4, .int i2, .int (1 : Int32)]) (rest := []) 4 rfl rfl (mw_sp rfl rfl (Nat.le_of_ble_eq_true rfl) (mw_ac rfl (mw_ac rfl (mw_ac rfl (mw_ac rfl mw_an)))) mw_an) rfl rfl hc10 (H.mono (fun o hp11 H => ?_))
      obtain ⟨rfl, H⟩ := H
      exact mm_R.pn (pc' := 10) (L' := [some ((.ref a0)), some (.int i1), some (.int i2), some (.int (i3 + (1 : Int32))), some (.int i4), some (.int s0), o6]) (st' := []) 2 rfl H
    · replace H := H.2 (Decidable.of_not_not (of_decide_eq_false c))
      refine mm_R.cS (pc' := 78) (L' := [some ((.ref a0)), some (.int i1), some (.int i2), some (.int i3), some (.int i4), some (.int s0), o6]) (st1 := [.int s0]) (as := [.int s0]) (rest := []) 1 rfl rfl (mw_sp rfl rfl (Nat.le_of_ble_eq_true rfl) (mw_ac rfl mw_an) mw_an) rfl rfl (H.mono (fun o hp12 H => ?_))
      obtain ⟨x13, rfl, H⟩ := H
      exact mm_R.pn (pc' := 85) (L' := [some ((.ref a0)), some (.int i1), some (.int i2), some (.int i3), some (.int i4), some (.int s0), some (.int (x13 + (1 : Int32)))]) (st' := []) 3 rfl H
-- StepRunnerModel.all, from 85
set_option maxRecDepth 10000 in
theorem w171_85 {X : List Int32} {d : Nat} {a0 : Nat} {i1 : Int32} {i2 : Int32} {i3 : Int32} {i4 : Int32} {i5 : Int32} {i6 : Int32} {hp : mm_H} {Q : Option Value → mm_H → Prop} (H : mw_rc (.ref a0) 143 hp ∧ mm_R X d 143 0 (mm_L0 143 [(.ref a0), .int i5]) [] hp (mw_ri (fun x3 hp2 => ((x3 ≤ i6 → mm_R X (d + 1) 171 10 [some ((.ref a0)), some (.int i1), some (.int i2), some (.int (i3 + (1 : Int32))), some (.int i4), some (.int i5), some (.int i6)] [] hp2 Q) ∧ (¬ x3 ≤ i6 → mw_rc (.ref a0) 143 hp2 ∧ mm_R X d 143 0 (mm_L0 143 [(.ref a0), .int i5]) [] hp2 (mw_ri (fun x6 hp5 => mw_rc (.ref a0) 150 hp5 ∧ mm_R X d 150 0 (mm_L0 150 [(.ref a0), .int i6, .int x6, .int i2, .int (1 : Int32)]) [] hp5 (mw_r0 (fun hp8 => mw_rc (.ref a0) 143 hp8 ∧ mm_R X d 143 0 (mm_L0 143 [(.ref a0), .int i5]) [] hp8 (mw_ri (fun x11 hp10 => mw_rc (.ref a0) 147 hp10 ∧ mm_R X d 147 0 (mm_L0 147 [(.ref a0), .int i6, .int x11]) [] hp10 (mw_ri (fun x14 hp13 => mm_R X (d + 1) 171 85 [some ((.ref a0)), some (.int i1), some (.int i2), some (.int i3), some (.int i4), some (.int i5), some (.int x14)] [] hp13 Q))))))))))))) : mm_R X (d + 1) 171 85 [some ((.ref a0)), some (.int i1), some (.int i2), some (.int i3), some (.int i4), some (.int i5), some (.int i6)] [] hp Q := by
  obtain ⟨hc1, H⟩ := H
  refine mm_R.cV (pc' := 90) (L' := [some ((.ref a0)), some (.int i1), some (.int i2), some (.int i3), some (.int i4), some (.int i5), some (.int i6)]) (st1 := [.int i5, (.ref a0), .int i6]) (as := [.int i5]) (rest := [.int i6]) 3 rfl rfl (mw_sp rfl rfl (Nat.le_of_ble_eq_true rfl) (mw_ac rfl (mw_ac rfl mw_an)) (mw_ac rfl mw_an)) rfl rfl hc1 (H.mono (fun o hp2 H => ?_))
  obtain ⟨x3, rfl, H⟩ := H
  refine mm_R.br (L' := [some ((.ref a0)), some (.int i1), some (.int i2), some (.int i3), some (.int i4), some (.int i5), some (.int i6)]) (st' := []) (t := 127) (u := 96) (b := mm_cc .ge i6 x3) 1 rfl (fun c => ?_) (fun c => ?_)
  · replace H := H.1 (of_decide_eq_true c)
    exact mm_R.pn (pc' := 10) (L' := [some ((.ref a0)), some (.int i1), some (.int i2), some (.int (i3 + (1 : Int32))), some (.int i4), some (.int i5), some (.int i6)]) (st' := []) 3 rfl H
  · replace H := H.2 (of_decide_eq_false c)
    obtain ⟨hc4, H⟩ := H
    refine mm_R.cV (pc' := 102) (L' := [some ((.ref a0)), some (.int i1), some (.int i2), some (.int i3), some (.int i4), some (.int i5), some (.int i6)]) (st1 := [.int i5, (.ref a0), .int i6, (.ref a0)]) (as := [.int i5]) (rest := [.int i6, (.ref a0)]) 4 rfl rfl (mw_sp rfl rfl (Nat.le_of_ble_eq_true rfl) (mw_ac rfl (mw_ac rfl mw_an)) (mw_ac rfl (mw_ac rfl mw_an))) rfl rfl hc4 (H.mono (fun o hp5 H => ?_))
    obtain ⟨x6, rfl, H⟩ := H
    obtain ⟨hc7, H⟩ := H
    refine mm_R.cV (pc' := 107) (L' := [some ((.ref a0)), some (.int i1), some (.int i2), some (.int i3), some (.int i4), some (.int i5), some (.int i6)]) (st1 := [.int (1 : Int32), .int i2, .int x6, .int i6, (.ref a0)]) (as := [.int i6, .int x6, .int i2, .int (1 : Int32)]) (rest := []) 2 rfl rfl (mw_sp rfl rfl (Nat.le_of_ble_eq_true rfl) (mw_ac rfl (mw_ac rfl (mw_ac rfl (mw_ac rfl (mw_ac rfl mw_an))))) mw_an) rfl rfl hc7 (H.mono (fun o hp8 H => ?_))
    obtain ⟨rfl, H⟩ := H
    obtain ⟨hc9, H⟩ := H
    refine mm_R.cV (pc' := 116) (L' := [some ((.ref a0)), some (.int i1), some (.int i2), some (.int i3), some (.int i4), some (.int i5), some (.int i6)]) (st1 := [.int i5, (.ref a0), .int i6, (.ref a0)]) (as := [.int i5]) (rest := [.int i6, (.ref a0)]) 4 rfl rfl (mw_sp rfl rfl (Nat.le_of_ble_eq_true rfl) (mw_ac rfl (mw_ac rfl mw_an)) (mw_ac rfl (mw_ac rfl mw_an))) rfl rfl hc9 (H.mono (fun o hp10 H => ?_))
    obtain ⟨x11, rfl, H⟩ := H
    obtain ⟨hc12, H⟩ := H
    refine mm_R.cV (pc' := 119) (L' := [some ((.ref a0)), some (.int i1), some (.int i2), some (.int i3), some (.int i4), some (.int i5), some (.int i6)]) (st1 := [.int x11, .int i6, (.ref a0)]) (as := [.int i6, .int x11]) (rest := []) 0 rfl rfl (mw_sp rfl rfl (Nat.le_of_ble_eq_true rfl) (mw_ac rfl (mw_ac rfl (mw_ac rfl mw_an))) mw_an) rfl rfl hc12 (H.mono (fun o hp13 H => ?_))
    obtain ⟨x14, rfl, H⟩ := H
    exact mm_R.pn (pc' := 85) (L' := [some ((.ref a0)), some (.int i1), some (.int i2), some (.int i3), some (.int i4), some (.int i5), some (.int x14)]) (st' := []) 2 rfl H
-- StepRunnerModel.picked, from 0
set_option maxRecDepth 10000 in
theorem w172_0 {X : List Int32} {d : Nat} {a0 : Nat} {i1 : Int32} {i2 : Int32} {hp : mm_H} {Q : Option Value → mm_H → Prop} (H : mm_R X d 123 0 (mm_L0 123 [.int i2]) [] hp (mw_ri (fun x2 hp1 => mw_rc (.ref a0) 144 hp1 ∧ mm_R X d 144 0 (mm_L0 144 [(.ref a0), .int x2]) [] hp1 (mw_ri (fun x5 hp4 => ((x5 = (3 : Int32) → mw_rc (.ref a0) 149 hp4 ∧ mm_R X d 149 0 (mm_L0 149 [(.ref a0), .int i2, .int (141 : Int32)]) [] hp4 (mw_r0 (fun hp7 => mw_rc (.ref a0) 121 hp7 ∧ mm_R X d 121 0 (mm_L0 121 [(.ref a0), .int i2]) [] hp7 (mw_r0 (fun hp9 => ((¬ i1 = (3 : Int32) → mm_R X d 123 0 (mm_L0 123 [.int (141 : Int32)]) [] hp9 (mw_ri (fun x11 hp10 => mm_R X (d + 1) 172 52 [some ((.ref a0)), some (.int i1), some (.int i2), some (.int (0 : Int32)), some (.int (x11 + (1 : Int32)))] [] hp10 Q))) ∧ (i1 = (3 : Int32) → mw_rc (.ref a0) 122 hp9 ∧ mm_R X d 122 0 (mm_L0 122 [(.ref a0), .int i2, .int (3 : Int32), .int (0 : Int32), .int (0 : Int32)]) [] hp9 (mw_r0 (fun hp13 => mm_R X d 123 0 (mm_L0 123 [.int (141 : Int32)]) [] hp13 (mw_ri (fun x15 hp14 => mm_R X (d + 1) 172 52 [some ((.ref a0)), some (.int i1), some (.int i2), some (.int (0 : Int32)), some (.int (x15 + (1 : Int32)))] [] hp14 Q))))))))))) ∧ (¬ x5 = (3 : Int32) → Q (some (.int (0 : Int32))) hp4))))))) : mm_R X (d + 1) 172 0 (mm_L0 172 [(.ref a0), .int i1, .int i2]) [] hp Q := by
  show mm_R X (d + 1) 172 0 [some ((.ref a0)), some (.int i1), some (.int i2), none, none] [] hp Q
  refine mm_R.cS (pc' := 2) (L' := [some ((.ref a0)), some (.int i1), some (.int i2), none, none]) (st1 := [.int i2, (.ref a0)]) (as := [.int i2]) (rest := [(.ref a0)]) 2 rfl rfl (mw_sp rfl rfl (Nat.le_of_ble_eq_true rfl) (mw_ac rfl mw_an) (mw_ac rfl mw_an)) rfl rfl (H.mono (fun o hp1 H => ?_))
  obtain ⟨x2, rfl, H⟩ := H
  obtain ⟨hc3, H⟩ := H
  refine mm_R.cV (pc' := 5) (L' := [some ((.ref a0)), some (.int i1), some (.int i2), none, none]) (st1 := [.int x2, (.ref a0)]) (as := [.int x2]) (rest := []) 0 rfl rfl (mw_sp rfl rfl (Nat.le_of_ble_eq_true rfl) (mw_ac rfl (mw_ac rfl mw_an)) mw_an) rfl rfl hc3 (H.mono (fun o hp4 H => ?_))
  obtain ⟨x5, rfl, H⟩ := H
  refine mm_R.br (L' := [some ((.ref a0)), some (.int i1), some (.int i2), none, none]) (st' := []) (t := 14) (u := 12) (b := mm_cc .eq x5 (3 : Int32)) 2 rfl (fun c => ?_) (fun c => ?_)
  · replace H := H.1 (of_decide_eq_true c)
    obtain ⟨hc6, H⟩ := H
    refine mm_R.cV (pc' := 19) (L' := [some ((.ref a0)), some (.int i1), some (.int i2), none, none]) (st1 := [.int (141 : Int32), .int i2, (.ref a0)]) (as := [.int i2, .int (141 : Int32)]) (rest := []) 3 rfl rfl (mw_sp rfl rfl (Nat.le_of_ble_eq_true rfl) (mw_ac rfl (mw_ac rfl (mw_ac rfl mw_an))) mw_an) rfl rfl hc6 (H.mono (fun o hp7 H => ?_))
    obtain ⟨rfl, H⟩ := H
    obtain ⟨hc8, H⟩ := H
    refine mm_R.cV (pc' := 24) (L' := [some ((.ref a0)), some (.int i1), some (.int i2), none, none]) (st1 := [.int i2, (.ref a0)]) (as := [.int i2]) (rest := []) 2 rfl rfl (mw_sp rfl rfl (Nat.le_of_ble_eq_true rfl) (mw_ac rfl (mw_ac rfl mw_an)) mw_an) rfl rfl hc8 (H.mono (fun o hp9 H => ?_))
    obtain ⟨rfl, H⟩ := H
    refine mm_R.br (L' := [some ((.ref a0)), some (.int i1), some (.int i2), none, none]) (st' := []) (t := 40) (u := 32) (b := mm_cc .ne i1 (3 : Int32)) 3 rfl (fun c => ?_) (fun c => ?_)
    · replace H := H.1 (of_decide_eq_true c)
      refine mm_R.cS (pc' := 45) (L' := [some ((.ref a0)), some (.int i1), some (.int i2), some (.int (0 : Int32)), none]) (st1 := [.int (141 : Int32)]) (as := [.int (141 : Int32)]) (rest := []) 3 rfl rfl (mw_sp rfl rfl (Nat.le_of_ble_eq_true rfl) (mw_ac rfl mw_an) mw_an) rfl rfl (H.mono (fun o hp10 H => ?_))
      obtain ⟨x11, rfl, H⟩ := H
      exact mm_R.pn (pc' := 52) (L' := [some ((.ref a0)), some (.int i1), some (.int i2), some (.int (0 : Int32)), some (.int (x11 + (1 : Int32)))]) (st' := []) 3 rfl H
    · replace H := H.2 (Decidable.of_not_not (of_decide_eq_false c))
      obtain ⟨hc12, H⟩ := H
      refine mm_R.cV (pc' := 37) (L' := [some ((.ref a0)), some (.int i1), some (.int i2), none, none]) (st1 := [.int (0 : Int32), .int (0 : Int32), .int (3 : Int32), .int i2, (.ref a0)]) (as := [.int i2, .int (3 : Int32), .int (0 : Int32), .int (0 : Int32)]) (rest := []) 5 rfl rfl (mw_sp rfl rfl (Nat.le_of_ble_eq_true rfl) (mw_ac rfl (mw_ac rfl (mw_ac rfl (mw_ac rfl (mw_ac rfl mw_an))))) mw_an) rfl rfl hc12 (H.mono (fun o hp13 H => ?_))
      obtain ⟨rfl, H⟩ := H
      refine mm_R.cS (pc' := 45) (L' := [some ((.ref a0)), some (.int i1), some (.int i2), some (.int (0 : Int32)), none]) (st1 := [.int (141 : Int32)]) (as := [.int (141 : Int32)]) (rest := []) 3 rfl rfl (mw_sp rfl rfl (Nat.le_of_ble_eq_true rfl) (mw_ac rfl mw_an) mw_an) rfl rfl (H.mono (fun o hp14 H => ?_))
      obtain ⟨x15, rfl, H⟩ := H
      exact mm_R.pn (pc' := 52) (L' := [some ((.ref a0)), some (.int i1), some (.int i2), some (.int (0 : Int32)), some (.int (x15 + (1 : Int32)))]) (st' := []) 3 rfl H
  · replace H := H.2 (of_decide_eq_false c)
    exact mm_R.rt (pc' := 13) (L' := [some ((.ref a0)), some (.int i1), some (.int i2), none, none]) (st1 := [.int (0 : Int32)]) 1 rfl rfl rfl rfl rfl rfl H
-- StepRunnerModel.picked, from 52
set_option maxRecDepth 10000 in
theorem w172_52 {X : List Int32} {d : Nat} {a0 : Nat} {i1 : Int32} {i2 : Int32} {i3 : Int32} {i4 : Int32} {hp : mm_H} {Q : Option Value → mm_H → Prop} (H : mw_rc (.ref a0) 143 hp ∧ mm_R X d 143 0 (mm_L0 143 [(.ref a0), .int (141 : Int32)]) [] hp (mw_ri (fun x3 hp2 => ((x3 ≤ i4 → ((i1 = (3 : Int32) → Q (some (.int (1 : Int32))) hp2) ∧ (¬ i1 = (3 : Int32) → ((¬ i1 = (1 : Int32) → ((¬ i3 = (1 : Int32) → Q (some (.int (0 : Int32))) hp2) ∧ (i3 = (1 : Int32) → Q (some (.int (1 : Int32))) hp2))) ∧ (i1 = (1 : Int32) → ((i3 ≤ (0 : Int32) → Q (some (.int (0 : Int32))) hp2) ∧ (¬ i3 ≤ (0 : Int32) → Q (some (.int (1 : Int32))) hp2))))))) ∧ (¬ x3 ≤ i4 → mw_rc (.ref a0) 144 hp2 ∧ mm_R X d 144 0 (mm_L0 144 [(.ref a0), .int i4]) [] hp2 (mw_ri (fun x6 hp5 => ((x6 = (0 : Int32) → mw_rc (.ref a0) 143 hp5 ∧ mm_R X d 143 0 (mm_L0 143 [(.ref a0), .int (141 : Int32)]) [] hp5 (mw_ri (fun x9 hp8 => mw_rc (.ref a0) 147 hp8 ∧ mm_R X d 147 0 (mm_L0 147 [(.ref a0), .int i4, .int x9]) [] hp8 (mw_ri (fun x12 hp11 => mm_R X (d + 1) 172 52 [some ((.ref a0)), some (.int i1), some (.int i2), some (.int i3), some (.int x12)] [] hp11 Q))))) ∧ (¬ x6 = (0 : Int32) → ((i1 = (3 : Int32) → mm_R X (d + 1) 172 86 [some ((.ref a0)), some (.int i1), some (.int i2), some (.int (i3 + (1 : Int32))), some (.int i4)] [] hp5 Q) ∧ (¬ i1 = (3 : Int32) → ((¬ (i3 + (1 : Int32)) = (1 : Int32) → mw_rc (.ref a0) 143 hp5 ∧ mm_R X d 143 0 (mm_L0 143 [(.ref a0), .int (141 : Int32)]) [] hp5 (mw_ri (fun x15 hp14 => mw_rc (.ref a0) 147 hp14 ∧ mm_R X d 147 0 (mm_L0 147 [(.ref a0), .int i4, .int x15]) [] hp14 (mw_ri (fun x18 hp17 => mm_R X (d + 1) 172 52 [some ((.ref a0)), some (.int i1), some (.int i2), some (.int (i3 + (1 : Int32))), some (.int x18)] [] hp17 Q))))) ∧ ((i3 + (1 : Int32)) = (1 : Int32) → mm_R X (d + 1) 172 86 [some ((.ref a0)), some (.int i1), some (.int i2), some (.int (i3 + (1 : Int32))), some (.int i4)] [] hp5 Q))))))))))))) : mm_R X (d + 1) 172 52 [some ((.ref a0)), some (.int i1), some (.int i2), some (.int i3), some (.int i4)] [] hp Q := by
  obtain ⟨hc1, H⟩ := H
  refine mm_R.cV (pc' := 58) (L' := [some ((.ref a0)), some (.int i1), some (.int i2), some (.int i3), some (.int i4)]) (st1 := [.int (141 : Int32), (.ref a0), .int i4]) (as := [.int (141 : Int32)]) (rest := [.int i4]) 3 rfl rfl (mw_sp rfl rfl (Nat.le_of_ble_eq_true rfl) (mw_ac rfl (mw_ac rfl mw_an)) (mw_ac rfl mw_an)) rfl rfl hc1 (H.mono (fun o hp2 H => ?_))
  obtain ⟨x3, rfl, H⟩ := H
  refine mm_R.br (L' := [some ((.ref a0)), some (.int i1), some (.int i2), some (.int i3), some (.int i4)]) (st' := []) (t := 128) (u := 64) (b := mm_cc .ge i4 x3) 1 rfl (fun c => ?_) (fun c => ?_)
  · replace H := H.1 (of_decide_eq_true c)
    refine mm_R.br (L' := [some ((.ref a0)), some (.int i1), some (.int i2), some (.int i3), some (.int i4)]) (st' := []) (t := 150) (u := 133) (b := mm_cc .eq i1 (3 : Int32)) 3 rfl (fun c => ?_) (fun c => ?_)
    · replace H := H.1 (of_decide_eq_true c)
      exact mm_R.rt (pc' := 155) (L' := [some ((.ref a0)), some (.int i1), some (.int i2), some (.int i3), some (.int i4)]) (st1 := [.int (1 : Int32)]) 2 rfl rfl rfl rfl rfl rfl H
    · replace H := H.2 (of_decide_eq_false c)
      refine mm_R.br (L' := [some ((.ref a0)), some (.int i1), some (.int i2), some (.int i3), some (.int i4)]) (st' := []) (t := 145) (u := 138) (b := mm_cc .ne i1 (1 : Int32)) 3 rfl (fun c => ?_) (fun c => ?_)
      · replace H := H.1 (of_decide_eq_true c)
        refine mm_R.br (L' := [some ((.ref a0)), some (.int i1), some (.int i2), some (.int i3), some (.int i4)]) (st' := []) (t := 154) (u := 150) (b := mm_cc .ne i3 (1 : Int32)) 3 rfl (fun c => ?_) (fun c => ?_)
        · replace H := H.1 (of_decide_eq_true c)
          exact mm_R.rt (pc' := 155) (L' := [some ((.ref a0)), some (.int i1), some (.int i2), some (.int i3), some (.int i4)]) (st1 := [.int (0 : Int32)]) 1 rfl rfl rfl rfl rfl rfl H
        · replace H := H.2 (Decidable.of_not_not (of_decide_eq_false c))
          exact mm_R.rt (pc' := 155) (L' := [some ((.ref a0)), some (.int i1), some (.int i2), some (.int i3), some (.int i4)]) (st1 := [.int (1 : Int32)]) 2 rfl rfl rfl rfl rfl rfl H
      · replace H := H.2 (Decidable.of_not_not (of_decide_eq_false c))
        refine mm_R.br (L' := [some ((.ref a0)), some (.int i1), some (.int i2), some (.int i3), some (.int i4)]) (st' := []) (t := 154) (u := 142) (b := mm_cc .le i3 (0 : Int32)) 2 rfl (fun c => ?_) (fun c => ?_)
        · replace H := H.1 (of_decide_eq_true c)
          exact mm_R.rt (pc' := 155) (L' := [some ((.ref a0)), some (.int i1), some (.int i2), some (.int i3), some (.int i4)]) (st1 := [.int (0 : Int32)]) 1 rfl rfl rfl rfl rfl rfl H
        · replace H := H.2 (of_decide_eq_false c)
          exact mm_R.rt (pc' := 155) (L' := [some ((.ref a0)), some (.int i1), some (.int i2), some (.int i3), some (.int i4)]) (st1 := [.int (1 : Int32)]) 3 rfl rfl rfl rfl rfl rfl H
  · replace H := H.2 (of_decide_eq_false c)
    obtain ⟨hc4, H⟩ := H
    refine mm_R.cV (pc' := 67) (L' := [some ((.ref a0)), some (.int i1), some (.int i2), some (.int i3), some (.int i4)]) (st1 := [.int i4, (.ref a0)]) (as := [.int i4]) (rest := []) 2 rfl rfl (mw_sp rfl rfl (Nat.le_of_ble_eq_true rfl) (mw_ac rfl (mw_ac rfl mw_an)) mw_an) rfl rfl hc4 (H.mono (fun o hp5 H => ?_))
    obtain ⟨x6, rfl, H⟩ := H
    refine mm_R.br (L' := [some ((.ref a0)), some (.int i1), some (.int i2), some (.int i3), some (.int i4)]) (st' := []) (t := 110) (u := 73) (b := mm_cc .eq x6 (0 : Int32)) 1 rfl (fun c => ?_) (fun c => ?_)
    · replace H := H.1 (of_decide_eq_true c)
      obtain ⟨hc7, H⟩ := H
      refine mm_R.cV (pc' := 117) (L' := [some ((.ref a0)), some (.int i1), some (.int i2), some (.int i3), some (.int i4)]) (st1 := [.int (141 : Int32), (.ref a0), .int i4, (.ref a0)]) (as := [.int (141 : Int32)]) (rest := [.int i4, (.ref a0)]) 4 rfl rfl (mw_sp rfl rfl (Nat.le_of_ble_eq_true rfl) (mw_ac rfl (mw_ac rfl mw_an)) (mw_ac rfl (mw_ac rfl mw_an))) rfl rfl hc7 (H.mono (fun o hp8 H => ?_))
      obtain ⟨x9, rfl, H⟩ := H
      obtain ⟨hc10, H⟩ := H
      refine mm_R.cV (pc' := 120) (L' := [some ((.ref a0)), some (.int i1), some (.int i2), some (.int i3), some (.int i4)]) (st1 := [.int x9, .int i4, (.ref a0)]) (as := [.int i4, .int x9]) (rest := []) 0 rfl rfl (mw_sp rfl rfl (Nat.le_of_ble_eq_true rfl) (mw_ac rfl (mw_ac rfl (mw_ac rfl mw_an))) mw_an) rfl rfl hc10 (H.mono (fun o hp11 H => ?_))
      obtain ⟨x12, rfl, H⟩ := H
      exact mm_R.pn (pc' := 52) (L' := [some ((.ref a0)), some (.int i1), some (.int i2), some (.int i3), some (.int x12)]) (st' := []) 2 rfl H
    · replace H := H.2 (of_decide_eq_false c)
      refine mm_R.br (L' := [some ((.ref a0)), some (.int i1), some (.int i2), some (.int (i3 + (1 : Int32))), some (.int i4)]) (st' := []) (t := 86) (u := 81) (b := mm_cc .eq i1 (3 : Int32)) 4 rfl (fun c => ?_) (fun c => ?_)
      · replace H := H.1 (of_decide_eq_true c)
        exact H
      · replace H := H.2 (of_decide_eq_false c)
        refine mm_R.br (L' := [some ((.ref a0)), some (.int i1), some (.int i2), some (.int (i3 + (1 : Int32))), some (.int i4)]) (st' := []) (t := 110) (u := 86) (b := mm_cc .ne (i3 + (1 : Int32)) (1 : Int32)) 3 rfl (fun c => ?_) (fun c => ?_)
        · replace H := H.1 (of_decide_eq_true c)
          obtain ⟨hc13, H⟩ := H
          refine mm_R.cV (pc' := 117) (L' := [some ((.ref a0)), some (.int i1), some (.int i2), some (.int (i3 + (1 : Int32))), some (.int i4)]) (st1 := [.int (141 : Int32), (.ref a0), .int i4, (.ref a0)]) (as := [.int (141 : Int32)]) (rest := [.int i4, (.ref a0)]) 4 rfl rfl (mw_sp rfl rfl (Nat.le_of_ble_eq_true rfl) (mw_ac rfl (mw_ac rfl mw_an)) (mw_ac rfl (mw_ac rfl mw_an))) rfl rfl hc13 (H.mono (fun o hp14 H => ?_))
          obtain ⟨x15, rfl, H⟩ := H
          obtain ⟨hc16, H⟩ := H
          refine mm_R.cV (pc' := 120) (L' := [some ((.ref a0)), some (.int i1), some (.int i2), some (.int (i3 + (1 : Int32))), some (.int i4)]) (st1 := [.int x15, .int i4, (.ref a0)]) (as := [.int i4, .int x15]) (rest := []) 0 rfl rfl (mw_sp rfl rfl (Nat.le_of_ble_eq_true rfl) (mw_ac rfl (mw_ac rfl (mw_ac rfl mw_an))) mw_an) rfl rfl hc16 (H.mono (fun o hp17 H => ?_))
          obtain ⟨x18, rfl, H⟩ := H
          exact mm_R.pn (pc' := 52) (L' := [some ((.ref a0)), some (.int i1), some (.int i2), some (.int (i3 + (1 : Int32))), some (.int x18)]) (st' := []) 2 rfl H
        · replace H := H.2 (Decidable.of_not_not (of_decide_eq_false c))
          exact H
-- StepRunnerModel.picked, from 86
set_option maxRecDepth 10000 in
theorem w172_86 {X : List Int32} {d : Nat} {a0 : Nat} {i1 : Int32} {i2 : Int32} {i3 : Int32} {i4 : Int32} {hp : mm_H} {Q : Option Value → mm_H → Prop} (H : mw_rc (.ref a0) 143 hp ∧ mm_R X d 143 0 (mm_L0 143 [(.ref a0), .int (141 : Int32)]) [] hp (mw_ri (fun x3 hp2 => ((¬ i1 = (3 : Int32) → mw_rc (.ref a0) 150 hp2 ∧ mm_R X d 150 0 (mm_L0 150 [(.ref a0), .int i4, .int x3, .int i2, .int (0 : Int32)]) [] hp2 (mw_r0 (fun hp5 => mw_rc (.ref a0) 143 hp5 ∧ mm_R X d 143 0 (mm_L0 143 [(.ref a0), .int (141 : Int32)]) [] hp5 (mw_ri (fun x8 hp7 => mw_rc (.ref a0) 147 hp7 ∧ mm_R X d 147 0 (mm_L0 147 [(.ref a0), .int i4, .int x8]) [] hp7 (mw_ri (fun x11 hp10 => mm_R X (d + 1) 172 52 [some ((.ref a0)), some (.int i1), some (.int i2), some (.int i3), some (.int x11)] [] hp10 Q))))))) ∧ (i1 = (3 : Int32) → mw_rc (.ref a0) 150 hp2 ∧ mm_R X d 150 0 (mm_L0 150 [(.ref a0), .int i4, .int x3, .int i2, .int (1 : Int32)]) [] hp2 (mw_r0 (fun hp13 => mw_rc (.ref a0) 143 hp13 ∧ mm_R X d 143 0 (mm_L0 143 [(.ref a0), .int (141 : Int32)]) [] hp13 (mw_ri (fun x16 hp15 => mw_rc (.ref a0) 147 hp15 ∧ mm_R X d 147 0 (mm_L0 147 [(.ref a0), .int i4, .int x16]) [] hp15 (mw_ri (fun x19 hp18 => mm_R X (d + 1) 172 52 [some ((.ref a0)), some (.int i1), some (.int i2), some (.int i3), some (.int x19)] [] hp18 Q))))))))))) : mm_R X (d + 1) 172 86 [some ((.ref a0)), some (.int i1), some (.int i2), some (.int i3), some (.int i4)] [] hp Q := by
  obtain ⟨hc1, H⟩ := H
  refine mm_R.cV (pc' := 93) (L' := [some ((.ref a0)), some (.int i1), some (.int i2), some (.int i3), some (.int i4)]) (st1 := [.int (141 : Int32), (.ref a0), .int i4, (.ref a0)]) (as := [.int (141 : Int32)]) (rest := [.int i4, (.ref a0)]) 4 rfl rfl (mw_sp rfl rfl (Nat.le_of_ble_eq_true rfl) (mw_ac rfl (mw_ac rfl mw_an)) (mw_ac rfl (mw_ac rfl mw_an))) rfl rfl hc1 (H.mono (fun o hp2 H => ?_))
  obtain ⟨x3, rfl, H⟩ := H
  refine mm_R.br (L' := [some ((.ref a0)), some (.int i1), some (.int i2), some (.int i3), some (.int i4)]) (st' := [.int i2, .int x3, .int i4, (.ref a0)]) (t := 106) (u := 102) (b := mm_cc .ne i1 (3 : Int32)) 4 rfl (fun c => ?_) (fun c => ?_)
  · replace H := H.1 (of_decide_eq_true c)
    obtain ⟨hc4, H⟩ := H
    refine mm_R.cV (pc' := 107) (L' := [some ((.ref a0)), some (.int i1), some (.int i2), some (.int i3), some (.int i4)]) (st1 := [.int (0 : Int32), .int i2, .int x3, .int i4, (.ref a0)]) (as := [.int i4, .int x3, .int i2, .int (0 : Int32)]) (rest := []) 1 rfl rfl (mw_sp rfl rfl (Nat.le_of_ble_eq_true rfl) (mw_ac rfl (mw_ac rfl (mw_ac rfl (mw_ac rfl (mw_ac rfl mw_an))))) mw_an) rfl rfl hc4 (H.mono (fun o hp5 H => ?_))
    obtain ⟨rfl, H⟩ := H
    obtain ⟨hc6, H⟩ := H
    refine mm_R.cV (pc' := 117) (L' := [some ((.ref a0)), some (.int i1), some (.int i2), some (.int i3), some (.int i4)]) (st1 := [.int (141 : Int32), (.ref a0), .int i4, (.ref a0)]) (as := [.int (141 : Int32)]) (rest := [.int i4, (.ref a0)]) 4 rfl rfl (mw_sp rfl rfl (Nat.le_of_ble_eq_true rfl) (mw_ac rfl (mw_ac rfl mw_an)) (mw_ac rfl (mw_ac rfl mw_an))) rfl rfl hc6 (H.mono (fun o hp7 H => ?_))
    obtain ⟨x8, rfl, H⟩ := H
    obtain ⟨hc9, H⟩ := H
    refine mm_R.cV (pc' := 120) (L' := [some ((.ref a0)), some (.int i1), some (.int i2), some (.int i3), some (.int i4)]) (st1 := [.int x8, .int i4, (.ref a0)]) (as := [.int i4, .int x8]) (rest := []) 0 rfl rfl (mw_sp rfl rfl (Nat.le_of_ble_eq_true rfl) (mw_ac rfl (mw_ac rfl (mw_ac rfl mw_an))) mw_an) rfl rfl hc9 (H.mono (fun o hp10 H => ?_))
    obtain ⟨x11, rfl, H⟩ := H
    exact mm_R.pn (pc' := 52) (L' := [some ((.ref a0)), some (.int i1), some (.int i2), some (.int i3), some (.int x11)]) (st' := []) 2 rfl H
  · replace H := H.2 (Decidable.of_not_not (of_decide_eq_false c))
    obtain ⟨hc12, H⟩ := H
    refine mm_R.cV (pc' := 107) (L' := [some ((.ref a0)), some (.int i1), some (.int i2), some (.int i3), some (.int i4)]) (st1 := [.int (1 : Int32), .int i2, .int x3, .int i4, (.ref a0)]) (as := [.int i4, .int x3, .int i2, .int (1 : Int32)]) (rest := []) 2 rfl rfl (mw_sp rfl rfl (Nat.le_of_ble_eq_true rfl) (mw_ac rfl (mw_ac rfl (mw_ac rfl (mw_ac rfl (mw_ac rfl mw_an))))) mw_an) rfl rfl hc12 (H.mono (fun o hp13 H => ?_))
    obtain ⟨rfl, H⟩ := H
    obtain ⟨hc14, H⟩ := H
    refine mm_R.cV (pc' := 117) (L' := [some ((.ref a0)), some (.int i1), some (.int i2), some (.int i3), some (.int i4)]) (st1 := [.int (141 : Int32), (.ref a0), .int i4, (.ref a0)]) (as := [.int (141 : Int32)]) (rest := [.int i4, (.ref a0)]) 4 rfl rfl (mw_sp rfl rfl (Nat.le_of_ble_eq_true rfl) (mw_ac rfl (mw_ac rfl mw_an)) (mw_ac rfl (mw_ac rfl mw_an))) rfl rfl hc14 (H.mono (fun o hp15 H => ?_))
    obtain ⟨x16, rfl, H⟩ := H
    obtain ⟨hc17, H⟩ := H
    refine mm_R.cV (pc' := 120) (L' := [some ((.ref a0)), some (.int i1), some (.int i2), some (.int i3), some (.int i4)]) (st1 := [.int x16, .int i4, (.ref a0)]) (as := [.int i4, .int x16]) (rest := []) 0 rfl rfl (mw_sp rfl rfl (Nat.le_of_ble_eq_true rfl) (mw_ac rfl (mw_ac rfl (mw_ac rfl mw_an))) mw_an) rfl rfl hc17 (H.mono (fun o hp18 H => ?_))
    obtain ⟨x19, rfl, H⟩ := H
    exact mm_R.pn (pc' := 52) (L' := [some ((.ref a0)), some (.int i1), some (.int i2), some (.int i3), some (.int x19)]) (st' := []) 2 rfl H
