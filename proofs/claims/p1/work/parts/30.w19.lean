-- StepRunnerModel.beginWord, from 0
set_option maxRecDepth 10000 in
theorem w191_0 {X : List Int32} {d : Nat} {a0 : Nat} {i1 : Int32} {hp : mm_H} {Q : Option Value → mm_H → Prop} (H : mw_gv 10 32 (.ref a0) hp (fun v1 => mw_ai 1000 v1 i1 hp (fun x2 => mw_pt 10 39 (.ref a0) (.int (((600 : Int32) + ((192 : Int32) * i1)) + ((24 : Int32) * x2))) hp (fun hp3 => mw_pt 10 40 (.ref a0) (.int (0 : Int32)) hp3 (fun hp4 => mw_gv 10 32 (.ref a0) hp4 (fun v5 => mw_ai 1000 v5 i1 hp4 (fun x6 => (((8 : Int32) ≤ x6 → Q (some (.int (0 : Int32))) hp4) ∧ (¬ (8 : Int32) ≤ x6 → Q (some (.int (1 : Int32))) hp4))))))))) : mm_R X (d + 1) 191 0 (mm_L0 191 [(.ref a0), .int i1]) [] hp Q := by
  show mm_R X (d + 1) 191 0 [some ((.ref a0)), some (.int i1)] [] hp Q
  refine mm_R.wgv (pc' := 13) (L' := [some ((.ref a0)), some (.int i1)]) (r := [.int (24 : Int32), .int ((600 : Int32) + ((192 : Int32) * i1)), (.ref a0)]) 8 rfl rfl (H.mono (fun v1 H => ?_))
  refine mm_R.wai (pc' := 17) (L' := [some ((.ref a0)), some (.int i1)]) (r := [.int (24 : Int32), .int ((600 : Int32) + ((192 : Int32) * i1)), (.ref a0)]) (t := 1000) 1 rfl rfl rfl rfl (H.mono (fun x2 H => ?_))
  refine mm_R.wpt (pc' := 20) (L' := [some ((.ref a0)), some (.int i1)]) (r := []) 2 rfl rfl (H.mono (fun hp3 H => ?_))
  refine mm_R.wpt (pc' := 25) (L' := [some ((.ref a0)), some (.int i1)]) (r := []) 2 rfl rfl (H.mono (fun hp4 H => ?_))
  refine mm_R.wgv (pc' := 29) (L' := [some ((.ref a0)), some (.int i1)]) (r := []) 1 rfl rfl (H.mono (fun v5 H => ?_))
  refine mm_R.wai (pc' := 33) (L' := [some ((.ref a0)), some (.int i1)]) (r := []) (t := 1000) 1 rfl rfl rfl rfl (H.mono (fun x6 H => ?_))
  refine mm_R.br (L' := [some ((.ref a0)), some (.int i1)]) (st' := []) (t := 43) (u := 39) (b := mm_cc .ge x6 (8 : Int32)) 2 rfl (fun c => ?_) (fun c => ?_)
  · replace H := H.1 (of_decide_eq_true c)
    exact mm_R.rt (pc' := 44) (L' := [some ((.ref a0)), some (.int i1)]) (st1 := [.int (0 : Int32)]) 1 rfl rfl rfl rfl rfl rfl H
  · replace H := H.2 (of_decide_eq_false c)
    exact mm_R.rt (pc' := 44) (L' := [some ((.ref a0)), some (.int i1)]) (st1 := [.int (1 : Int32)]) 2 rfl rfl rfl rfl rfl rfl H
-- StepRunnerModel.endWord, from 0
set_option maxRecDepth 10000 in
theorem w192_0 {X : List Int32} {d : Nat} {a0 : Nat} {i1 : Int32} {hp : mm_H} {Q : Option Value → mm_H → Prop} (H : mw_gv 10 33 (.ref a0) hp (fun v1 => mw_gv 10 32 (.ref a0) hp (fun v2 => mw_ai 1000 v2 i1 hp (fun x3 => mw_gi 10 40 (.ref a0) hp (fun x4 => mw_si 1000 .int v1 (((8 : Int32) * i1) + x3) x4 hp (fun hp5 => mw_gv 10 32 (.ref a0) hp5 (fun v6 => mm_isr v6 = true ∧ mw_ai 1000 v6 i1 hp5 (fun x8 => mw_si 1000 .int v6 i1 (x8 + (1 : Int32)) hp5 (fun hp9 => Q none hp9))))))))) : mm_R X (d + 1) 192 0 (mm_L0 192 [(.ref a0), .int i1]) [] hp Q := by
  show mm_R X (d + 1) 192 0 [some ((.ref a0)), some (.int i1)] [] hp Q
  refine mm_R.wgv (pc' := 1) (L' := [some ((.ref a0)), some (.int i1)]) (r := []) 1 rfl rfl (H.mono (fun v1 H => ?_))
  refine mm_R.wgv (pc' := 9) (L' := [some ((.ref a0)), some (.int i1)]) (r := [.int ((8 : Int32) * i1), v1]) 4 rfl rfl (H.mono (fun v2 H => ?_))
  refine mm_R.wai (pc' := 13) (L' := [some ((.ref a0)), some (.int i1)]) (r := [.int ((8 : Int32) * i1), v1]) (t := 1000) 1 rfl rfl rfl rfl (H.mono (fun x3 H => ?_))
  refine mm_R.wgi (pc' := 16) (L' := [some ((.ref a0)), some (.int i1)]) (r := [.int (((8 : Int32) * i1) + x3), v1]) 2 rfl rfl (H.mono (fun x4 H => ?_))
  refine mm_R.wsi (pc' := 19) (L' := [some ((.ref a0)), some (.int i1)]) (r := []) (t := 1000) (ty := .int) 0 rfl rfl rfl rfl (H.mono (fun hp5 H => ?_))
  refine mm_R.wgv (pc' := 21) (L' := [some ((.ref a0)), some (.int i1)]) (r := []) 1 rfl rfl (H.mono (fun v6 H => ?_))
  obtain ⟨hr7, H⟩ := H
  refine mm_R.d2 (pc' := 25) (L' := [some ((.ref a0)), some (.int i1)]) (r := []) (v := v6) (x := i1) 1 rfl rfl hr7 ?_
  refine mm_R.wai (pc' := 26) (L' := [some ((.ref a0)), some (.int i1)]) (r := [.int i1, v6]) (t := 1000) 0 rfl rfl rfl rfl (H.mono (fun x8 H => ?_))
  refine mm_R.wsi (pc' := 29) (L' := [some ((.ref a0)), some (.int i1)]) (r := []) (t := 1000) (ty := .int) 2 rfl rfl rfl rfl (H.mono (fun hp9 H => ?_))
  exact mm_R.rt (pc' := 30) (L' := [some ((.ref a0)), some (.int i1)]) (st1 := []) 0 rfl rfl rfl rfl rfl rfl H
-- StepRunnerModel.isThrough, from 0
set_option maxRecDepth 10000 in
theorem w193_0 {X : List Int32} {d : Nat} {a0 : Nat} {i1 : Int32} {hp : mm_H} {Q : Option Value → mm_H → Prop} (H : mm_R X (d + 1) 193 4 [some ((.ref a0)), some (.int i1), some (.int (1 : Int32)), some (.int (0 : Int32))] [] hp Q) : mm_R X (d + 1) 193 0 (mm_L0 193 [(.ref a0), .int i1]) [] hp Q := by
  show mm_R X (d + 1) 193 0 [some ((.ref a0)), some (.int i1), none, none] [] hp Q
  exact mm_R.pn (pc' := 4) (L' := [some ((.ref a0)), some (.int i1), some (.int (1 : Int32)), some (.int (0 : Int32))]) (st' := []) 4 rfl H
-- StepRunnerModel.isThrough, from 4
set_option maxRecDepth 10000 in
theorem w193_4 {X : List Int32} {d : Nat} {a0 : Nat} {i1 : Int32} {i2 : Int32} {i3 : Int32} {hp : mm_H} {Q : Option Value → mm_H → Prop} (H : mw_gv 10 30 (.ref a0) hp (fun v1 => mw_ai 1000 v1 i1 hp (fun x2 => ((x2 ≤ i3 → mm_fv .boolean (.int i2) = true ∧ Q (some (.int i2)) hp) ∧ (¬ x2 ≤ i3 → ((i2 = (0 : Int32) → mm_R X (d + 1) 193 4 [some ((.ref a0)), some (.int i1), some (.int (0 : Int32)), some (.int (i3 + (1 : Int32)))] [] hp Q) ∧ (¬ i2 = (0 : Int32) → mw_gv 10 31 (.ref a0) hp (fun v3 => mw_ai 1000 v3 (((16 : Int32) * i1) + i3) hp (fun x4 => ((¬ x4 = (3 : Int32) → mm_R X (d + 1) 193 4 [some ((.ref a0)), some (.int i1), some (.int (0 : Int32)), some (.int (i3 + (1 : Int32)))] [] hp Q) ∧ (x4 = (3 : Int32) → mm_R X (d + 1) 193 4 [some ((.ref a0)), some (.int i1), some (.int (1 : Int32)), some (.int (i3 + (1 : Int32)))] [] hp Q))))))))))) : mm_R X (d + 1) 193 4 [some ((.ref a0)), some (.int i1), some (.int i2), some (.int i3)] [] hp Q := by
  refine mm_R.wgv (pc' := 6) (L' := [some ((.ref a0)), some (.int i1), some (.int i2), some (.int i3)]) (r := [.int i3]) 2 rfl rfl (H.mono (fun v1 H => ?_))
  refine mm_R.wai (pc' := 10) (L' := [some ((.ref a0)), some (.int i1), some (.int i2), some (.int i3)]) (r := [.int i3]) (t := 1000) 1 rfl rfl rfl rfl (H.mono (fun x2 H => ?_))
  refine mm_R.br (L' := [some ((.ref a0)), some (.int i1), some (.int i2), some (.int i3)]) (st' := []) (t := 45) (u := 14) (b := mm_cc .ge i3 x2) 1 rfl (fun c => ?_) (fun c => ?_)
  · replace H := H.1 (of_decide_eq_true c)
    exact mm_R.rt (pc' := 46) (L' := [some ((.ref a0)), some (.int i1), some (.int i2), some (.int i3)]) (st1 := [.int i2]) 1 rfl rfl rfl rfl rfl (mw_rvi (ty := .boolean) H.1) H.2
  · replace H := H.2 (of_decide_eq_false c)
    refine mm_R.br (L' := [some ((.ref a0)), some (.int i1), some (.int i2), some (.int i3)]) (st' := []) (t := 37) (u := 18) (b := mm_cc .eq i2 (0 : Int32)) 2 rfl (fun c => ?_) (fun c => ?_)
    · replace H := H.1 (of_decide_eq_true c)
      exact mm_R.pn (pc' := 4) (L' := [some ((.ref a0)), some (.int i1), some (.int (0 : Int32)), some (.int (i3 + (1 : Int32)))]) (st' := []) 4 rfl H
    · replace H := H.2 (of_decide_eq_false c)
      refine mm_R.wgv (pc' := 19) (L' := [some ((.ref a0)), some (.int i1), some (.int i2), some (.int i3)]) (r := []) 1 rfl rfl (H.mono (fun v3 H => ?_))
      refine mm_R.wai (pc' := 28) (L' := [some ((.ref a0)), some (.int i1), some (.int i2), some (.int i3)]) (r := []) (t := 1000) 5 rfl rfl rfl rfl (H.mono (fun x4 H => ?_))
      refine mm_R.br (L' := [some ((.ref a0)), some (.int i1), some (.int i2), some (.int i3)]) (st' := []) (t := 37) (u := 33) (b := mm_cc .ne x4 (3 : Int32)) 2 rfl (fun c => ?_) (fun c => ?_)
      · replace H := H.1 (of_decide_eq_true c)
        exact mm_R.pn (pc' := 4) (L' := [some ((.ref a0)), some (.int i1), some (.int (0 : Int32)), some (.int (i3 + (1 : Int32)))]) (st' := []) 4 rfl H
      · replace H := H.2 (Decidable.of_not_not (of_decide_eq_false c))
        exact mm_R.pn (pc' := 4) (L' := [some ((.ref a0)), some (.int i1), some (.int (1 : Int32)), some (.int (i3 + (1 : Int32)))]) (st' := []) 5 rfl H
-- StepRunnerModel.end, from 0
set_option maxRecDepth 10000 in
theorem w194_0 {X : List Int32} {d : Nat} {a0 : Nat} {i1 : Int32} {hp : mm_H} {Q : Option Value → mm_H → Prop} (H : mw_rc (.ref a0) 174 hp ∧ mm_R X d 174 0 (mm_L0 174 [(.ref a0), .int i1]) [] hp (mw_ri (fun x3 hp2 => mw_rc (.ref a0) 121 hp2 ∧ mm_R X d 121 0 (mm_L0 121 [(.ref a0), .int ((123 : Int32) + i1)]) [] hp2 (mw_r0 (fun hp5 => ((¬ x3 = (0 : Int32) → mw_gv 10 15 (.ref a0) hp5 (fun v6 => mw_ai 1000 v6 i1 hp5 (fun x7 => ((¬ x7 = (2 : Int32) → mw_rc (.ref a0) 122 hp5 ∧ mm_R X d 122 0 (mm_L0 122 [(.ref a0), .int ((123 : Int32) + i1), .int (3 : Int32), .int (0 : Int32), .int (0 : Int32)]) [] hp5 (mw_r0 (fun hp9 => mm_R X (d + 1) 194 74 [some ((.ref a0)), some (.int i1), some (.int ((123 : Int32) + i1)), some (.int x3), some (.int (0 : Int32))] [] hp9 Q))) ∧ (x7 = (2 : Int32) → (((x3 &&& (x3 - (1 : Int32))) = (0 : Int32) → mw_rc (.ref a0) 122 hp5 ∧ mm_R X d 122 0 (mm_L0 122 [(.ref a0), .int ((123 : Int32) + i1), .int (3 : Int32), .int (0 : Int32), .int (0 : Int32)]) [] hp5 (mw_r0 (fun hp11 => mm_R X (d + 1) 194 74 [some ((.ref a0)), some (.int i1), some (.int ((123 : Int32) + i1)), some (.int x3), some (.int (0 : Int32))] [] hp11 Q))) ∧ (¬ (x3 &&& (x3 - (1 : Int32))) = (0 : Int32) → mw_rc (.ref a0) 195 hp5 ∧ mm_R X d 195 0 (mm_L0 195 [(.ref a0), .int i1, .int x3, .int ((123 : Int32) + i1)]) [] hp5 (mw_r0 (fun hp13 => mm_R X (d + 1) 194 100 [some ((.ref a0)), some (.int i1), some (.int ((123 : Int32) + i1)), some (.int x3), none] [] hp13 Q))))))))) ∧ (x3 = (0 : Int32) → mw_rc (.ref a0) 149 hp5 ∧ mm_R X d 149 0 (mm_L0 149 [(.ref a0), .int ((27 : Int32) + ((16 : Int32) * i1)), .int ((123 : Int32) + i1)]) [] hp5 (mw_r0 (fun hp15 => mm_R X (d + 1) 194 100 [some ((.ref a0)), some (.int i1), some (.int ((123 : Int32) + i1)), some (.int x3), none] [] hp15 Q))))))))) : mm_R X (d + 1) 194 0 (mm_L0 194 [(.ref a0), .int i1]) [] hp Q := by
  show mm_R X (d + 1) 194 0 [some ((.ref a0)), some (.int i1), none, none, none] [] hp Q
  obtain ⟨hc1, H⟩ := H
  refine mm_R.cV (pc' := 7) (L' := [some ((.ref a0)), some (.int i1), some (.int ((123 : Int32) + i1)), none, none]) (st1 := [.int i1, (.ref a0)]) (as := [.int i1]) (rest := []) 6 rfl rfl (mw_sp rfl rfl (Nat.le_of_ble_eq_true rfl) (mw_ac rfl (mw_ac rfl mw_an)) mw_an) rfl rfl hc1 (H.mono (fun o hp2 H => ?_))
  obtain ⟨x3, rfl, H⟩ := H
  obtain ⟨hc4, H⟩ := H
  refine mm_R.cV (pc' := 13) (L' := [some ((.ref a0)), some (.int i1), some (.int ((123 : Int32) + i1)), some (.int x3), none]) (st1 := [.int ((123 : Int32) + i1), (.ref a0)]) (as := [.int ((123 : Int32) + i1)]) (rest := []) 3 rfl rfl (mw_sp rfl rfl (Nat.le_of_ble_eq_true rfl) (mw_ac rfl (mw_ac rfl mw_an)) mw_an) rfl rfl hc4 (H.mono (fun o hp5 H => ?_))
  obtain ⟨rfl, H⟩ := H
  refine mm_R.br (L' := [some ((.ref a0)), some (.int i1), some (.int ((123 : Int32) + i1)), some (.int x3), none]) (st' := []) (t := 35) (u := 20) (b := mm_cc .ne x3 (0 : Int32)) 2 rfl (fun c => ?_) (fun c => ?_)
  · replace H := H.1 (of_decide_eq_true c)
    refine mm_R.wgv (pc' := 36) (L' := [some ((.ref a0)), some (.int i1), some (.int ((123 : Int32) + i1)), some (.int x3), none]) (r := []) 1 rfl rfl (H.mono (fun v6 H => ?_))
    refine mm_R.wai (pc' := 40) (L' := [some ((.ref a0)), some (.int i1), some (.int ((123 : Int32) + i1)), some (.int x3), none]) (r := []) (t := 1000) 1 rfl rfl rfl rfl (H.mono (fun x7 H => ?_))
    refine mm_R.br (L' := [some ((.ref a0)), some (.int i1), some (.int ((123 : Int32) + i1)), some (.int x3), none]) (st' := []) (t := 63) (u := 45) (b := mm_cc .ne x7 (2 : Int32)) 2 rfl (fun c => ?_) (fun c => ?_)
    · replace H := H.1 (of_decide_eq_true c)
      obtain ⟨hc8, H⟩ := H
      refine mm_R.cV (pc' := 68) (L' := [some ((.ref a0)), some (.int i1), some (.int ((123 : Int32) + i1)), some (.int x3), none]) (st1 := [.int (0 : Int32), .int (0 : Int32), .int (3 : Int32), .int ((123 : Int32) + i1), (.ref a0)]) (as := [.int ((123 : Int32) + i1), .int (3 : Int32), .int (0 : Int32), .int (0 : Int32)]) (rest := []) 5 rfl rfl (mw_sp rfl rfl (Nat.le_of_ble_eq_true rfl) (mw_ac rfl (mw_ac rfl (mw_ac rfl (mw_ac rfl (mw_ac rfl mw_an))))) mw_an) rfl rfl hc8 (H.mono (fun o hp9 H => ?_))
      obtain ⟨rfl, H⟩ := H
      exact mm_R.pn (pc' := 74) (L' := [some ((.ref a0)), some (.int i1), some (.int ((123 : Int32) + i1)), some (.int x3), some (.int (0 : Int32))]) (st' := []) 2 rfl H
    · replace H := H.2 (Decidable.of_not_not (of_decide_eq_false c))
      refine mm_R.br (L' := [some ((.ref a0)), some (.int i1), some (.int ((123 : Int32) + i1)), some (.int x3), none]) (st' := []) (t := 63) (u := 53) (b := mm_cc .eq (x3 &&& (x3 - (1 : Int32))) (0 : Int32)) 6 rfl (fun c => ?_) (fun c => ?_)
      · replace H := H.1 (of_decide_eq_true c)
        obtain ⟨hc10, H⟩ := H
        refine mm_R.cV (pc' := 68) (L' := [some ((.ref a0)), some (.int i1), some (.int ((123 : Int32) + i1)), some (.int x3), none]) (st1 := [.int (0 : Int32), .int (0 : Int32), .int (3 : Int32), .int ((123 : Int32) + i1), (.ref a0)]) (as := [.int ((123 : Int32) + i1), .int (3 : Int32), .int (0 : Int32), .int (0 : Int32)]) (rest := []) 5 rfl rfl (mw_sp rfl rfl (Nat.le_of_ble_eq_true rfl) (mw_ac rfl (mw_ac rfl (mw_ac rfl (mw_ac rfl (mw_ac rfl mw_an))))) mw_an) rfl rfl hc10 (H.mono (fun o hp11 H => ?_))
        obtain ⟨rfl, H⟩ := H
        exact mm_R.pn (pc' := 74) (L' := [some ((.ref a0)), some (.int i1), some (.int ((123 : Int32) + i1)), some (.int x3), some (.int (0 : Int32))]) (st' := []) 2 rfl H
      · replace H := H.2 (of_decide_eq_false c)
        obtain ⟨hc12, H⟩ := H
        refine mm_R.cV (pc' := 57) (L' := [some ((.ref a0)), some (.int i1), some (.int ((123 : Int32) + i1)), some (.int x3), none]) (st1 := [.int ((123 : Int32) + i1), .int x3, .int i1, (.ref a0)]) (as := [.int i1, .int x3, .int ((123 : Int32) + i1)]) (rest := []) 4 rfl rfl (mw_sp rfl rfl (Nat.le_of_ble_eq_true rfl) (mw_ac rfl (mw_ac rfl (mw_ac rfl (mw_ac rfl mw_an)))) mw_an) rfl rfl hc12 (H.mono (fun o hp13 H => ?_))
        obtain ⟨rfl, H⟩ := H
        exact mm_R.pn (pc' := 100) (L' := [some ((.ref a0)), some (.int i1), some (.int ((123 : Int32) + i1)), some (.int x3), none]) (st' := []) 1 rfl H
  · replace H := H.2 (Decidable.of_not_not (of_decide_eq_false c))
    obtain ⟨hc14, H⟩ := H
    refine mm_R.cV (pc' := 29) (L' := [some ((.ref a0)), some (.int i1), some (.int ((123 : Int32) + i1)), some (.int x3), none]) (st1 := [.int ((123 : Int32) + i1), .int ((27 : Int32) + ((16 : Int32) * i1)), (.ref a0)]) (as := [.int ((27 : Int32) + ((16 : Int32) * i1)), .int ((123 : Int32) + i1)]) (rest := []) 7 rfl rfl (mw_sp rfl rfl (Nat.le_of_ble_eq_true rfl) (mw_ac rfl (mw_ac rfl (mw_ac rfl mw_an))) mw_an) rfl rfl hc14 (H.mono (fun o hp15 H => ?_))
    obtain ⟨rfl, H⟩ := H
    exact mm_R.pn (pc' := 100) (L' := [some ((.ref a0)), some (.int i1), some (.int ((123 : Int32) + i1)), some (.int x3), none]) (st' := []) 1 rfl H
-- StepRunnerModel.end, from 74
set_option maxRecDepth 10000 in
theorem w194_74 {X : List Int32} {d : Nat} {a0 : Nat} {i1 : Int32} {i2 : Int32} {i3 : Int32} {i4 : Int32} {hp : mm_H} {Q : Option Value → mm_H → Prop} (H : mw_gv 10 30 (.ref a0) hp (fun v1 => mw_ai 1000 v1 i1 hp (fun x2 => ((x2 ≤ i4 → mm_R X (d + 1) 194 100 [some ((.ref a0)), some (.int i1), some (.int i2), some (.int i3), some (.int i4)] [] hp Q) ∧ (¬ x2 ≤ i4 → mw_rc (.ref a0) 197 hp ∧ mm_R X d 197 0 (mm_L0 197 [(.ref a0), .int i1, .int i4, .int i2, .int (1 : Int32)]) [] hp (mw_r0 (fun hp4 => mm_R X (d + 1) 194 74 [some ((.ref a0)), some (.int i1), some (.int i2), some (.int i3), some (.int (i4 + (1 : Int32)))] [] hp4 Q))))))) : mm_R X (d + 1) 194 74 [some ((.ref a0)), some (.int i1), some (.int i2), some (.int i3), some (.int i4)] [] hp Q := by
  refine mm_R.wgv (pc' := 77) (L' := [some ((.ref a0)), some (.int i1), some (.int i2), some (.int i3), some (.int i4)]) (r := [.int i4]) 2 rfl rfl (H.mono (fun v1 H => ?_))
  refine mm_R.wai (pc' := 81) (L' := [some ((.ref a0)), some (.int i1), some (.int i2), some (.int i3), some (.int i4)]) (r := [.int i4]) (t := 1000) 1 rfl rfl rfl rfl (H.mono (fun x2 H => ?_))
  refine mm_R.br (L' := [some ((.ref a0)), some (.int i1), some (.int i2), some (.int i3), some (.int i4)]) (st' := []) (t := 100) (u := 85) (b := mm_cc .ge i4 x2) 1 rfl (fun c => ?_) (fun c => ?_)
  · replace H := H.1 (of_decide_eq_true c)
    exact H
  · replace H := H.2 (of_decide_eq_false c)
    obtain ⟨hc3, H⟩ := H
    refine mm_R.cV (pc' := 91) (L' := [some ((.ref a0)), some (.int i1), some (.int i2), some (.int i3), some (.int i4)]) (st1 := [.int (1 : Int32), .int i2, .int i4, .int i1, (.ref a0)]) (as := [.int i1, .int i4, .int i2, .int (1 : Int32)]) (rest := []) 5 rfl rfl (mw_sp rfl rfl (Nat.le_of_ble_eq_true rfl) (mw_ac rfl (mw_ac rfl (mw_ac rfl (mw_ac rfl (mw_ac rfl mw_an))))) mw_an) rfl rfl hc3 (H.mono (fun o hp4 H => ?_))
    obtain ⟨rfl, H⟩ := H
    exact mm_R.pn (pc' := 74) (L' := [some ((.ref a0)), some (.int i1), some (.int i2), some (.int i3), some (.int (i4 + (1 : Int32)))]) (st' := []) 2 rfl H
-- StepRunnerModel.end, from 100
set_option maxRecDepth 10000 in
theorem w194_100 {X : List Int32} {d : Nat} {a0 : Nat} {i1 : Int32} {i2 : Int32} {i3 : Int32} {o4 : Option Value} {hp : mm_H} {Q : Option Value → mm_H → Prop} (H : mw_gv 10 29 (.ref a0) hp (fun v1 => mw_si 1000 .int v1 i1 (2 : Int32) hp (fun hp2 => mw_rc (.ref a0) 142 hp2 ∧ mm_R X d 142 0 (mm_L0 142 [(.ref a0), .int i2]) [] hp2 (mw_ri (fun x5 hp4 => ((¬ x5 = (0 : Int32) → Q none hp4) ∧ (x5 = (0 : Int32) → mw_rc (.ref a0) 173 hp4 ∧ mm_R X d 173 0 (mm_L0 173 [(.ref a0), .int i1]) [] hp4 (mw_r0 (fun hp7 => Q none hp7))))))))) : mm_R X (d + 1) 194 100 [some ((.ref a0)), some (.int i1), some (.int i2), some (.int i3), o4] [] hp Q := by
  refine mm_R.wgv (pc' := 101) (L' := [some ((.ref a0)), some (.int i1), some (.int i2), some (.int i3), o4]) (r := []) 1 rfl rfl (H.mono (fun v1 H => ?_))
  refine mm_R.wsi (pc' := 106) (L' := [some ((.ref a0)), some (.int i1), some (.int i2), some (.int i3), o4]) (r := []) (t := 1000) (ty := .int) 2 rfl rfl rfl rfl (H.mono (fun hp2 H => ?_))
  obtain ⟨hc3, H⟩ := H
  refine mm_R.cV (pc' := 109) (L' := [some ((.ref a0)), some (.int i1), some (.int i2), some (.int i3), o4]) (st1 := [.int i2, (.ref a0)]) (as := [.int i2]) (rest := []) 2 rfl rfl (mw_sp rfl rfl (Nat.le_of_ble_eq_true rfl) (mw_ac rfl (mw_ac rfl mw_an)) mw_an) rfl rfl hc3 (H.mono (fun o hp4 H => ?_))
  obtain ⟨x5, rfl, H⟩ := H
  refine mm_R.br (L' := [some ((.ref a0)), some (.int i1), some (.int i2), some (.int i3), o4]) (st' := []) (t := 120) (u := 115) (b := mm_cc .ne x5 (0 : Int32)) 1 rfl (fun c => ?_) (fun c => ?_)
  · replace H := H.1 (of_decide_eq_true c)
    exact mm_R.rt (pc' := 120) (L' := [some ((.ref a0)), some (.int i1), some (.int i2), some (.int i3), o4]) (st1 := []) 0 rfl rfl rfl rfl rfl rfl H
  · replace H := H.2 (Decidable.of_not_not (of_decide_eq_false c))
    obtain ⟨hc6, H⟩ := H
    refine mm_R.cV (pc' := 117) (L' := [some ((.ref a0)), some (.int i1), some (.int i2), some (.int i3), o4]) (st1 := [.int i1, (.ref a0)]) (as := [.int i1]) (rest := []) 2 rfl rfl (mw_sp rfl rfl (Nat.le_of_ble_eq_true rfl) (mw_ac rfl (mw_ac rfl mw_an)) mw_an) rfl rfl hc6 (H.mono (fun o hp7 H => ?_))
    obtain ⟨rfl, H⟩ := H
    exact mm_R.rt (pc' := 120) (L' := [some ((.ref a0)), some (.int i1), some (.int i2), some (.int i3), o4]) (st1 := []) 0 rfl rfl rfl rfl rfl rfl H
-- StepRunnerModel.nested, from 0
set_option maxRecDepth 10000 in
theorem w195_0 {X : List Int32} {d : Nat} {a0 : Nat} {i1 : Int32} {i2 : Int32} {i3 : Int32} {hp : mm_H} {Q : Option Value → mm_H → Prop} (H : mm_R X (d + 1) 195 12 [some ((.ref a0)), some (.int i1), some (.int i2), some (.int i3), some (.int (0 : Int32)), some (.int (1 : Int32)), some (.int (1 : Int32)), some (.int (0 : Int32)), none] [] hp Q) : mm_R X (d + 1) 195 0 (mm_L0 195 [(.ref a0), .int i1, .int i2, .int i3]) [] hp Q := by
  show mm_R X (d + 1) 195 0 [some ((.ref a0)), some (.int i1), some (.int i2), some (.int i3), none, none, none, none, none] [] hp Q
  exact mm_R.pn (pc' := 12) (L' := [some ((.ref a0)), some (.int i1), some (.int i2), some (.int i3), some (.int (0 : Int32)), some (.int (1 : Int32)), some (.int (1 : Int32)), some (.int (0 : Int32)), none]) (st' := []) 8 rfl H
-- StepRunnerModel.nested, from 12
set_option maxRecDepth 10000 in
theorem w195_12 {X : List Int32} {d : Nat} {a0 : Nat} {i1 : Int32} {i2 : Int32} {i3 : Int32} {i4 : Int32} {i5 : Int32} {i6 : Int32} {i7 : Int32} {o8 : Option Value} {hp : mm_H} {Q : Option Value → mm_H → Prop} (H : (((4 : Int32) ≤ i7 → ((¬ i5 = (0 : Int32) → mm_R X (d + 1) 195 82 [some ((.ref a0)), some (.int i1), some (.int i2), some (.int i3), some (.int i4), some (.int i5), some (.int i6), some (.int i7), o8] [.int (0 : Int32)] hp Q) ∧ (i5 = (0 : Int32) → mm_R X (d + 1) 195 82 [some ((.ref a0)), some (.int i1), some (.int i2), some (.int i3), some (.int i4), some (.int i5), some (.int i6), some (.int i7), o8] [.int (1 : Int32)] hp Q))) ∧ (¬ (4 : Int32) ≤ i7 → ((¬ ((i2 >>> (i7 &&& 31)) &&& (1 : Int32)) = (1 : Int32) → mm_R X (d + 1) 195 12 [some ((.ref a0)), some (.int i1), some (.int i2), some (.int i3), some (.int i4), some (.int i5), some (.int i6), some (.int (i7 + (1 : Int32))), o8] [] hp Q) ∧ (((i2 >>> (i7 &&& 31)) &&& (1 : Int32)) = (1 : Int32) → ((i5 ≤ (0 : Int32) → mm_R X (d + 1) 195 12 [some ((.ref a0)), some (.int i1), some (.int i2), some (.int i3), some (.int i4), some (.int i5), some (.int i6), some (.int (i7 + (1 : Int32))), o8] [] hp Q) ∧ (¬ i5 ≤ (0 : Int32) → mw_gv 10 37 (.ref a0) hp (fun v1 => mw_ai 1000 v1 (((4 : Int32) * i1) + i7) hp (fun x2 => (((i5 * x2) ≤ (0 : Int32) → mm_R X (d + 1) 195 12 [some ((.ref a0)), some (.int i1), some (.int i2), some (.int i3), some (.int (i4 + (1 : Int32))), some (.int (i5 * x2)), some (.int i6), some (.int (i7 + (1 : Int32))), o8] [] hp Q) ∧ (¬ (i5 * x2) ≤ (0 : Int32) → mm_R X (d + 1) 195 12 [some ((.ref a0)), some (.int i1), some (.int i2), some (.int i3), some (.int (i4 + (1 : Int32))), some (.int (i5 * x2)), some (.int (i5 * x2)), some (.int (i7 + (1 : Int32))), o8] [] hp Q))))))))))) : mm_R X (d + 1) 195 12 [some ((.ref a0)), some (.int i1), some (.int i2), some (.int i3), some (.int i4), some (.int i5), some (.int i6), some (.int i7), o8] [] hp Q := by
  refine mm_R.br (L' := [some ((.ref a0)), some (.int i1), some (.int i2), some (.int i3), some (.int i4), some (.int i5), some (.int i6), some (.int i7), o8]) (st' := []) (t := 72) (u := 18) (b := mm_cc .ge i7 (4 : Int32)) 3 rfl (fun c => ?_) (fun c => ?_)
  · replace H := H.1 (of_decide_eq_true c)
    refine mm_R.br (L' := [some ((.ref a0)), some (.int i1), some (.int i2), some (.int i3), some (.int i4), some (.int i5), some (.int i6), some (.int i7), o8]) (st' := []) (t := 81) (u := 77) (b := mm_cc .ne i5 (0 : Int32)) 2 rfl (fun c => ?_) (fun c => ?_)
    · replace H := H.1 (of_decide_eq_true c)
      exact mm_R.pn (pc' := 82) (L' := [some ((.ref a0)), some (.int i1), some (.int i2), some (.int i3), some (.int i4), some (.int i5), some (.int i6), some (.int i7), o8]) (st' := [.int (0 : Int32)]) 1 rfl H
    · replace H := H.2 (Decidable.of_not_not (of_decide_eq_false c))
      exact mm_R.pn (pc' := 82) (L' := [some ((.ref a0)), some (.int i1), some (.int i2), some (.int i3), some (.int i4), some (.int i5), some (.int i6), some (.int i7), o8]) (st' := [.int (1 : Int32)]) 2 rfl H
  · replace H := H.2 (of_decide_eq_false c)
    refine mm_R.br (L' := [some ((.ref a0)), some (.int i1), some (.int i2), some (.int i3), some (.int i4), some (.int i5), some (.int i6), some (.int i7), o8]) (st' := []) (t := 66) (u := 28) (b := mm_cc .ne ((i2 >>> (i7 &&& 31)) &&& (1 : Int32)) (1 : Int32)) 7 rfl (fun c => ?_) (fun c => ?_)
    · replace H := H.1 (of_decide_eq_true c)
      exact mm_R.pn (pc' := 12) (L' := [some ((.ref a0)), some (.int i1), some (.int i2), some (.int i3), some (.int i4), some (.int i5), some (.int i6), some (.int (i7 + (1 : Int32))), o8]) (st' := []) 2 rfl H
    · replace H := H.2 (Decidable.of_not_not (of_decide_eq_false c))
      refine mm_R.br (L' := [some ((.ref a0)), some (.int i1), some (.int i2), some (.int i3), some (.int i4), some (.int i5), some (.int i6), some (.int i7), o8]) (st' := []) (t := 66) (u := 33) (b := mm_cc .le i5 (0 : Int32)) 2 rfl (fun c => ?_) (fun c => ?_)
      · replace H := H.1 (of_decide_eq_true c)
        exact mm_R.pn (pc' := 12) (L' := [some ((.ref a0)), some (.int i1), some (.int i2), some (.int i3), some (.int i4), some (.int i5), some (.int i6), some (.int (i7 + (1 : Int32))), o8]) (st' := []) 2 rfl H
      · replace H := H.2 (of_decide_eq_false c)
        refine mm_R.wgv (pc' := 39) (L' := [some ((.ref a0)), some (.int i1), some (.int i2), some (.int i3), some (.int (i4 + (1 : Int32))), some (.int i5), some (.int i6), some (.int i7), o8]) (r := [.int i5]) 3 rfl rfl (H.mono (fun v1 H => ?_))
        refine mm_R.wai (pc' := 48) (L' := [some ((.ref a0)), some (.int i1), some (.int i2), some (.int i3), some (.int (i4 + (1 : Int32))), some (.int i5), some (.int i6), some (.int i7), o8]) (r := [.int i5]) (t := 1000) 5 rfl rfl rfl rfl (H.mono (fun x2 H => ?_))
        refine mm_R.br (L' := [some ((.ref a0)), some (.int i1), some (.int i2), some (.int i3), some (.int (i4 + (1 : Int32))), some (.int (i5 * x2)), some (.int i6), some (.int i7), o8]) (st' := []) (t := 62) (u := 57) (b := mm_cc .le (i5 * x2) (0 : Int32)) 4 rfl (fun c => ?_) (fun c => ?_)
        · replace H := H.1 (of_decide_eq_true c)
          exact mm_R.pn (pc' := 12) (L' := [some ((.ref a0)), some (.int i1), some (.int i2), some (.int i3), some (.int (i4 + (1 : Int32))), some (.int (i5 * x2)), some (.int i6), some (.int (i7 + (1 : Int32))), o8]) (st' := []) 4 rfl H
        · replace H := H.2 (of_decide_eq_false c)
          exact mm_R.pn (pc' := 12) (L' := [some ((.ref a0)), some (.int i1), some (.int i2), some (.int i3), some (.int (i4 + (1 : Int32))), some (.int (i5 * x2)), some (.int (i5 * x2)), some (.int (i7 + (1 : Int32))), o8]) (st' := []) 5 rfl H
-- StepRunnerModel.nested, from 82
set_option maxRecDepth 10000 in
theorem w195_82 {X : List Int32} {d : Nat} {a0 : Nat} {i1 : Int32} {i2 : Int32} {i3 : Int32} {i4 : Int32} {i5 : Int32} {i6 : Int32} {i7 : Int32} {o8 : Option Value} {s0 : Int32} {hp : mm_H} {Q : Option Value → mm_H → Prop} (H : ((i4 ≤ (3 : Int32) → mm_R X (d + 1) 195 101 [some ((.ref a0)), some (.int i1), some (.int i2), some (.int i3), some (.int i4), some (.int i5), some (.int i6), some (.int s0), some (.int (0 : Int32))] [] hp Q) ∧ (¬ i4 ≤ (3 : Int32) → mw_rc (.ref a0) 122 hp ∧ mm_R X d 122 0 (mm_L0 122 [(.ref a0), .int i3, .int (3 : Int32), .int (3 : Int32), .int (0 : Int32)]) [] hp (mw_r0 (fun hp2 => mm_R X (d + 1) 195 101 [some ((.ref a0)), some (.int i1), some (.int i2), some (.int i3), some (.int i4), some (.int i5), some (.int i6), some (.int s0), some (.int (0 : Int32))] [] hp2 Q))))) : mm_R X (d + 1) 195 82 [some ((.ref a0)), some (.int i1), some (.int i2), some (.int i3), some (.int i4), some (.int i5), some (.int i6), some (.int i7), o8] [.int s0] hp Q := by
  refine mm_R.br (L' := [some ((.ref a0)), some (.int i1), some (.int i2), some (.int i3), some (.int i4), some (.int i5), some (.int i6), some (.int s0), o8]) (st' := []) (t := 98) (u := 90) (b := mm_cc .le i4 (3 : Int32)) 4 rfl (fun c => ?_) (fun c => ?_)
  · replace H := H.1 (of_decide_eq_true c)
    exact mm_R.pn (pc' := 101) (L' := [some ((.ref a0)), some (.int i1), some (.int i2), some (.int i3), some (.int i4), some (.int i5), some (.int i6), some (.int s0), some (.int (0 : Int32))]) (st' := []) 2 rfl H
  · replace H := H.2 (of_decide_eq_false c)
    obtain ⟨hc1, H⟩ := H
    refine mm_R.cV (pc' := 95) (L' := [some ((.ref a0)), some (.int i1), some (.int i2), some (.int i3), some (.int i4), some (.int i5), some (.int i6), some (.int s0), o8]) (st1 := [.int (0 : Int32), .int (3 : Int32), .int (3 : Int32), .int i3, (.ref a0)]) (as := [.int i3, .int (3 : Int32), .int (3 : Int32), .int (0 : Int32)]) (rest := []) 5 rfl rfl (mw_sp rfl rfl (Nat.le_of_ble_eq_true rfl) (mw_ac rfl (mw_ac rfl (mw_ac rfl (mw_ac rfl (mw_ac rfl mw_an))))) mw_an) rfl rfl hc1 (H.mono (fun o hp2 H => ?_))
    obtain ⟨rfl, H⟩ := H
    exact mm_R.pn (pc' := 101) (L' := [some ((.ref a0)), some (.int i1), some (.int i2), some (.int i3), some (.int i4), some (.int i5), some (.int i6), some (.int s0), some (.int (0 : Int32))]) (st' := []) 2 rfl H
-- StepRunnerModel.nested, from 101
set_option maxRecDepth 10000 in
theorem w195_101 {X : List Int32} {d : Nat} {a0 : Nat} {i1 : Int32} {i2 : Int32} {i3 : Int32} {i4 : Int32} {i5 : Int32} {i6 : Int32} {i7 : Int32} {i8 : Int32} {hp : mm_H} {Q : Option Value → mm_H → Prop} (H : ((i6 ≤ i8 → Q none hp) ∧ (¬ i6 ≤ i8 → (((3 : Int32) < i4 → Q none hp) ∧ (¬ (3 : Int32) < i4 → ((i7 = (0 : Int32) → mm_R X (d + 1) 195 134 [some ((.ref a0)), some (.int i1), some (.int i2), some (.int i3), some (.int i4), some (.int i5), some (.int i6), some (.int i7), some (.int i8)] [.int i4, .int i8, .int i3, .int i2, .int i1, (.ref a0)] hp Q) ∧ (¬ i7 = (0 : Int32) → mm_R X (d + 1) 195 134 [some ((.ref a0)), some (.int i1), some (.int i2), some (.int i3), some (.int i4), some (.int i5), some (.int i6), some (.int i7), some (.int i8)] [.int (i4 - (1 : Int32)), .int i8, .int i3, .int i2, .int i1, (.ref a0)] hp Q))))))) : mm_R X (d + 1) 195 101 [some ((.ref a0)), some (.int i1), some (.int i2), some (.int i3), some (.int i4), some (.int i5), some (.int i6), some (.int i7), some (.int i8)] [] hp Q := by
  refine mm_R.br (L' := [some ((.ref a0)), some (.int i1), some (.int i2), some (.int i3), some (.int i4), some (.int i5), some (.int i6), some (.int i7), some (.int i8)]) (st' := []) (t := 160) (u := 108) (b := mm_cc .ge i8 i6) 3 rfl (fun c => ?_) (fun c => ?_)
  · replace H := H.1 (of_decide_eq_true c)
    exact mm_R.rt (pc' := 160) (L' := [some ((.ref a0)), some (.int i1), some (.int i2), some (.int i3), some (.int i4), some (.int i5), some (.int i6), some (.int i7), some (.int i8)]) (st1 := []) 0 rfl rfl rfl rfl rfl rfl H
  · replace H := H.2 (of_decide_eq_false c)
    refine mm_R.br (L' := [some ((.ref a0)), some (.int i1), some (.int i2), some (.int i3), some (.int i4), some (.int i5), some (.int i6), some (.int i7), some (.int i8)]) (st' := []) (t := 160) (u := 114) (b := mm_cc .gt i4 (3 : Int32)) 3 rfl (fun c => ?_) (fun c => ?_)
    · replace H := H.1 (of_decide_eq_true c)
      exact mm_R.rt (pc' := 160) (L' := [some ((.ref a0)), some (.int i1), some (.int i2), some (.int i3), some (.int i4), some (.int i5), some (.int i6), some (.int i7), some (.int i8)]) (st1 := []) 0 rfl rfl rfl rfl rfl rfl H
    · replace H := H.2 (of_decide_eq_false c)
      refine mm_R.br (L' := [some ((.ref a0)), some (.int i1), some (.int i2), some (.int i3), some (.int i4), some (.int i5), some (.int i6), some (.int i7), some (.int i8)]) (st' := [.int i8, .int i3, .int i2, .int i1, (.ref a0)]) (t := 132) (u := 125) (b := mm_cc .eq i7 (0 : Int32)) 7 rfl (fun c => ?_) (fun c => ?_)
      · replace H := H.1 (of_decide_eq_true c)
        exact mm_R.pn (pc' := 134) (L' := [some ((.ref a0)), some (.int i1), some (.int i2), some (.int i3), some (.int i4), some (.int i5), some (.int i6), some (.int i7), some (.int i8)]) (st' := [.int i4, .int i8, .int i3, .int i2, .int i1, (.ref a0)]) 1 rfl H
      · replace H := H.2 (of_decide_eq_false c)
        exact mm_R.pn (pc' := 134) (L' := [some ((.ref a0)), some (.int i1), some (.int i2), some (.int i3), some (.int i4), some (.int i5), some (.int i6), some (.int i7), some (.int i8)]) (st' := [.int (i4 - (1 : Int32)), .int i8, .int i3, .int i2, .int i1, (.ref a0)]) 4 rfl H
-- StepRunnerModel.nested, from 134
set_option maxRecDepth 10000 in
theorem w195_134 {X : List Int32} {d : Nat} {a0 : Nat} {i1 : Int32} {i2 : Int32} {i3 : Int32} {i4 : Int32} {i5 : Int32} {i6 : Int32} {i7 : Int32} {i8 : Int32} {s0 : Int32} {s1 : Int32} {s2 : Int32} {s3 : Int32} {s4 : Int32} {hp : mm_H} {Q : Option Value → mm_H → Prop} (H : mw_rc (.ref a0) 196 hp ∧ mm_R X d 196 0 (mm_L0 196 [(.ref a0), .int s4, .int s3, .int s2, .int s1, .int s0, .int i4]) [] hp (mw_r0 (fun hp2 => ((¬ i7 = (0 : Int32) → mm_R X (d + 1) 195 101 [some ((.ref a0)), some (.int i1), some (.int i2), some (.int i3), some (.int i4), some (.int i5), some (.int i6), some (.int i7), some (.int (i8 + (1 : Int32)))] [] hp2 Q) ∧ (i7 = (0 : Int32) → mw_rc (.ref a0) 197 hp2 ∧ mm_R X d 197 0 (mm_L0 197 [(.ref a0), .int i1, .int i8, .int i3, .int i4]) [] hp2 (mw_r0 (fun hp4 => mm_R X (d + 1) 195 101 [some ((.ref a0)), some (.int i1), some (.int i2), some (.int i3), some (.int i4), some (.int i5), some (.int i6), some (.int i7), some (.int (i8 + (1 : Int32)))] [] hp4 Q))))))) : mm_R X (d + 1) 195 134 [some ((.ref a0)), some (.int i1), some (.int i2), some (.int i3), some (.int i4), some (.int i5), some (.int i6), some (.int i7), some (.int i8)] [.int s0, .int s1, .int s2, .int s3, .int s4, (.ref a0)] hp Q := by
  obtain ⟨hc1, H⟩ := H
  refine mm_R.cV (pc' := 136) (L' := [some ((.ref a0)), some (.int i1), some (.int i2), some (.int i3), some (.int i4), some (.int i5), some (.int i6), some (.int i7), some (.int i8)]) (st1 := [.int i4, .int s0, .int s1, .int s2, .int s3, .int s4, (.ref a0)]) (as := [.int s4, .int s3, .int s2, .int s1, .int s0, .int i4]) (rest := []) 1 rfl rfl (mw_sp rfl rfl (Nat.le_of_ble_eq_true rfl) (mw_ac rfl (mw_ac rfl (mw_ac rfl (mw_ac rfl (mw_ac rfl (mw_ac rfl (mw_ac rfl mw_an))))))) mw_an) rfl rfl hc1 (H.mono (fun o hp2 H => ?_))
  obtain ⟨rfl, H⟩ := H
  refine mm_R.br (L' := [some ((.ref a0)), some (.int i1), some (.int i2), some (.int i3), some (.int i4), some (.int i5), some (.int i6), some (.int i7), some (.int i8)]) (st' := []) (t := 154) (u := 144) (b := mm_cc .ne i7 (0 : Int32)) 2 rfl (fun c => ?_) (fun c => ?_)
  · replace H := H.1 (of_decide_eq_true c)
    exact mm_R.pn (pc' := 101) (L' := [some ((.ref a0)), some (.int i1), some (.int i2), some (.int i3), some (.int i4), some (.int i5), some (.int i6), some (.int i7), some (.int (i8 + (1 : Int32)))]) (st' := []) 2 rfl H
  · replace H := H.2 (Decidable.of_not_not (of_decide_eq_false c))
    obtain ⟨hc3, H⟩ := H
    refine mm_R.cV (pc' := 151) (L' := [some ((.ref a0)), some (.int i1), some (.int i2), some (.int i3), some (.int i4), some (.int i5), some (.int i6), some (.int i7), some (.int i8)]) (st1 := [.int i4, .int i3, .int i8, .int i1, (.ref a0)]) (as := [.int i1, .int i8, .int i3, .int i4]) (rest := []) 5 rfl rfl (mw_sp rfl rfl (Nat.le_of_ble_eq_true rfl) (mw_ac rfl (mw_ac rfl (mw_ac rfl (mw_ac rfl (mw_ac rfl mw_an))))) mw_an) rfl rfl hc3 (H.mono (fun o hp4 H => ?_))
    obtain ⟨rfl, H⟩ := H
    exact mm_R.pn (pc' := 101) (L' := [some ((.ref a0)), some (.int i1), some (.int i2), some (.int i3), some (.int i4), some (.int i5), some (.int i6), some (.int i7), some (.int (i8 + (1 : Int32)))]) (st' := []) 2 rfl H
-- StepRunnerModel.heads, from 0
set_option maxRecDepth 10000 in
theorem w196_0 {X : List Int32} {d : Nat} {a0 : Nat} {i1 : Int32} {i2 : Int32} {i3 : Int32} {i4 : Int32} {i5 : Int32} {i6 : Int32} {hp : mm_H} {Q : Option Value → mm_H → Prop} (H : mm_R X (d + 1) 196 3 [some ((.ref a0)), some (.int i1), some (.int i2), some (.int i3), some (.int i4), some (.int i5), some (.int i6), some (.int (0 : Int32)), none, none, none] [] hp Q) : mm_R X (d + 1) 196 0 (mm_L0 196 [(.ref a0), .int i1, .int i2, .int i3, .int i4, .int i5, .int i6]) [] hp Q := by
  show mm_R X (d + 1) 196 0 [some ((.ref a0)), some (.int i1), some (.int i2), some (.int i3), some (.int i4), some (.int i5), some (.int i6), none, none, none, none] [] hp Q
  exact mm_R.pn (pc' := 3) (L' := [some ((.ref a0)), some (.int i1), some (.int i2), some (.int i3), some (.int i4), some (.int i5), some (.int i6), some (.int (0 : Int32)), none, none, none]) (st' := []) 2 rfl H
-- StepRunnerModel.heads, from 3
set_option maxRecDepth 10000 in
theorem w196_3 {X : List Int32} {d : Nat} {a0 : Nat} {i1 : Int32} {i2 : Int32} {i3 : Int32} {i4 : Int32} {i5 : Int32} {i6 : Int32} {i7 : Int32} {o8 : Option Value} {o9 : Option Value} {o10 : Option Value} {hp : mm_H} {Q : Option Value → mm_H → Prop} (H : ((i6 ≤ i7 → Q none hp) ∧ (¬ i6 ≤ i7 → mm_R X (d + 1) 196 19 [some ((.ref a0)), some (.int i1), some (.int i2), some (.int i3), some (.int i4), some (.int i5), some (.int i6), some (.int i7), some (.int (1 : Int32)), some (.int (0 : Int32)), some (.int (0 : Int32))] [] hp Q))) : mm_R X (d + 1) 196 3 [some ((.ref a0)), some (.int i1), some (.int i2), some (.int i3), some (.int i4), some (.int i5), some (.int i6), some (.int i7), o8, o9, o10] [] hp Q := by
  refine mm_R.br (L' := [some ((.ref a0)), some (.int i1), some (.int i2), some (.int i3), some (.int i4), some (.int i5), some (.int i6), some (.int i7), o8, o9, o10]) (st' := []) (t := 102) (u := 10) (b := mm_cc .ge i7 i6) 3 rfl (fun c => ?_) (fun c => ?_)
  · replace H := H.1 (of_decide_eq_true c)
    exact mm_R.rt (pc' := 102) (L' := [some ((.ref a0)), some (.int i1), some (.int i2), some (.int i3), some (.int i4), some (.int i5), some (.int i6), some (.int i7), o8, o9, o10]) (st1 := []) 0 rfl rfl rfl rfl rfl rfl H
  · replace H := H.2 (of_decide_eq_false c)
    exact mm_R.pn (pc' := 19) (L' := [some ((.ref a0)), some (.int i1), some (.int i2), some (.int i3), some (.int i4), some (.int i5), some (.int i6), some (.int i7), some (.int (1 : Int32)), some (.int (0 : Int32)), some (.int (0 : Int32))]) (st' := []) 6 rfl H
-- StepRunnerModel.heads, from 19
set_option maxRecDepth 10000 in
theorem w196_19 {X : List Int32} {d : Nat} {a0 : Nat} {i1 : Int32} {i2 : Int32} {i3 : Int32} {i4 : Int32} {i5 : Int32} {i6 : Int32} {i7 : Int32} {i8 : Int32} {i9 : Int32} {i10 : Int32} {hp : mm_H} {Q : Option Value → mm_H → Prop} (H : (((4 : Int32) ≤ i10 → ¬ i8 = (0 : Int32) ∧ (((¬ (i4 - i4 / i8 * i8) = (0 : Int32) → mm_R X (d + 1) 196 3 [some ((.ref a0)), some (.int i1), some (.int i2), some (.int i3), some (.int i4), some (.int i5), some (.int i6), some (.int (i7 + (1 : Int32))), some (.int i8), some (.int i9), some (.int i10)] [] hp Q) ∧ ((i4 - i4 / i8 * i8) = (0 : Int32) → mw_rc (.ref a0) 122 hp ∧ mm_R X d 122 0 (mm_L0 122 [(.ref a0), .int i3, .int (3 : Int32), .int i7, .int (0 : Int32)]) [] hp (mw_r0 (fun hp2 => mm_R X (d + 1) 196 3 [some ((.ref a0)), some (.int i1), some (.int i2), some (.int i3), some (.int i4), some (.int i5), some (.int i6), some (.int (i7 + (1 : Int32))), some (.int i8), some (.int i9), some (.int i10)] [] hp2 Q)))))) ∧ (¬ (4 : Int32) ≤ i10 → ((¬ ((i2 >>> (i10 &&& 31)) &&& (1 : Int32)) = (1 : Int32) → mm_R X (d + 1) 196 19 [some ((.ref a0)), some (.int i1), some (.int i2), some (.int i3), some (.int i4), some (.int i5), some (.int i6), some (.int i7), some (.int i8), some (.int i9), some (.int (i10 + (1 : Int32)))] [] hp Q) ∧ (((i2 >>> (i10 &&& 31)) &&& (1 : Int32)) = (1 : Int32) → ((i9 < i7 → mm_R X (d + 1) 196 19 [some ((.ref a0)), some (.int i1), some (.int i2), some (.int i3), some (.int i4), some (.int i5), some (.int i6), some (.int i7), some (.int i8), some (.int (i9 + (1 : Int32))), some (.int (i10 + (1 : Int32)))] [] hp Q) ∧ (¬ i9 < i7 → ((i5 ≤ i9 → mm_R X (d + 1) 196 19 [some ((.ref a0)), some (.int i1), some (.int i2), some (.int i3), some (.int i4), some (.int i5), some (.int i6), some (.int i7), some (.int i8), some (.int (i9 + (1 : Int32))), some (.int (i10 + (1 : Int32)))] [] hp Q) ∧ (¬ i5 ≤ i9 → mw_gv 10 37 (.ref a0) hp (fun v4 => mw_ai 1000 v4 (((4 : Int32) * i1) + i10) hp (fun x5 => mm_R X (d + 1) 196 19 [some ((.ref a0)), some (.int i1), some (.int i2), some (.int i3), some (.int i4), some (.int i5), some (.int i6), some (.int i7), some (.int (i8 * x5)), some (.int (i9 + (1 : Int32))), some (.int (i10 + (1 : Int32)))] [] hp Q))))))))))) : mm_R X (d + 1) 196 19 [some ((.ref a0)), some (.int i1), some (.int i2), some (.int i3), some (.int i4), some (.int i5), some (.int i6), some (.int i7), some (.int i8), some (.int i9), some (.int i10)] [] hp Q := by
  refine mm_R.br (L' := [some ((.ref a0)), some (.int i1), some (.int i2), some (.int i3), some (.int i4), some (.int i5), some (.int i6), some (.int i7), some (.int i8), some (.int i9), some (.int i10)]) (st' := []) (t := 79) (u := 25) (b := mm_cc .ge i10 (4 : Int32)) 3 rfl (fun c => ?_) (fun c => ?_)
  · replace H := H.1 (of_decide_eq_true c)
    obtain ⟨hz3, H⟩ := H
    refine mm_R.dv (pc' := 83) (L' := [some ((.ref a0)), some (.int i1), some (.int i2), some (.int i3), some (.int i4), some (.int i5), some (.int i6), some (.int i7), some (.int i8), some (.int i9), some (.int i10)]) (r := []) (x := i4) (y := i8) (f := fun x y => x - x / y * y) 2 rfl rfl rfl hz3 ?_
    refine mm_R.br (L' := [some ((.ref a0)), some (.int i1), some (.int i2), some (.int i3), some (.int i4), some (.int i5), some (.int i6), some (.int i7), some (.int i8), some (.int i9), some (.int i10)]) (st' := []) (t := 96) (u := 87) (b := mm_cc .ne (i4 - i4 / i8 * i8) (0 : Int32)) 1 rfl (fun c => ?_) (fun c => ?_)
    · replace H := H.1 (of_decide_eq_true c)
      exact mm_R.pn (pc' := 3) (L' := [some ((.ref a0)), some (.int i1), some (.int i2), some (.int i3), some (.int i4), some (.int i5), some (.int i6), some (.int (i7 + (1 : Int32))), some (.int i8), some (.int i9), some (.int i10)]) (st' := []) 2 rfl H
    · replace H := H.2 (Decidable.of_not_not (of_decide_eq_false c))
      obtain ⟨hc1, H⟩ := H
      refine mm_R.cV (pc' := 93) (L' := [some ((.ref a0)), some (.int i1), some (.int i2), some (.int i3), some (.int i4), some (.int i5), some (.int i6), some (.int i7), some (.int i8), some (.int i9), some (.int i10)]) (st1 := [.int (0 : Int32), .int i7, .int (3 : Int32), .int i3, (.ref a0)]) (as := [.int i3, .int (3 : Int32), .int i7, .int (0 : Int32)]) (rest := []) 5 rfl rfl (mw_sp rfl rfl (Nat.le_of_ble_eq_true rfl) (mw_ac rfl (mw_ac rfl (mw_ac rfl (mw_ac rfl (mw_ac rfl mw_an))))) mw_an) rfl rfl hc1 (H.mono (fun o hp2 H => ?_))
      obtain ⟨rfl, H⟩ := H
      exact mm_R.pn (pc' := 3) (L' := [some ((.ref a0)), some (.int i1), some (.int i2), some (.int i3), some (.int i4), some (.int i5), some (.int i6), some (.int (i7 + (1 : Int32))), some (.int i8), some (.int i9), some (.int i10)]) (st' := []) 2 rfl H
  · replace H := H.2 (of_decide_eq_false c)
    refine mm_R.br (L' := [some ((.ref a0)), some (.int i1), some (.int i2), some (.int i3), some (.int i4), some (.int i5), some (.int i6), some (.int i7), some (.int i8), some (.int i9), some (.int i10)]) (st' := []) (t := 73) (u := 35) (b := mm_cc .ne ((i2 >>> (i10 &&& 31)) &&& (1 : Int32)) (1 : Int32)) 7 rfl (fun c => ?_) (fun c => ?_)
    · replace H := H.1 (of_decide_eq_true c)
      exact mm_R.pn (pc' := 19) (L' := [some ((.ref a0)), some (.int i1), some (.int i2), some (.int i3), some (.int i4), some (.int i5), some (.int i6), some (.int i7), some (.int i8), some (.int i9), some (.int (i10 + (1 : Int32)))]) (st' := []) 2 rfl H
    · replace H := H.2 (Decidable.of_not_not (of_decide_eq_false c))
      refine mm_R.br (L' := [some ((.ref a0)), some (.int i1), some (.int i2), some (.int i3), some (.int i4), some (.int i5), some (.int i6), some (.int i7), some (.int i8), some (.int i9), some (.int i10)]) (st' := []) (t := 66) (u := 42) (b := mm_cc .lt i9 i7) 3 rfl (fun c => ?_) (fun c => ?_)
      · replace H := H.1 (of_decide_eq_true c)
        exact mm_R.pn (pc' := 19) (L' := [some ((.ref a0)), some (.int i1), some (.int i2), some (.int i3), some (.int i4), some (.int i5), some (.int i6), some (.int i7), some (.int i8), some (.int (i9 + (1 : Int32))), some (.int (i10 + (1 : Int32)))]) (st' := []) 5 rfl H
      · replace H := H.2 (of_decide_eq_false c)
        refine mm_R.br (L' := [some ((.ref a0)), some (.int i1), some (.int i2), some (.int i3), some (.int i4), some (.int i5), some (.int i6), some (.int i7), some (.int i8), some (.int i9), some (.int i10)]) (st' := []) (t := 66) (u := 49) (b := mm_cc .ge i9 i5) 3 rfl (fun c => ?_) (fun c => ?_)
        · replace H := H.1 (of_decide_eq_true c)
          exact mm_R.pn (pc' := 19) (L' := [some ((.ref a0)), some (.int i1), some (.int i2), some (.int i3), some (.int i4), some (.int i5), some (.int i6), some (.int i7), some (.int i8), some (.int (i9 + (1 : Int32))), some (.int (i10 + (1 : Int32)))]) (st' := []) 5 rfl H
        · replace H := H.2 (of_decide_eq_false c)
          refine mm_R.wgv (pc' := 52) (L' := [some ((.ref a0)), some (.int i1), some (.int i2), some (.int i3), some (.int i4), some (.int i5), some (.int i6), some (.int i7), some (.int i8), some (.int i9), some (.int i10)]) (r := [.int i8]) 2 rfl rfl (H.mono (fun v4 H => ?_))
          refine mm_R.wai (pc' := 61) (L' := [some ((.ref a0)), some (.int i1), some (.int i2), some (.int i3), some (.int i4), some (.int i5), some (.int i6), some (.int i7), some (.int i8), some (.int i9), some (.int i10)]) (r := [.int i8]) (t := 1000) 5 rfl rfl rfl rfl (H.mono (fun x5 H => ?_))
          exact mm_R.pn (pc' := 19) (L' := [some ((.ref a0)), some (.int i1), some (.int i2), some (.int i3), some (.int i4), some (.int i5), some (.int i6), some (.int i7), some (.int (i8 * x5)), some (.int (i9 + (1 : Int32))), some (.int (i10 + (1 : Int32)))]) (st' := []) 6 rfl H
-- StepRunnerModel.result, from 0
set_option maxRecDepth 10000 in
theorem w197_0 {X : List Int32} {d : Nat} {a0 : Nat} {i1 : Int32} {i2 : Int32} {i3 : Int32} {i4 : Int32} {hp : mm_H} {Q : Option Value → mm_H → Prop} (H : mm_R X d 123 0 (mm_L0 123 [.int (((27 : Int32) + ((16 : Int32) * i1)) + i2)]) [] hp (mw_ri (fun x2 hp1 => mw_rc (.ref a0) 143 hp1 ∧ mm_R X d 143 0 (mm_L0 143 [(.ref a0), .int (((27 : Int32) + ((16 : Int32) * i1)) + i2)]) [] hp1 (mw_ri (fun x5 hp4 => mw_rc (.ref a0) 150 hp4 ∧ mm_R X d 150 0 (mm_L0 150 [(.ref a0), .int x2, .int x5, .int i3, .int i4]) [] hp4 (mw_r0 (fun hp7 => Q none hp7))))))) : mm_R X (d + 1) 197 0 (mm_L0 197 [(.ref a0), .int i1, .int i2, .int i3, .int i4]) [] hp Q := by
  show mm_R X (d + 1) 197 0 [some ((.ref a0)), some (.int i1), some (.int i2), some (.int i3), some (.int i4), none] [] hp Q
  refine mm_R.cS (pc' := 14) (L' := [some ((.ref a0)), some (.int i1), some (.int i2), some (.int i3), some (.int i4), some (.int (((27 : Int32) + ((16 : Int32) * i1)) + i2))]) (st1 := [.int (((27 : Int32) + ((16 : Int32) * i1)) + i2), (.ref a0)]) (as := [.int (((27 : Int32) + ((16 : Int32) * i1)) + i2)]) (rest := [(.ref a0)]) 10 rfl rfl (mw_sp rfl rfl (Nat.le_of_ble_eq_true rfl) (mw_ac rfl mw_an) (mw_ac rfl mw_an)) rfl rfl (H.mono (fun o hp1 H => ?_))
  obtain ⟨x2, rfl, H⟩ := H
  obtain ⟨hc3, H⟩ := H
  refine mm_R.cV (pc' := 20) (L' := [some ((.ref a0)), some (.int i1), some (.int i2), some (.int i3), some (.int i4), some (.int (((27 : Int32) + ((16 : Int32) * i1)) + i2))]) (st1 := [.int (((27 : Int32) + ((16 : Int32) * i1)) + i2), (.ref a0), .int x2, (.ref a0)]) (as := [.int (((27 : Int32) + ((16 : Int32) * i1)) + i2)]) (rest := [.int x2, (.ref a0)]) 2 rfl rfl (mw_sp rfl rfl (Nat.le_of_ble_eq_true rfl) (mw_ac rfl (mw_ac rfl mw_an)) (mw_ac rfl (mw_ac rfl mw_an))) rfl rfl hc3 (H.mono (fun o hp4 H => ?_))
  obtain ⟨x5, rfl, H⟩ := H
  obtain ⟨hc6, H⟩ := H
  refine mm_R.cV (pc' := 26) (L' := [some ((.ref a0)), some (.int i1), some (.int i2), some (.int i3), some (.int i4), some (.int (((27 : Int32) + ((16 : Int32) * i1)) + i2))]) (st1 := [.int i4, .int i3, .int x5, .int x2, (.ref a0)]) (as := [.int x2, .int x5, .int i3, .int i4]) (rest := []) 2 rfl rfl (mw_sp rfl rfl (Nat.le_of_ble_eq_true rfl) (mw_ac rfl (mw_ac rfl (mw_ac rfl (mw_ac rfl (mw_ac rfl mw_an))))) mw_an) rfl rfl hc6 (H.mono (fun o hp7 H => ?_))
  obtain ⟨rfl, H⟩ := H
  exact mm_R.rt (pc' := 29) (L' := [some ((.ref a0)), some (.int i1), some (.int i2), some (.int i3), some (.int i4), some (.int (((27 : Int32) + ((16 : Int32) * i1)) + i2))]) (st1 := []) 0 rfl rfl rfl rfl rfl rfl H
-- StepRunnerModel.finish, from 0
set_option maxRecDepth 10000 in
theorem w198_0 {X : List Int32} {d : Nat} {a0 : Nat} {i1 : Int32} {hp : mm_H} {Q : Option Value → mm_H → Prop} (H : ((i1 < (0 : Int32) → Q (some (.int (0 : Int32))) hp) ∧ (¬ i1 < (0 : Int32) → mw_gi 10 27 (.ref a0) hp (fun x1 => ((i1 < x1 → mw_gv 10 34 (.ref a0) hp (fun v2 => mw_ai 1000 v2 i1 hp (fun x3 => mw_gi 10 27 (.ref a0) hp (fun x4 => mw_pt 10 27 (.ref a0) (.int (x4 - (1 : Int32))) hp (fun hp5 => mm_R X (d + 1) 198 33 [some ((.ref a0)), some (.int i1), some (.int x3), some (.int i1), none] [] hp5 Q))))) ∧ (¬ i1 < x1 → Q (some (.int (0 : Int32))) hp)))))) : mm_R X (d + 1) 198 0 (mm_L0 198 [(.ref a0), .int i1]) [] hp Q := by
  show mm_R X (d + 1) 198 0 [some ((.ref a0)), some (.int i1), none, none, none] [] hp Q
  refine mm_R.br (L' := [some ((.ref a0)), some (.int i1), none, none, none]) (st' := []) (t := 12) (u := 4) (b := mm_cc .lt i1 (0 : Int32)) 2 rfl (fun c => ?_) (fun c => ?_)
  · replace H := H.1 (of_decide_eq_true c)
    exact mm_R.rt (pc' := 13) (L' := [some ((.ref a0)), some (.int i1), none, none, none]) (st1 := [.int (0 : Int32)]) 1 rfl rfl rfl rfl rfl rfl H
  · replace H := H.2 (of_decide_eq_false c)
    refine mm_R.wgi (pc' := 6) (L' := [some ((.ref a0)), some (.int i1), none, none, none]) (r := [.int i1]) 2 rfl rfl (H.mono (fun x1 H => ?_))
    refine mm_R.br (L' := [some ((.ref a0)), some (.int i1), none, none, none]) (st' := []) (t := 14) (u := 12) (b := mm_cc .lt i1 x1) 1 rfl (fun c => ?_) (fun c => ?_)
    · replace H := H.1 (of_decide_eq_true c)
      refine mm_R.wgv (pc' := 15) (L' := [some ((.ref a0)), some (.int i1), none, none, none]) (r := []) 1 rfl rfl (H.mono (fun v2 H => ?_))
      refine mm_R.wai (pc' := 19) (L' := [some ((.ref a0)), some (.int i1), none, none, none]) (r := []) (t := 1000) 1 rfl rfl rfl rfl (H.mono (fun x3 H => ?_))
      refine mm_R.wgi (pc' := 23) (L' := [some ((.ref a0)), some (.int i1), some (.int x3), none, none]) (r := [(.ref a0)]) 3 rfl rfl (H.mono (fun x4 H => ?_))
      refine mm_R.wpt (pc' := 28) (L' := [some ((.ref a0)), some (.int i1), some (.int x3), none, none]) (r := []) 2 rfl rfl (H.mono (fun hp5 H => ?_))
      exact mm_R.pn (pc' := 33) (L' := [some ((.ref a0)), some (.int i1), some (.int x3), some (.int i1), none]) (st' := []) 2 rfl H
    · replace H := H.2 (of_decide_eq_false c)
      exact mm_R.rt (pc' := 13) (L' := [some ((.ref a0)), some (.int i1), none, none, none]) (st1 := [.int (0 : Int32)]) 1 rfl rfl rfl rfl rfl rfl H
-- StepRunnerModel.finish, from 33
set_option maxRecDepth 10000 in
theorem w198_33 {X : List Int32} {d : Nat} {a0 : Nat} {i1 : Int32} {i2 : Int32} {i3 : Int32} {o4 : Option Value} {hp : mm_H} {Q : Option Value → mm_H → Prop} (H : mw_gi 10 27 (.ref a0) hp (fun x1 => ((x1 ≤ i3 → mw_gv 10 31 (.ref a0) hp (fun v2 => mw_si 1000 .int v2 i2 (3 : Int32) hp (fun hp3 => mw_rc (.ref a0) 199 hp3 ∧ mm_R X d 199 0 (mm_L0 199 [(.ref a0), .int (i2 / (16 : Int32)), .int i2]) [] hp3 (mw_ri (fun x6 hp5 => ((¬ x6 = (0 : Int32) → mw_gv 10 29 (.ref a0) hp5 (fun v7 => mw_ai 1000 v7 (i2 / (16 : Int32)) hp5 (fun x8 => ((¬ x8 = (1 : Int32) → mw_rc (.ref a0) 166 hp5 ∧ mm_R X d 166 0 (mm_L0 166 [(.ref a0)]) [] hp5 (mw_r0 (fun hp10 => Q (some (.int (1 : Int32))) hp10))) ∧ (x8 = (1 : Int32) → mw_rc (.ref a0) 193 hp5 ∧ mm_R X d 193 0 (mm_L0 193 [(.ref a0), .int (i2 / (16 : Int32))]) [] hp5 (mw_ri (fun x13 hp12 => ((x13 = (0 : Int32) → mw_rc (.ref a0) 166 hp12 ∧ mm_R X d 166 0 (mm_L0 166 [(.ref a0)]) [] hp12 (mw_r0 (fun hp15 => Q (some (.int (1 : Int32))) hp15))) ∧ (¬ x13 = (0 : Int32) → mw_rc (.ref a0) 194 hp12 ∧ mm_R X d 194 0 (mm_L0 194 [(.ref a0), .int (i2 / (16 : Int32))]) [] hp12 (mw_r0 (fun hp17 => mw_rc (.ref a0) 166 hp17 ∧ mm_R X d 166 0 (mm_L0 166 [(.ref a0)]) [] hp17 (mw_r0 (fun hp19 => Q (some (.int (1 : Int32))) hp19))))))))))))) ∧ (x6 = (0 : Int32) → mw_rc (.ref a0) 173 hp5 ∧ mm_R X d 173 0 (mm_L0 173 [(.ref a0), .int (i2 / (16 : Int32))]) [] hp5 (mw_r0 (fun hp21 => mw_rc (.ref a0) 166 hp21 ∧ mm_R X d 166 0 (mm_L0 166 [(.ref a0)]) [] hp21 (mw_r0 (fun hp23 => Q (some (.int (1 : Int32))) hp23))))))))))) ∧ (¬ x1 ≤ i3 → mw_gv 10 34 (.ref a0) hp (fun v24 => mw_gv 10 34 (.ref a0) hp (fun v25 => mw_ai 1000 v25 (i3 + (1 : Int32)) hp (fun x26 => mw_si 1000 .int v24 i3 x26 hp (fun hp27 => mm_R X (d + 1) 198 33 [some ((.ref a0)), some (.int i1), some (.int i2), some (.int (i3 + (1 : Int32))), o4] [] hp27 Q)))))))) : mm_R X (d + 1) 198 33 [some ((.ref a0)), some (.int i1), some (.int i2), some (.int i3), o4] [] hp Q := by
  refine mm_R.wgi (pc' := 35) (L' := [some ((.ref a0)), some (.int i1), some (.int i2), some (.int i3), o4]) (r := [.int i3]) 2 rfl rfl (H.mono (fun x1 H => ?_))
  refine mm_R.br (L' := [some ((.ref a0)), some (.int i1), some (.int i2), some (.int i3), o4]) (st' := []) (t := 61) (u := 41) (b := mm_cc .ge i3 x1) 1 rfl (fun c => ?_) (fun c => ?_)
  · replace H := H.1 (of_decide_eq_true c)
    refine mm_R.wgv (pc' := 67) (L' := [some ((.ref a0)), some (.int i1), some (.int i2), some (.int (i2 / (16 : Int32))), o4]) (r := []) 5 rfl rfl (H.mono (fun v2 H => ?_))
    refine mm_R.wsi (pc' := 72) (L' := [some ((.ref a0)), some (.int i1), some (.int i2), some (.int (i2 / (16 : Int32))), o4]) (r := []) (t := 1000) (ty := .int) 2 rfl rfl rfl rfl (H.mono (fun hp3 H => ?_))
    obtain ⟨hc4, H⟩ := H
    refine mm_R.cV (pc' := 76) (L' := [some ((.ref a0)), some (.int i1), some (.int i2), some (.int (i2 / (16 : Int32))), o4]) (st1 := [.int i2, .int (i2 / (16 : Int32)), (.ref a0)]) (as := [.int (i2 / (16 : Int32)), .int i2]) (rest := []) 3 rfl rfl (mw_sp rfl rfl (Nat.le_of_ble_eq_true rfl) (mw_ac rfl (mw_ac rfl (mw_ac rfl mw_an))) mw_an) rfl rfl hc4 (H.mono (fun o hp5 H => ?_))
    obtain ⟨x6, rfl, H⟩ := H
    refine mm_R.br (L' := [some ((.ref a0)), some (.int i1), some (.int i2), some (.int (i2 / (16 : Int32))), some (.int x6)]) (st' := []) (t := 94) (u := 86) (b := mm_cc .ne x6 (0 : Int32)) 3 rfl (fun c => ?_) (fun c => ?_)
    · replace H := H.1 (of_decide_eq_true c)
      refine mm_R.wgv (pc' := 95) (L' := [some ((.ref a0)), some (.int i1), some (.int i2), some (.int (i2 / (16 : Int32))), some (.int x6)]) (r := []) 1 rfl rfl (H.mono (fun v7 H => ?_))
      refine mm_R.wai (pc' := 99) (L' := [some ((.ref a0)), some (.int i1), some (.int i2), some (.int (i2 / (16 : Int32))), some (.int x6)]) (r := []) (t := 1000) 1 rfl rfl rfl rfl (H.mono (fun x8 H => ?_))
      refine mm_R.br (L' := [some ((.ref a0)), some (.int i1), some (.int i2), some (.int (i2 / (16 : Int32))), some (.int x6)]) (st' := []) (t := 117) (u := 104) (b := mm_cc .ne x8 (1 : Int32)) 2 rfl (fun c => ?_) (fun c => ?_)
      · replace H := H.1 (of_decide_eq_true c)
        obtain ⟨hc9, H⟩ := H
        refine mm_R.cV (pc' := 118) (L' := [some ((.ref a0)), some (.int i1), some (.int i2), some (.int (i2 / (16 : Int32))), some (.int x6)]) (st1 := [(.ref a0)]) (as := []) (rest := []) 1 rfl rfl (mw_sp rfl rfl (Nat.le_of_ble_eq_true rfl) (mw_ac rfl mw_an) mw_an) rfl rfl hc9 (H.mono (fun o hp10 H => ?_))
        obtain ⟨rfl, H⟩ := H
        exact mm_R.rt (pc' := 122) (L' := [some ((.ref a0)), some (.int i1), some (.int i2), some (.int (i2 / (16 : Int32))), some (.int x6)]) (st1 := [.int (1 : Int32)]) 1 rfl rfl rfl rfl rfl rfl H
      · replace H := H.2 (Decidable.of_not_not (of_decide_eq_false c))
        obtain ⟨hc11, H⟩ := H
        refine mm_R.cV (pc' := 106) (L' := [some ((.ref a0)), some (.int i1), some (.int i2), some (.int (i2 / (16 : Int32))), some (.int x6)]) (st1 := [.int (i2 / (16 : Int32)), (.ref a0)]) (as := [.int (i2 / (16 : Int32))]) (rest := []) 2 rfl rfl (mw_sp rfl rfl (Nat.le_of_ble_eq_true rfl) (mw_ac rfl (mw_ac rfl mw_an)) mw_an) rfl rfl hc11 (H.mono (fun o hp12 H => ?_))
        obtain ⟨x13, rfl, H⟩ := H
        refine mm_R.br (L' := [some ((.ref a0)), some (.int i1), some (.int i2), some (.int (i2 / (16 : Int32))), some (.int x6)]) (st' := []) (t := 117) (u := 112) (b := mm_cc .eq x13 (0 : Int32)) 1 rfl (fun c => ?_) (fun c => ?_)
        · replace H := H.1 (of_decide_eq_true c)
          obtain ⟨hc14, H⟩ := H
          refine mm_R.cV (pc' := 118) (L' := [some ((.ref a0)), some (.int i1), some (.int i2), some (.int (i2 / (16 : Int32))), some (.int x6)]) (st1 := [(.ref a0)]) (as := []) (rest := []) 1 rfl rfl (mw_sp rfl rfl (Nat.le_of_ble_eq_true rfl) (mw_ac rfl mw_an) mw_an) rfl rfl hc14 (H.mono (fun o hp15 H => ?_))
          obtain ⟨rfl, H⟩ := H
          exact mm_R.rt (pc' := 122) (L' := [some ((.ref a0)), some (.int i1), some (.int i2), some (.int (i2 / (16 : Int32))), some (.int x6)]) (st1 := [.int (1 : Int32)]) 1 rfl rfl rfl rfl rfl rfl H
        · replace H := H.2 (of_decide_eq_false c)
          obtain ⟨hc16, H⟩ := H
          refine mm_R.cV (pc' := 114) (L' := [some ((.ref a0)), some (.int i1), some (.int i2), some (.int (i2 / (16 : Int32))), some (.int x6)]) (st1 := [.int (i2 / (16 : Int32)), (.ref a0)]) (as := [.int (i2 / (16 : Int32))]) (rest := []) 2 rfl rfl (mw_sp rfl rfl (Nat.le_of_ble_eq_true rfl) (mw_ac rfl (mw_ac rfl mw_an)) mw_an) rfl rfl hc16 (H.mono (fun o hp17 H => ?_))
          obtain ⟨rfl, H⟩ := H
          obtain ⟨hc18, H⟩ := H
          refine mm_R.cV (pc' := 118) (L' := [some ((.ref a0)), some (.int i1), some (.int i2), some (.int (i2 / (16 : Int32))), some (.int x6)]) (st1 := [(.ref a0)]) (as := []) (rest := []) 1 rfl rfl (mw_sp rfl rfl (Nat.le_of_ble_eq_true rfl) (mw_ac rfl mw_an) mw_an) rfl rfl hc18 (H.mono (fun o hp19 H => ?_))
          obtain ⟨rfl, H⟩ := H
          exact mm_R.rt (pc' := 122) (L' := [some ((.ref a0)), some (.int i1), some (.int i2), some (.int (i2 / (16 : Int32))), some (.int x6)]) (st1 := [.int (1 : Int32)]) 1 rfl rfl rfl rfl rfl rfl H
    · replace H := H.2 (Decidable.of_not_not (of_decide_eq_false c))
      obtain ⟨hc20, H⟩ := H
      refine mm_R.cV (pc' := 88) (L' := [some ((.ref a0)), some (.int i1), some (.int i2), some (.int (i2 / (16 : Int32))), some (.int x6)]) (st1 := [.int (i2 / (16 : Int32)), (.ref a0)]) (as := [.int (i2 / (16 : Int32))]) (rest := []) 2 rfl rfl (mw_sp rfl rfl (Nat.le_of_ble_eq_true rfl) (mw_ac rfl (mw_ac rfl mw_an)) mw_an) rfl rfl hc20 (H.mono (fun o hp21 H => ?_))
      obtain ⟨rfl, H⟩ := H
      obtain ⟨hc22, H⟩ := H
      refine mm_R.cV (pc' := 118) (L' := [some ((.ref a0)), some (.int i1), some (.int i2), some (.int (i2 / (16 : Int32))), some (.int x6)]) (st1 := [(.ref a0)]) (as := []) (rest := []) 2 rfl rfl (mw_sp rfl rfl (Nat.le_of_ble_eq_true rfl) (mw_ac rfl mw_an) mw_an) rfl rfl hc22 (H.mono (fun o hp23 H => ?_))
      obtain ⟨rfl, H⟩ := H
      exact mm_R.rt (pc' := 122) (L' := [some ((.ref a0)), some (.int i1), some (.int i2), some (.int (i2 / (16 : Int32))), some (.int x6)]) (st1 := [.int (1 : Int32)]) 1 rfl rfl rfl rfl rfl rfl H
  · replace H := H.2 (of_decide_eq_false c)
    refine mm_R.wgv (pc' := 42) (L' := [some ((.ref a0)), some (.int i1), some (.int i2), some (.int i3), o4]) (r := []) 1 rfl rfl (H.mono (fun v24 H => ?_))
    refine mm_R.wgv (pc' := 47) (L' := [some ((.ref a0)), some (.int i1), some (.int i2), some (.int i3), o4]) (r := [.int i3, v24]) 2 rfl rfl (H.mono (fun v25 H => ?_))
    refine mm_R.wai (pc' := 53) (L' := [some ((.ref a0)), some (.int i1), some (.int i2), some (.int i3), o4]) (r := [.int i3, v24]) (t := 1000) 3 rfl rfl rfl rfl (H.mono (fun x26 H => ?_))
    refine mm_R.wsi (pc' := 54) (L' := [some ((.ref a0)), some (.int i1), some (.int i2), some (.int i3), o4]) (r := []) (t := 1000) (ty := .int) 0 rfl rfl rfl rfl (H.mono (fun hp27 H => ?_))
    exact mm_R.pn (pc' := 33) (L' := [some ((.ref a0)), some (.int i1), some (.int i2), some (.int (i3 + (1 : Int32))), o4]) (st' := []) 2 rfl H
-- StepRunnerModel.resulted, from 0
set_option maxRecDepth 10000 in
theorem w199_0 {X : List Int32} {d : Nat} {a0 : Nat} {i1 : Int32} {i2 : Int32} {hp : mm_H} {Q : Option Value → mm_H → Prop} (H : mw_gv 10 32 (.ref a0) hp (fun v1 => mw_ai 1000 v1 i2 hp (fun x2 => mw_gv 10 7 (.ref a0) hp (fun v3 => mw_gv 10 13 (.ref a0) hp (fun v4 => mw_ai 1000 v4 i1 hp (fun x5 => mw_ai 1000 v3 x5 hp (fun x6 => mw_rc (.ref a0) 121 hp ∧ mm_R X d 121 0 (mm_L0 121 [(.ref a0), .int ((27 : Int32) + i2)]) [] hp (mw_r0 (fun hp8 => ((¬ x6 = (0 : Int32) → ((¬ x6 = (1 : Int32) → mm_R X (d + 1) 199 58 [some ((.ref a0)), some (.int i1), some (.int i2), some (.int ((27 : Int32) + i2)), some (.int x2), some (.int x6), none, none] [] hp8 Q) ∧ (x6 = (1 : Int32) → mw_rc (.ref a0) 122 hp8 ∧ mm_R X d 122 0 (mm_L0 122 [(.ref a0), .int ((27 : Int32) + i2), .int (1 : Int32), .int (0 : Int32), .int x2]) [] hp8 (mw_r0 (fun hp10 => mm_R X (d + 1) 199 58 [some ((.ref a0)), some (.int i1), some (.int i2), some (.int ((27 : Int32) + i2)), some (.int x2), some (.int x6), none, none] [] hp10 Q))))) ∧ (x6 = (0 : Int32) → mw_rc (.ref a0) 200 hp8 ∧ mm_R X d 200 0 (mm_L0 200 [(.ref a0), .int i2, .int ((27 : Int32) + i2)]) [] hp8 (mw_ri (fun x13 hp12 => mm_fv .boolean (.int x13) = true ∧ Q (some (.int x13)) hp12))))))))))))) : mm_R X (d + 1) 199 0 (mm_L0 199 [(.ref a0), .int i1, .int i2]) [] hp Q := by
  show mm_R X (d + 1) 199 0 [some ((.ref a0)), some (.int i1), some (.int i2), none, none, none, none, none] [] hp Q
  refine mm_R.wgv (pc' := 6) (L' := [some ((.ref a0)), some (.int i1), some (.int i2), some (.int ((27 : Int32) + i2)), none, none, none, none]) (r := []) 5 rfl rfl (H.mono (fun v1 H => ?_))
  refine mm_R.wai (pc' := 10) (L' := [some ((.ref a0)), some (.int i1), some (.int i2), some (.int ((27 : Int32) + i2)), none, none, none, none]) (r := []) (t := 1000) 1 rfl rfl rfl rfl (H.mono (fun x2 H => ?_))
  refine mm_R.wgv (pc' := 14) (L' := [some ((.ref a0)), some (.int i1), some (.int i2), some (.int ((27 : Int32) + i2)), some (.int x2), none, none, none]) (r := []) 2 rfl rfl (H.mono (fun v3 H => ?_))
  refine mm_R.wgv (pc' := 18) (L' := [some ((.ref a0)), some (.int i1), some (.int i2), some (.int ((27 : Int32) + i2)), some (.int x2), none, none, none]) (r := [v3]) 1 rfl rfl (H.mono (fun v4 H => ?_))
  refine mm_R.wai (pc' := 22) (L' := [some ((.ref a0)), some (.int i1), some (.int i2), some (.int ((27 : Int32) + i2)), some (.int x2), none, none, none]) (r := [v3]) (t := 1000) 1 rfl rfl rfl rfl (H.mono (fun x5 H => ?_))
  refine mm_R.wai (pc' := 23) (L' := [some ((.ref a0)), some (.int i1), some (.int i2), some (.int ((27 : Int32) + i2)), some (.int x2), none, none, none]) (r := []) (t := 1000) 0 rfl rfl rfl rfl (H.mono (fun x6 H => ?_))
  obtain ⟨hc7, H⟩ := H
  refine mm_R.cV (pc' := 28) (L' := [some ((.ref a0)), some (.int i1), some (.int i2), some (.int ((27 : Int32) + i2)), some (.int x2), some (.int x6), none, none]) (st1 := [.int ((27 : Int32) + i2), (.ref a0)]) (as := [.int ((27 : Int32) + i2)]) (rest := []) 3 rfl rfl (mw_sp rfl rfl (Nat.le_of_ble_eq_true rfl) (mw_ac rfl (mw_ac rfl mw_an)) mw_an) rfl rfl hc7 (H.mono (fun o hp8 H => ?_))
  obtain ⟨rfl, H⟩ := H
  refine mm_R.br (L' := [some ((.ref a0)), some (.int i1), some (.int i2), some (.int ((27 : Int32) + i2)), some (.int x2), some (.int x6), none, none]) (st' := []) (t := 43) (u := 36) (b := mm_cc .ne x6 (0 : Int32)) 2 rfl (fun c => ?_) (fun c => ?_)
  · replace H := H.1 (of_decide_eq_true c)
    refine mm_R.br (L' := [some ((.ref a0)), some (.int i1), some (.int i2), some (.int ((27 : Int32) + i2)), some (.int x2), some (.int x6), none, none]) (st' := []) (t := 58) (u := 49) (b := mm_cc .ne x6 (1 : Int32)) 3 rfl (fun c => ?_) (fun c => ?_)
    · replace H := H.1 (of_decide_eq_true c)
      exact H
    · replace H := H.2 (Decidable.of_not_not (of_decide_eq_false c))
      obtain ⟨hc9, H⟩ := H
      refine mm_R.cV (pc' := 55) (L' := [some ((.ref a0)), some (.int i1), some (.int i2), some (.int ((27 : Int32) + i2)), some (.int x2), some (.int x6), none, none]) (st1 := [.int x2, .int (0 : Int32), .int (1 : Int32), .int ((27 : Int32) + i2), (.ref a0)]) (as := [.int ((27 : Int32) + i2), .int (1 : Int32), .int (0 : Int32), .int x2]) (rest := []) 5 rfl rfl (mw_sp rfl rfl (Nat.le_of_ble_eq_true rfl) (mw_ac rfl (mw_ac rfl (mw_ac rfl (mw_ac rfl (mw_ac rfl mw_an))))) mw_an) rfl rfl hc9 (H.mono (fun o hp10 H => ?_))
      obtain ⟨rfl, H⟩ := H
      exact H
  · replace H := H.2 (Decidable.of_not_not (of_decide_eq_false c))
    obtain ⟨hc11, H⟩ := H
    refine mm_R.cV (pc' := 39) (L' := [some ((.ref a0)), some (.int i1), some (.int i2), some (.int ((27 : Int32) + i2)), some (.int x2), some (.int x6), none, none]) (st1 := [.int ((27 : Int32) + i2), .int i2, (.ref a0)]) (as := [.int i2, .int ((27 : Int32) + i2)]) (rest := []) 3 rfl rfl (mw_sp rfl rfl (Nat.le_of_ble_eq_true rfl) (mw_ac rfl (mw_ac rfl (mw_ac rfl mw_an))) mw_an) rfl rfl hc11 (H.mono (fun o hp12 H => ?_))
    obtain ⟨x13, rfl, H⟩ := H
    exact mm_R.rt (pc' := 42) (L' := [some ((.ref a0)), some (.int i1), some (.int i2), some (.int ((27 : Int32) + i2)), some (.int x2), some (.int x6), none, none]) (st1 := [.int x13]) 0 rfl rfl rfl rfl rfl (mw_rvi (ty := .boolean) H.1) H.2
-- StepRunnerModel.resulted, from 58
set_option maxRecDepth 10000 in
theorem w199_58 {X : List Int32} {d : Nat} {a0 : Nat} {i1 : Int32} {i2 : Int32} {i3 : Int32} {i4 : Int32} {i5 : Int32} {o6 : Option Value} {o7 : Option Value} {hp : mm_H} {Q : Option Value → mm_H → Prop} (H : ((¬ i5 = (2 : Int32) → ((¬ i5 = (3 : Int32) → Q (some (.int (1 : Int32))) hp) ∧ (i5 = (3 : Int32) → mw_rc (.ref a0) 122 hp ∧ mm_R X d 122 0 (mm_L0 122 [(.ref a0), .int i3, .int (3 : Int32), .int (0 : Int32), .int (0 : Int32)]) [] hp (mw_r0 (fun hp2 => mm_R X (d + 1) 199 88 [some ((.ref a0)), some (.int i1), some (.int i2), some (.int i3), some (.int i4), some (.int i5), some (.int (0 : Int32)), o7] [] hp2 Q))))) ∧ (i5 = (2 : Int32) → mw_rc (.ref a0) 201 hp ∧ mm_R X d 201 0 (mm_L0 201 [(.ref a0), .int i2, .int i3]) [] hp (mw_ri (fun x5 hp4 => mm_fv .boolean (.int x5) = true ∧ Q (some (.int x5)) hp4))))) : mm_R X (d + 1) 199 58 [some ((.ref a0)), some (.int i1), some (.int i2), some (.int i3), some (.int i4), some (.int i5), o6, o7] [] hp Q := by
  refine mm_R.br (L' := [some ((.ref a0)), some (.int i1), some (.int i2), some (.int i3), some (.int i4), some (.int i5), o6, o7]) (st' := []) (t := 71) (u := 64) (b := mm_cc .ne i5 (2 : Int32)) 3 rfl (fun c => ?_) (fun c => ?_)
  · replace H := H.1 (of_decide_eq_true c)
    refine mm_R.br (L' := [some ((.ref a0)), some (.int i1), some (.int i2), some (.int i3), some (.int i4), some (.int i5), o6, o7]) (st' := []) (t := 161) (u := 77) (b := mm_cc .ne i5 (3 : Int32)) 3 rfl (fun c => ?_) (fun c => ?_)
    · replace H := H.1 (of_decide_eq_true c)
      exact mm_R.rt (pc' := 162) (L' := [some ((.ref a0)), some (.int i1), some (.int i2), some (.int i3), some (.int i4), some (.int i5), o6, o7]) (st1 := [.int (1 : Int32)]) 1 rfl rfl rfl rfl rfl rfl H
    · replace H := H.2 (Decidable.of_not_not (of_decide_eq_false c))
      obtain ⟨hc1, H⟩ := H
      refine mm_R.cV (pc' := 82) (L' := [some ((.ref a0)), some (.int i1), some (.int i2), some (.int i3), some (.int i4), some (.int i5), o6, o7]) (st1 := [.int (0 : Int32), .int (0 : Int32), .int (3 : Int32), .int i3, (.ref a0)]) (as := [.int i3, .int (3 : Int32), .int (0 : Int32), .int (0 : Int32)]) (rest := []) 5 rfl rfl (mw_sp rfl rfl (Nat.le_of_ble_eq_true rfl) (mw_ac rfl (mw_ac rfl (mw_ac rfl (mw_ac rfl (mw_ac rfl mw_an))))) mw_an) rfl rfl hc1 (H.mono (fun o hp2 H => ?_))
      obtain ⟨rfl, H⟩ := H
      exact mm_R.pn (pc' := 88) (L' := [some ((.ref a0)), some (.int i1), some (.int i2), some (.int i3), some (.int i4), some (.int i5), some (.int (0 : Int32)), o7]) (st' := []) 2 rfl H
  · replace H := H.2 (Decidable.of_not_not (of_decide_eq_false c))
    obtain ⟨hc3, H⟩ := H
    refine mm_R.cV (pc' := 67) (L' := [some ((.ref a0)), some (.int i1), some (.int i2), some (.int i3), some (.int i4), some (.int i5), o6, o7]) (st1 := [.int i3, .int i2, (.ref a0)]) (as := [.int i2, .int i3]) (rest := []) 3 rfl rfl (mw_sp rfl rfl (Nat.le_of_ble_eq_true rfl) (mw_ac rfl (mw_ac rfl (mw_ac rfl mw_an))) mw_an) rfl rfl hc3 (H.mono (fun o hp4 H => ?_))
    obtain ⟨x5, rfl, H⟩ := H
    exact mm_R.rt (pc' := 70) (L' := [some ((.ref a0)), some (.int i1), some (.int i2), some (.int i3), some (.int i4), some (.int i5), o6, o7]) (st1 := [.int x5]) 0 rfl rfl rfl rfl rfl (mw_rvi (ty := .boolean) H.1) H.2
-- StepRunnerModel.resulted, from 88
set_option maxRecDepth 10000 in
theorem w199_88 {X : List Int32} {d : Nat} {a0 : Nat} {i1 : Int32} {i2 : Int32} {i3 : Int32} {i4 : Int32} {i5 : Int32} {i6 : Int32} {o7 : Option Value} {hp : mm_H} {Q : Option Value → mm_H → Prop} (H : ((i4 ≤ i6 → Q (some (.int (1 : Int32))) hp) ∧ (¬ i4 ≤ i6 → mw_gv 10 33 (.ref a0) hp (fun v1 => mw_ai 1000 v1 (((8 : Int32) * i2) + i6) hp (fun x2 => mw_rc (.ref a0) 188 hp ∧ mm_R X d 188 0 (mm_L0 188 [(.ref a0), .int (((600 : Int32) + ((192 : Int32) * i2)) + ((24 : Int32) * i6)), .int x2]) [] hp (mw_ri (fun x5 hp4 => ((¬ x5 = (0 : Int32) → mw_gv 10 33 (.ref a0) hp4 (fun v6 => mw_ai 1000 v6 (((8 : Int32) * i2) + i6) hp4 (fun x7 => mw_rc (.ref a0) 139 hp4 ∧ mm_R X d 139 0 (mm_L0 139 [(.ref a0), .int i3, .int (1 : Int32), .int (((600 : Int32) + ((192 : Int32) * i2)) + ((24 : Int32) * i6)), .int x7]) [] hp4 (mw_r0 (fun hp9 => mm_R X (d + 1) 199 88 [some ((.ref a0)), some (.int i1), some (.int i2), some (.int i3), some (.int i4), some (.int i5), some (.int (i6 + (1 : Int32))), some (.int (((600 : Int32) + ((192 : Int32) * i2)) + ((24 : Int32) * i6)))] [] hp9 Q))))) ∧ (x5 = (0 : Int32) → Q (some (.int (0 : Int32))) hp4))))))))) : mm_R X (d + 1) 199 88 [some ((.ref a0)), some (.int i1), some (.int i2), some (.int i3), some (.int i4), some (.int i5), some (.int i6), o7] [] hp Q := by
  refine mm_R.br (L' := [some ((.ref a0)), some (.int i1), some (.int i2), some (.int i3), some (.int i4), some (.int i5), some (.int i6), o7]) (st' := []) (t := 161) (u := 95) (b := mm_cc .ge i6 i4) 3 rfl (fun c => ?_) (fun c => ?_)
  · replace H := H.1 (of_decide_eq_true c)
    exact mm_R.rt (pc' := 162) (L' := [some ((.ref a0)), some (.int i1), some (.int i2), some (.int i3), some (.int i4), some (.int i5), some (.int i6), o7]) (st1 := [.int (1 : Int32)]) 1 rfl rfl rfl rfl rfl rfl H
  · replace H := H.2 (of_decide_eq_false c)
    refine mm_R.wgv (pc' := 116) (L' := [some ((.ref a0)), some (.int i1), some (.int i2), some (.int i3), some (.int i4), some (.int i5), some (.int i6), some (.int (((600 : Int32) + ((192 : Int32) * i2)) + ((24 : Int32) * i6)))]) (r := [.int (((600 : Int32) + ((192 : Int32) * i2)) + ((24 : Int32) * i6)), (.ref a0)]) 13 rfl rfl (H.mono (fun v1 H => ?_))
    refine mm_R.wai (pc' := 126) (L' := [some ((.ref a0)), some (.int i1), some (.int i2), some (.int i3), some (.int i4), some (.int i5), some (.int i6), some (.int (((600 : Int32) + ((192 : Int32) * i2)) + ((24 : Int32) * i6)))]) (r := [.int (((600 : Int32) + ((192 : Int32) * i2)) + ((24 : Int32) * i6)), (.ref a0)]) (t := 1000) 5 rfl rfl rfl rfl (H.mono (fun x2 H => ?_))
    obtain ⟨hc3, H⟩ := H
    refine mm_R.cV (pc' := 127) (L' := [some ((.ref a0)), some (.int i1), some (.int i2), some (.int i3), some (.int i4), some (.int i5), some (.int i6), some (.int (((600 : Int32) + ((192 : Int32) * i2)) + ((24 : Int32) * i6)))]) (st1 := [.int x2, .int (((600 : Int32) + ((192 : Int32) * i2)) + ((24 : Int32) * i6)), (.ref a0)]) (as := [.int (((600 : Int32) + ((192 : Int32) * i2)) + ((24 : Int32) * i6)), .int x2]) (rest := []) 0 rfl rfl (mw_sp rfl rfl (Nat.le_of_ble_eq_true rfl) (mw_ac rfl (mw_ac rfl (mw_ac rfl mw_an))) mw_an) rfl rfl hc3 (H.mono (fun o hp4 H => ?_))
    obtain ⟨x5, rfl, H⟩ := H
    refine mm_R.br (L' := [some ((.ref a0)), some (.int i1), some (.int i2), some (.int i3), some (.int i4), some (.int i5), some (.int i6), some (.int (((600 : Int32) + ((192 : Int32) * i2)) + ((24 : Int32) * i6)))]) (st' := []) (t := 135) (u := 133) (b := mm_cc .ne x5 (0 : Int32)) 1 rfl (fun c => ?_) (fun c => ?_)
    · replace H := H.1 (of_decide_eq_true c)
      refine mm_R.wgv (pc' := 141) (L' := [some ((.ref a0)), some (.int i1), some (.int i2), some (.int i3), some (.int i4), some (.int i5), some (.int i6), some (.int (((600 : Int32) + ((192 : Int32) * i2)) + ((24 : Int32) * i6)))]) (r := [.int (((600 : Int32) + ((192 : Int32) * i2)) + ((24 : Int32) * i6)), .int (1 : Int32), .int i3, (.ref a0)]) 5 rfl rfl (H.mono (fun v6 H => ?_))
      refine mm_R.wai (pc' := 151) (L' := [some ((.ref a0)), some (.int i1), some (.int i2), some (.int i3), some (.int i4), some (.int i5), some (.int i6), some (.int (((600 : Int32) + ((192 : Int32) * i2)) + ((24 : Int32) * i6)))]) (r := [.int (((600 : Int32) + ((192 : Int32) * i2)) + ((24 : Int32) * i6)), .int (1 : Int32), .int i3, (.ref a0)]) (t := 1000) 5 rfl rfl rfl rfl (H.mono (fun x7 H => ?_))
      obtain ⟨hc8, H⟩ := H
      refine mm_R.cV (pc' := 152) (L' := [some ((.ref a0)), some (.int i1), some (.int i2), some (.int i3), some (.int i4), some (.int i5), some (.int i6), some (.int (((600 : Int32) + ((192 : Int32) * i2)) + ((24 : Int32) * i6)))]) (st1 := [.int x7, .int (((600 : Int32) + ((192 : Int32) * i2)) + ((24 : Int32) * i6)), .int (1 : Int32), .int i3, (.ref a0)]) (as := [.int i3, .int (1 : Int32), .int (((600 : Int32) + ((192 : Int32) * i2)) + ((24 : Int32) * i6)), .int x7]) (rest := []) 0 rfl rfl (mw_sp rfl rfl (Nat.le_of_ble_eq_true rfl) (mw_ac rfl (mw_ac rfl (mw_ac rfl (mw_ac rfl (mw_ac rfl mw_an))))) mw_an) rfl rfl hc8 (H.mono (fun o hp9 H => ?_))
      obtain ⟨rfl, H⟩ := H
      exact mm_R.pn (pc' := 88) (L' := [some ((.ref a0)), some (.int i1), some (.int i2), some (.int i3), some (.int i4), some (.int i5), some (.int (i6 + (1 : Int32))), some (.int (((600 : Int32) + ((192 : Int32) * i2)) + ((24 : Int32) * i6)))]) (st' := []) 2 rfl H
    · replace H := H.2 (Decidable.of_not_not (of_decide_eq_false c))
      exact mm_R.rt (pc' := 134) (L' := [some ((.ref a0)), some (.int i1), some (.int i2), some (.int i3), some (.int i4), some (.int i5), some (.int i6), some (.int (((600 : Int32) + ((192 : Int32) * i2)) + ((24 : Int32) * i6)))]) (st1 := [.int (0 : Int32)]) 1 rfl rfl rfl rfl rfl rfl H
