-- StepRunnerModel.putNumber, from 0
set_option maxRecDepth 10000 in
theorem w186_0 {X : List Int32} {d : Nat} {a0 : Nat} {i1 : Int32} {hp : mm_H} {Q : Option Value → mm_H → Prop} (H : (((0 : Int32) ≤ i1 → mm_R X (d + 1) 186 10 [some ((.ref a0)), some (.int i1), none, none] [] hp Q) ∧ (¬ (0 : Int32) ≤ i1 → mw_rc (.ref a0) 184 hp ∧ mm_R X d 184 0 (mm_L0 184 [(.ref a0), .int (45 : Int32)]) [] hp (mw_r0 (fun hp2 => mm_R X (d + 1) 186 10 [some ((.ref a0)), some (.int i1), none, none] [] hp2 Q))))) : mm_R X (d + 1) 186 0 (mm_L0 186 [(.ref a0), .int i1]) [] hp Q := by
  show mm_R X (d + 1) 186 0 [some ((.ref a0)), some (.int i1), none, none] [] hp Q
  refine mm_R.br (L' := [some ((.ref a0)), some (.int i1), none, none]) (st' := []) (t := 10) (u := 4) (b := mm_cc .ge i1 (0 : Int32)) 2 rfl (fun c => ?_) (fun c => ?_)
  · replace H := H.1 (of_decide_eq_true c)
    exact H
  · replace H := H.2 (of_decide_eq_false c)
    obtain ⟨hc1, H⟩ := H
    refine mm_R.cV (pc' := 7) (L' := [some ((.ref a0)), some (.int i1), none, none]) (st1 := [.int (45 : Int32), (.ref a0)]) (as := [.int (45 : Int32)]) (rest := []) 2 rfl rfl (mw_sp rfl rfl (Nat.le_of_ble_eq_true rfl) (mw_ac rfl (mw_ac rfl mw_an)) mw_an) rfl rfl hc1 (H.mono (fun o hp2 H => ?_))
    obtain ⟨rfl, H⟩ := H
    exact H
-- StepRunnerModel.putNumber, from 10
set_option maxRecDepth 10000 in
theorem w186_10 {X : List Int32} {d : Nat} {a0 : Nat} {i1 : Int32} {o2 : Option Value} {o3 : Option Value} {hp : mm_H} {Q : Option Value → mm_H → Prop} (H : (((0 : Int32) ≤ i1 → mm_R X (d + 1) 186 23 [some ((.ref a0)), some (.int i1), some (.int i1), some (.int (1 : Int32))] [] hp Q) ∧ (¬ (0 : Int32) ≤ i1 → mm_R X (d + 1) 186 23 [some ((.ref a0)), some (.int i1), some (.int (-i1)), some (.int (1 : Int32))] [] hp Q))) : mm_R X (d + 1) 186 10 [some ((.ref a0)), some (.int i1), o2, o3] [] hp Q := by
  refine mm_R.br (L' := [some ((.ref a0)), some (.int i1), o2, o3]) (st' := []) (t := 19) (u := 14) (b := mm_cc .ge i1 (0 : Int32)) 2 rfl (fun c => ?_) (fun c => ?_)
  · replace H := H.1 (of_decide_eq_true c)
    exact mm_R.pn (pc' := 23) (L' := [some ((.ref a0)), some (.int i1), some (.int i1), some (.int (1 : Int32))]) (st' := []) 4 rfl H
  · replace H := H.2 (of_decide_eq_false c)
    exact mm_R.pn (pc' := 23) (L' := [some ((.ref a0)), some (.int i1), some (.int (-i1)), some (.int (1 : Int32))]) (st' := []) 6 rfl H
-- StepRunnerModel.putNumber, from 23
set_option maxRecDepth 10000 in
theorem w186_23 {X : List Int32} {d : Nat} {a0 : Nat} {i1 : Int32} {i2 : Int32} {i3 : Int32} {hp : mm_H} {Q : Option Value → mm_H → Prop} (H : ¬ i3 = (0 : Int32) ∧ ((((i2 / i3) < (10 : Int32) → mm_R X (d + 1) 186 39 [some ((.ref a0)), some (.int i1), some (.int i2), some (.int i3)] [] hp Q) ∧ (¬ (i2 / i3) < (10 : Int32) → mm_R X (d + 1) 186 23 [some ((.ref a0)), some (.int i1), some (.int i2), some (.int ((10 : Int32) * i3))] [] hp Q)))) : mm_R X (d + 1) 186 23 [some ((.ref a0)), some (.int i1), some (.int i2), some (.int i3)] [] hp Q := by
  obtain ⟨hz1, H⟩ := H
  refine mm_R.dv (pc' := 25) (L' := [some ((.ref a0)), some (.int i1), some (.int i2), some (.int i3)]) (r := []) (x := i2) (y := i3) (f := fun x y => x / y) 2 rfl rfl rfl hz1 ?_
  refine mm_R.br (L' := [some ((.ref a0)), some (.int i1), some (.int i2), some (.int i3)]) (st' := []) (t := 39) (u := 31) (b := mm_cc .lt (i2 / i3) (10 : Int32)) 2 rfl (fun c => ?_) (fun c => ?_)
  · replace H := H.1 (of_decide_eq_true c)
    exact H
  · replace H := H.2 (of_decide_eq_false c)
    exact mm_R.pn (pc' := 23) (L' := [some ((.ref a0)), some (.int i1), some (.int i2), some (.int ((10 : Int32) * i3))]) (st' := []) 5 rfl H
-- StepRunnerModel.putNumber, from 39
set_option maxRecDepth 10000 in
theorem w186_39 {X : List Int32} {d : Nat} {a0 : Nat} {i1 : Int32} {i2 : Int32} {i3 : Int32} {hp : mm_H} {Q : Option Value → mm_H → Prop} (H : ((i3 ≤ (0 : Int32) → Q none hp) ∧ (¬ i3 ≤ (0 : Int32) → ¬ i3 = (0 : Int32) ∧ (mw_rc (.ref a0) 184 hp ∧ mm_R X d 184 0 (mm_L0 184 [(.ref a0), .int ((Int32.toUInt32 ((48 : Int32) + ((i2 / i3) - (i2 / i3) / (10 : Int32) * (10 : Int32))) % 65536).toInt32)]) [] hp (mw_r0 (fun hp2 => mm_R X (d + 1) 186 39 [some ((.ref a0)), some (.int i1), some (.int i2), some (.int (i3 / (10 : Int32)))] [] hp2 Q)))))) : mm_R X (d + 1) 186 39 [some ((.ref a0)), some (.int i1), some (.int i2), some (.int i3)] [] hp Q := by
  refine mm_R.br (L' := [some ((.ref a0)), some (.int i1), some (.int i2), some (.int i3)]) (st' := []) (t := 65) (u := 43) (b := mm_cc .le i3 (0 : Int32)) 2 rfl (fun c => ?_) (fun c => ?_)
  · replace H := H.1 (of_decide_eq_true c)
    exact mm_R.rt (pc' := 65) (L' := [some ((.ref a0)), some (.int i1), some (.int i2), some (.int i3)]) (st1 := []) 0 rfl rfl rfl rfl rfl rfl H
  · replace H := H.2 (of_decide_eq_false c)
    obtain ⟨hz3, H⟩ := H
    refine mm_R.dv (pc' := 48) (L' := [some ((.ref a0)), some (.int i1), some (.int i2), some (.int i3)]) (r := [.int (48 : Int32), (.ref a0)]) (x := i2) (y := i3) (f := fun x y => x / y) 4 rfl rfl rfl hz3 ?_
    obtain ⟨hc1, H⟩ := H
    refine mm_R.cV (pc' := 54) (L' := [some ((.ref a0)), some (.int i1), some (.int i2), some (.int i3)]) (st1 := [.int ((Int32.toUInt32 ((48 : Int32) + ((i2 / i3) - (i2 / i3) / (10 : Int32) * (10 : Int32))) % 65536).toInt32), (.ref a0)]) (as := [.int ((Int32.toUInt32 ((48 : Int32) + ((i2 / i3) - (i2 / i3) / (10 : Int32) * (10 : Int32))) % 65536).toInt32)]) (rest := []) 4 rfl rfl (mw_sp rfl rfl (Nat.le_of_ble_eq_true rfl) (mw_ac rfl (mw_ac rfl mw_an)) mw_an) rfl rfl hc1 (H.mono (fun o hp2 H => ?_))
    obtain ⟨rfl, H⟩ := H
    exact mm_R.pn (pc' := 39) (L' := [some ((.ref a0)), some (.int i1), some (.int i2), some (.int (i3 / (10 : Int32)))]) (st' := []) 5 rfl H
-- StepRunnerModel.putNull, from 0
set_option maxRecDepth 10000 in
theorem w187_0 {X : List Int32} {d : Nat} {a0 : Nat} {hp : mm_H} {Q : Option Value → mm_H → Prop} (H : mw_rc (.ref a0) 184 hp ∧ mm_R X d 184 0 (mm_L0 184 [(.ref a0), .int (110 : Int32)]) [] hp (mw_r0 (fun hp2 => mw_rc (.ref a0) 184 hp2 ∧ mm_R X d 184 0 (mm_L0 184 [(.ref a0), .int (117 : Int32)]) [] hp2 (mw_r0 (fun hp4 => mw_rc (.ref a0) 184 hp4 ∧ mm_R X d 184 0 (mm_L0 184 [(.ref a0), .int (108 : Int32)]) [] hp4 (mw_r0 (fun hp6 => mw_rc (.ref a0) 184 hp6 ∧ mm_R X d 184 0 (mm_L0 184 [(.ref a0), .int (108 : Int32)]) [] hp6 (mw_r0 (fun hp8 => Q none hp8))))))))) : mm_R X (d + 1) 187 0 (mm_L0 187 [(.ref a0)]) [] hp Q := by
  show mm_R X (d + 1) 187 0 [some ((.ref a0))] [] hp Q
  obtain ⟨hc1, H⟩ := H
  refine mm_R.cV (pc' := 3) (L' := [some ((.ref a0))]) (st1 := [.int (110 : Int32), (.ref a0)]) (as := [.int (110 : Int32)]) (rest := []) 2 rfl rfl (mw_sp rfl rfl (Nat.le_of_ble_eq_true rfl) (mw_ac rfl (mw_ac rfl mw_an)) mw_an) rfl rfl hc1 (H.mono (fun o hp2 H => ?_))
  obtain ⟨rfl, H⟩ := H
  obtain ⟨hc3, H⟩ := H
  refine mm_R.cV (pc' := 9) (L' := [some ((.ref a0))]) (st1 := [.int (117 : Int32), (.ref a0)]) (as := [.int (117 : Int32)]) (rest := []) 2 rfl rfl (mw_sp rfl rfl (Nat.le_of_ble_eq_true rfl) (mw_ac rfl (mw_ac rfl mw_an)) mw_an) rfl rfl hc3 (H.mono (fun o hp4 H => ?_))
  obtain ⟨rfl, H⟩ := H
  obtain ⟨hc5, H⟩ := H
  refine mm_R.cV (pc' := 15) (L' := [some ((.ref a0))]) (st1 := [.int (108 : Int32), (.ref a0)]) (as := [.int (108 : Int32)]) (rest := []) 2 rfl rfl (mw_sp rfl rfl (Nat.le_of_ble_eq_true rfl) (mw_ac rfl (mw_ac rfl mw_an)) mw_an) rfl rfl hc5 (H.mono (fun o hp6 H => ?_))
  obtain ⟨rfl, H⟩ := H
  obtain ⟨hc7, H⟩ := H
  refine mm_R.cV (pc' := 21) (L' := [some ((.ref a0))]) (st1 := [.int (108 : Int32), (.ref a0)]) (as := [.int (108 : Int32)]) (rest := []) 2 rfl rfl (mw_sp rfl rfl (Nat.le_of_ble_eq_true rfl) (mw_ac rfl (mw_ac rfl mw_an)) mw_an) rfl rfl hc7 (H.mono (fun o hp8 H => ?_))
  obtain ⟨rfl, H⟩ := H
  exact mm_R.rt (pc' := 24) (L' := [some ((.ref a0))]) (st1 := []) 0 rfl rfl rfl rfl rfl rfl H
-- StepRunnerModel.isText, from 0
set_option maxRecDepth 10000 in
theorem w188_0 {X : List Int32} {d : Nat} {a0 : Nat} {i1 : Int32} {i2 : Int32} {hp : mm_H} {Q : Option Value → mm_H → Prop} (H : (((24 : Int32) < i2 → mm_R X (d + 1) 188 15 [some ((.ref a0)), some (.int i1), some (.int i2), some (.int (0 : Int32)), some (.int (0 : Int32))] [] hp Q) ∧ (¬ (24 : Int32) < i2 → mm_R X (d + 1) 188 15 [some ((.ref a0)), some (.int i1), some (.int i2), some (.int (1 : Int32)), some (.int (0 : Int32))] [] hp Q))) : mm_R X (d + 1) 188 0 (mm_L0 188 [(.ref a0), .int i1, .int i2]) [] hp Q := by
  show mm_R X (d + 1) 188 0 [some ((.ref a0)), some (.int i1), some (.int i2), none, none] [] hp Q
  refine mm_R.br (L' := [some ((.ref a0)), some (.int i1), some (.int i2), none, none]) (st' := []) (t := 10) (u := 6) (b := mm_cc .gt i2 (24 : Int32)) 3 rfl (fun c => ?_) (fun c => ?_)
  · replace H := H.1 (of_decide_eq_true c)
    exact mm_R.pn (pc' := 15) (L' := [some ((.ref a0)), some (.int i1), some (.int i2), some (.int (0 : Int32)), some (.int (0 : Int32))]) (st' := []) 4 rfl H
  · replace H := H.2 (of_decide_eq_false c)
    exact mm_R.pn (pc' := 15) (L' := [some ((.ref a0)), some (.int i1), some (.int i2), some (.int (1 : Int32)), some (.int (0 : Int32))]) (st' := []) 5 rfl H
-- StepRunnerModel.isText, from 15
set_option maxRecDepth 10000 in
theorem w188_15 {X : List Int32} {d : Nat} {a0 : Nat} {i1 : Int32} {i2 : Int32} {i3 : Int32} {i4 : Int32} {hp : mm_H} {Q : Option Value → mm_H → Prop} (H : ((i2 ≤ i4 → mm_fv .boolean (.int i3) = true ∧ Q (some (.int i3)) hp) ∧ (¬ i2 ≤ i4 → ((i3 = (0 : Int32) → mm_fv .boolean (.int i3) = true ∧ Q (some (.int i3)) hp) ∧ (¬ i3 = (0 : Int32) → mw_rc (.ref a0) 154 hp ∧ mm_R X d 154 0 (mm_L0 154 [(.ref a0), .int (i1 + i4)]) [] hp (mw_ri (fun x3 hp2 => ((x3 = (34 : Int32) → mm_R X (d + 1) 188 15 [some ((.ref a0)), some (.int i1), some (.int i2), some (.int (0 : Int32)), some (.int (i4 + (1 : Int32)))] [] hp2 Q) ∧ (¬ x3 = (34 : Int32) → mw_rc (.ref a0) 154 hp2 ∧ mm_R X d 154 0 (mm_L0 154 [(.ref a0), .int (i1 + i4)]) [] hp2 (mw_ri (fun x6 hp5 => ((x6 = (92 : Int32) → mm_R X (d + 1) 188 15 [some ((.ref a0)), some (.int i1), some (.int i2), some (.int (0 : Int32)), some (.int (i4 + (1 : Int32)))] [] hp5 Q) ∧ (¬ x6 = (92 : Int32) → mm_R X (d + 1) 188 15 [some ((.ref a0)), some (.int i1), some (.int i2), some (.int (1 : Int32)), some (.int (i4 + (1 : Int32)))] [] hp5 Q))))))))))))) : mm_R X (d + 1) 188 15 [some ((.ref a0)), some (.int i1), some (.int i2), some (.int i3), some (.int i4)] [] hp Q := by
  refine mm_R.br (L' := [some ((.ref a0)), some (.int i1), some (.int i2), some (.int i3), some (.int i4)]) (st' := []) (t := 63) (u := 21) (b := mm_cc .ge i4 i2) 3 rfl (fun c => ?_) (fun c => ?_)
  · replace H := H.1 (of_decide_eq_true c)
    exact mm_R.rt (pc' := 64) (L' := [some ((.ref a0)), some (.int i1), some (.int i2), some (.int i3), some (.int i4)]) (st1 := [.int i3]) 1 rfl rfl rfl rfl rfl (mw_rvi (ty := .boolean) H.1) H.2
  · replace H := H.2 (of_decide_eq_false c)
    refine mm_R.br (L' := [some ((.ref a0)), some (.int i1), some (.int i2), some (.int i3), some (.int i4)]) (st' := []) (t := 63) (u := 25) (b := mm_cc .eq i3 (0 : Int32)) 2 rfl (fun c => ?_) (fun c => ?_)
    · replace H := H.1 (of_decide_eq_true c)
      exact mm_R.rt (pc' := 64) (L' := [some ((.ref a0)), some (.int i1), some (.int i2), some (.int i3), some (.int i4)]) (st1 := [.int i3]) 1 rfl rfl rfl rfl rfl (mw_rvi (ty := .boolean) H.1) H.2
    · replace H := H.2 (of_decide_eq_false c)
      obtain ⟨hc1, H⟩ := H
      refine mm_R.cV (pc' := 30) (L' := [some ((.ref a0)), some (.int i1), some (.int i2), some (.int i3), some (.int i4)]) (st1 := [.int (i1 + i4), (.ref a0)]) (as := [.int (i1 + i4)]) (rest := []) 4 rfl rfl (mw_sp rfl rfl (Nat.le_of_ble_eq_true rfl) (mw_ac rfl (mw_ac rfl mw_an)) mw_an) rfl rfl hc1 (H.mono (fun o hp2 H => ?_))
      obtain ⟨x3, rfl, H⟩ := H
      refine mm_R.br (L' := [some ((.ref a0)), some (.int i1), some (.int i2), some (.int i3), some (.int i4)]) (st' := []) (t := 55) (u := 38) (b := mm_cc .eq x3 (34 : Int32)) 2 rfl (fun c => ?_) (fun c => ?_)
      · replace H := H.1 (of_decide_eq_true c)
        exact mm_R.pn (pc' := 15) (L' := [some ((.ref a0)), some (.int i1), some (.int i2), some (.int (0 : Int32)), some (.int (i4 + (1 : Int32)))]) (st' := []) 4 rfl H
      · replace H := H.2 (of_decide_eq_false c)
        obtain ⟨hc4, H⟩ := H
        refine mm_R.cV (pc' := 43) (L' := [some ((.ref a0)), some (.int i1), some (.int i2), some (.int i3), some (.int i4)]) (st1 := [.int (i1 + i4), (.ref a0)]) (as := [.int (i1 + i4)]) (rest := []) 4 rfl rfl (mw_sp rfl rfl (Nat.le_of_ble_eq_true rfl) (mw_ac rfl (mw_ac rfl mw_an)) mw_an) rfl rfl hc4 (H.mono (fun o hp5 H => ?_))
        obtain ⟨x6, rfl, H⟩ := H
        refine mm_R.br (L' := [some ((.ref a0)), some (.int i1), some (.int i2), some (.int i3), some (.int i4)]) (st' := []) (t := 55) (u := 51) (b := mm_cc .eq x6 (92 : Int32)) 2 rfl (fun c => ?_) (fun c => ?_)
        · replace H := H.1 (of_decide_eq_true c)
          exact mm_R.pn (pc' := 15) (L' := [some ((.ref a0)), some (.int i1), some (.int i2), some (.int (0 : Int32)), some (.int (i4 + (1 : Int32)))]) (st' := []) 4 rfl H
        · replace H := H.2 (of_decide_eq_false c)
          exact mm_R.pn (pc' := 15) (L' := [some ((.ref a0)), some (.int i1), some (.int i2), some (.int (1 : Int32)), some (.int (i4 + (1 : Int32)))]) (st' := []) 5 rfl H
-- StepRunnerModel.commanded, from 0
set_option maxRecDepth 10000 in
theorem w189_0 {X : List Int32} {d : Nat} {a0 : Nat} {i1 : Int32} {i2 : Int32} {hp : mm_H} {Q : Option Value → mm_H → Prop} (H : mw_gv 10 32 (.ref a0) hp (fun v1 => mw_si 1000 .int v1 i2 (0 : Int32) hp (fun hp2 => mw_gv 10 8 (.ref a0) hp2 (fun v3 => mw_gv 10 13 (.ref a0) hp2 (fun v4 => mw_ai 1000 v4 i1 hp2 (fun x5 => mw_ai 1000 v3 x5 hp2 (fun x6 => mw_pt 10 43 (.ref a0) (.int (1 : Int32)) hp2 (fun hp7 => mm_R X (d + 1) 189 28 [some ((.ref a0)), some (.int i1), some (.int i2), some (.int x6), some (.int (-9 : Int32)), none, none] [] hp7 Q)))))))) : mm_R X (d + 1) 189 0 (mm_L0 189 [(.ref a0), .int i1, .int i2]) [] hp Q := by
  show mm_R X (d + 1) 189 0 [some ((.ref a0)), some (.int i1), some (.int i2), none, none, none, none] [] hp Q
  refine mm_R.wgv (pc' := 1) (L' := [some ((.ref a0)), some (.int i1), some (.int i2), none, none, none, none]) (r := []) 1 rfl rfl (H.mono (fun v1 H => ?_))
  refine mm_R.wsi (pc' := 6) (L' := [some ((.ref a0)), some (.int i1), some (.int i2), none, none, none, none]) (r := []) (t := 1000) (ty := .int) 2 rfl rfl rfl rfl (H.mono (fun hp2 H => ?_))
  refine mm_R.wgv (pc' := 8) (L' := [some ((.ref a0)), some (.int i1), some (.int i2), none, none, none, none]) (r := []) 1 rfl rfl (H.mono (fun v3 H => ?_))
  refine mm_R.wgv (pc' := 12) (L' := [some ((.ref a0)), some (.int i1), some (.int i2), none, none, none, none]) (r := [v3]) 1 rfl rfl (H.mono (fun v4 H => ?_))
  refine mm_R.wai (pc' := 16) (L' := [some ((.ref a0)), some (.int i1), some (.int i2), none, none, none, none]) (r := [v3]) (t := 1000) 1 rfl rfl rfl rfl (H.mono (fun x5 H => ?_))
  refine mm_R.wai (pc' := 17) (L' := [some ((.ref a0)), some (.int i1), some (.int i2), none, none, none, none]) (r := []) (t := 1000) 0 rfl rfl rfl rfl (H.mono (fun x6 H => ?_))
  refine mm_R.wpt (pc' := 21) (L' := [some ((.ref a0)), some (.int i1), some (.int i2), some (.int x6), none, none, none]) (r := []) 3 rfl rfl (H.mono (fun hp7 H => ?_))
  exact mm_R.pn (pc' := 28) (L' := [some ((.ref a0)), some (.int i1), some (.int i2), some (.int x6), some (.int (-9 : Int32)), none, none]) (st' := []) 2 rfl H
-- StepRunnerModel.commanded, from 28
set_option maxRecDepth 10000 in
theorem w189_28 {X : List Int32} {d : Nat} {a0 : Nat} {i1 : Int32} {i2 : Int32} {i3 : Int32} {i4 : Int32} {o5 : Option Value} {o6 : Option Value} {hp : mm_H} {Q : Option Value → mm_H → Prop} (H : (((9 : Int32) < i4 → mw_gi 10 43 (.ref a0) hp (fun x1 => mm_fv .boolean (.int x1) = true ∧ Q (some (.int x1)) hp)) ∧ (¬ (9 : Int32) < i4 → mm_R X (d + 1) 189 38 [some ((.ref a0)), some (.int i1), some (.int i2), some (.int i3), some (.int i4), some (.int (0 : Int32)), o6] [] hp Q))) : mm_R X (d + 1) 189 28 [some ((.ref a0)), some (.int i1), some (.int i2), some (.int i3), some (.int i4), o5, o6] [] hp Q := by
  refine mm_R.br (L' := [some ((.ref a0)), some (.int i1), some (.int i2), some (.int i3), some (.int i4), o5, o6]) (st' := []) (t := 122) (u := 35) (b := mm_cc .gt i4 (9 : Int32)) 3 rfl (fun c => ?_) (fun c => ?_)
  · replace H := H.1 (of_decide_eq_true c)
    refine mm_R.wgi (pc' := 123) (L' := [some ((.ref a0)), some (.int i1), some (.int i2), some (.int i3), some (.int i4), o5, o6]) (r := []) 1 rfl rfl (H.mono (fun x1 H => ?_))
    exact mm_R.rt (pc' := 126) (L' := [some ((.ref a0)), some (.int i1), some (.int i2), some (.int i3), some (.int i4), o5, o6]) (st1 := [.int x1]) 0 rfl rfl rfl rfl rfl (mw_rvi (ty := .boolean) H.1) H.2
  · replace H := H.2 (of_decide_eq_false c)
    exact mm_R.pn (pc' := 38) (L' := [some ((.ref a0)), some (.int i1), some (.int i2), some (.int i3), some (.int i4), some (.int (0 : Int32)), o6]) (st' := []) 2 rfl H
-- StepRunnerModel.commanded, from 38
set_option maxRecDepth 10000 in
theorem w189_38 {X : List Int32} {d : Nat} {a0 : Nat} {i1 : Int32} {i2 : Int32} {i3 : Int32} {i4 : Int32} {i5 : Int32} {o6 : Option Value} {hp : mm_H} {Q : Option Value → mm_H → Prop} (H : ((i3 ≤ i5 → mm_R X (d + 1) 189 28 [some ((.ref a0)), some (.int i1), some (.int i2), some (.int i3), some (.int (i4 + (1 : Int32))), some (.int i5), o6] [] hp Q) ∧ (¬ i3 ≤ i5 → mw_gv 10 13 (.ref a0) hp (fun v1 => mw_ai 1000 v1 i1 hp (fun x2 => mw_gv 10 9 (.ref a0) hp (fun v3 => mw_ai 1000 v3 (((4 : Int32) * x2) + i5) hp (fun x4 => ((¬ x4 = i4 → mm_R X (d + 1) 189 38 [some ((.ref a0)), some (.int i1), some (.int i2), some (.int i3), some (.int i4), some (.int (i5 + (1 : Int32))), some (.int (((4 : Int32) * x2) + i5))] [] hp Q) ∧ (x4 = i4 → mw_gv 10 11 (.ref a0) hp (fun v5 => mw_ai 1000 v5 (((4 : Int32) * x2) + i5) hp (fun x6 => (((4 : Int32) ≤ x6 → mm_R X (d + 1) 189 38 [some ((.ref a0)), some (.int i1), some (.int i2), some (.int i3), some (.int i4), some (.int (i5 + (1 : Int32))), some (.int (((4 : Int32) * x2) + i5))] [] hp Q) ∧ (¬ (4 : Int32) ≤ x6 → mw_gv 10 10 (.ref a0) hp (fun v7 => mw_ai 1000 v7 (((4 : Int32) * x2) + i5) hp (fun x8 => mw_gv 10 11 (.ref a0) hp (fun v9 => mw_ai 1000 v9 (((4 : Int32) * x2) + i5) hp (fun x10 => mw_rc (.ref a0) 190 hp ∧ mm_R X d 190 0 (mm_L0 190 [(.ref a0), .int i2, .int ((137 : Int32) + i5), .int x8, .int x10]) [] hp (mw_ri (fun x13 hp12 => ((¬ x13 = (0 : Int32) → mm_R X (d + 1) 189 38 [some ((.ref a0)), some (.int i1), some (.int i2), some (.int i3), some (.int i4), some (.int (i5 + (1 : Int32))), some (.int (((4 : Int32) * x2) + i5))] [] hp12 Q) ∧ (x13 = (0 : Int32) → Q (some (.int (0 : Int32))) hp12))))))))))))))))))))) : mm_R X (d + 1) 189 38 [some ((.ref a0)), some (.int i1), some (.int i2), some (.int i3), some (.int i4), some (.int i5), o6] [] hp Q := by
  refine mm_R.br (L' := [some ((.ref a0)), some (.int i1), some (.int i2), some (.int i3), some (.int i4), some (.int i5), o6]) (st' := []) (t := 116) (u := 44) (b := mm_cc .ge i5 i3) 3 rfl (fun c => ?_) (fun c => ?_)
  · replace H := H.1 (of_decide_eq_true c)
    exact mm_R.pn (pc' := 28) (L' := [some ((.ref a0)), some (.int i1), some (.int i2), some (.int i3), some (.int (i4 + (1 : Int32))), some (.int i5), o6]) (st' := []) 2 rfl H
  · replace H := H.2 (of_decide_eq_false c)
    refine mm_R.wgv (pc' := 46) (L' := [some ((.ref a0)), some (.int i1), some (.int i2), some (.int i3), some (.int i4), some (.int i5), o6]) (r := [.int (4 : Int32)]) 2 rfl rfl (H.mono (fun v1 H => ?_))
    refine mm_R.wai (pc' := 50) (L' := [some ((.ref a0)), some (.int i1), some (.int i2), some (.int i3), some (.int i4), some (.int i5), o6]) (r := [.int (4 : Int32)]) (t := 1000) 1 rfl rfl rfl rfl (H.mono (fun x2 H => ?_))
    refine mm_R.wgv (pc' := 58) (L' := [some ((.ref a0)), some (.int i1), some (.int i2), some (.int i3), some (.int i4), some (.int i5), some (.int (((4 : Int32) * x2) + i5))]) (r := []) 5 rfl rfl (H.mono (fun v3 H => ?_))
    refine mm_R.wai (pc' := 63) (L' := [some ((.ref a0)), some (.int i1), some (.int i2), some (.int i3), some (.int i4), some (.int i5), some (.int (((4 : Int32) * x2) + i5))]) (r := []) (t := 1000) 1 rfl rfl rfl rfl (H.mono (fun x4 H => ?_))
    refine mm_R.br (L' := [some ((.ref a0)), some (.int i1), some (.int i2), some (.int i3), some (.int i4), some (.int i5), some (.int (((4 : Int32) * x2) + i5))]) (st' := []) (t := 110) (u := 69) (b := mm_cc .ne x4 i4) 2 rfl (fun c => ?_) (fun c => ?_)
    · replace H := H.1 (of_decide_eq_true c)
      exact mm_R.pn (pc' := 38) (L' := [some ((.ref a0)), some (.int i1), some (.int i2), some (.int i3), some (.int i4), some (.int (i5 + (1 : Int32))), some (.int (((4 : Int32) * x2) + i5))]) (st' := []) 2 rfl H
    · replace H := H.2 (Decidable.of_not_not (of_decide_eq_false c))
      refine mm_R.wgv (pc' := 70) (L' := [some ((.ref a0)), some (.int i1), some (.int i2), some (.int i3), some (.int i4), some (.int i5), some (.int (((4 : Int32) * x2) + i5))]) (r := []) 1 rfl rfl (H.mono (fun v5 H => ?_))
      refine mm_R.wai (pc' := 75) (L' := [some ((.ref a0)), some (.int i1), some (.int i2), some (.int i3), some (.int i4), some (.int i5), some (.int (((4 : Int32) * x2) + i5))]) (r := []) (t := 1000) 1 rfl rfl rfl rfl (H.mono (fun x6 H => ?_))
      refine mm_R.br (L' := [some ((.ref a0)), some (.int i1), some (.int i2), some (.int i3), some (.int i4), some (.int i5), some (.int (((4 : Int32) * x2) + i5))]) (st' := []) (t := 110) (u := 80) (b := mm_cc .ge x6 (4 : Int32)) 2 rfl (fun c => ?_) (fun c => ?_)
      · replace H := H.1 (of_decide_eq_true c)
        exact mm_R.pn (pc' := 38) (L' := [some ((.ref a0)), some (.int i1), some (.int i2), some (.int i3), some (.int i4), some (.int (i5 + (1 : Int32))), some (.int (((4 : Int32) * x2) + i5))]) (st' := []) 2 rfl H
      · replace H := H.2 (of_decide_eq_false c)
        refine mm_R.wgv (pc' := 89) (L' := [some ((.ref a0)), some (.int i1), some (.int i2), some (.int i3), some (.int i4), some (.int i5), some (.int (((4 : Int32) * x2) + i5))]) (r := [.int ((137 : Int32) + i5), .int i2, (.ref a0)]) 6 rfl rfl (H.mono (fun v7 H => ?_))
        refine mm_R.wai (pc' := 94) (L' := [some ((.ref a0)), some (.int i1), some (.int i2), some (.int i3), some (.int i4), some (.int i5), some (.int (((4 : Int32) * x2) + i5))]) (r := [.int ((137 : Int32) + i5), .int i2, (.ref a0)]) (t := 1000) 1 rfl rfl rfl rfl (H.mono (fun x8 H => ?_))
        refine mm_R.wgv (pc' := 96) (L' := [some ((.ref a0)), some (.int i1), some (.int i2), some (.int i3), some (.int i4), some (.int i5), some (.int (((4 : Int32) * x2) + i5))]) (r := [.int x8, .int ((137 : Int32) + i5), .int i2, (.ref a0)]) 1 rfl rfl (H.mono (fun v9 H => ?_))
        refine mm_R.wai (pc' := 101) (L' := [some ((.ref a0)), some (.int i1), some (.int i2), some (.int i3), some (.int i4), some (.int i5), some (.int (((4 : Int32) * x2) + i5))]) (r := [.int x8, .int ((137 : Int32) + i5), .int i2, (.ref a0)]) (t := 1000) 1 rfl rfl rfl rfl (H.mono (fun x10 H => ?_))
        obtain ⟨hc11, H⟩ := H
        refine mm_R.cV (pc' := 102) (L' := [some ((.ref a0)), some (.int i1), some (.int i2), some (.int i3), some (.int i4), some (.int i5), some (.int (((4 : Int32) * x2) + i5))]) (st1 := [.int x10, .int x8, .int ((137 : Int32) + i5), .int i2, (.ref a0)]) (as := [.int i2, .int ((137 : Int32) + i5), .int x8, .int x10]) (rest := []) 0 rfl rfl (mw_sp rfl rfl (Nat.le_of_ble_eq_true rfl) (mw_ac rfl (mw_ac rfl (mw_ac rfl (mw_ac rfl (mw_ac rfl mw_an))))) mw_an) rfl rfl hc11 (H.mono (fun o hp12 H => ?_))
        obtain ⟨x13, rfl, H⟩ := H
        refine mm_R.br (L' := [some ((.ref a0)), some (.int i1), some (.int i2), some (.int i3), some (.int i4), some (.int i5), some (.int (((4 : Int32) * x2) + i5))]) (st' := []) (t := 110) (u := 108) (b := mm_cc .ne x13 (0 : Int32)) 1 rfl (fun c => ?_) (fun c => ?_)
        · replace H := H.1 (of_decide_eq_true c)
          exact mm_R.pn (pc' := 38) (L' := [some ((.ref a0)), some (.int i1), some (.int i2), some (.int i3), some (.int i4), some (.int (i5 + (1 : Int32))), some (.int (((4 : Int32) * x2) + i5))]) (st' := []) 2 rfl H
        · replace H := H.2 (Decidable.of_not_not (of_decide_eq_false c))
          exact mm_R.rt (pc' := 109) (L' := [some ((.ref a0)), some (.int i1), some (.int i2), some (.int i3), some (.int i4), some (.int i5), some (.int (((4 : Int32) * x2) + i5))]) (st1 := [.int (0 : Int32)]) 1 rfl rfl rfl rfl rfl rfl H
-- StepRunnerModel.worded, from 0
set_option maxRecDepth 10000 in
theorem w190_0 {X : List Int32} {d : Nat} {a0 : Nat} {i1 : Int32} {i2 : Int32} {i3 : Int32} {i4 : Int32} {hp : mm_H} {Q : Option Value → mm_H → Prop} (H : mm_R X d 123 0 (mm_L0 123 [.int i2]) [] hp (mw_ri (fun x2 hp1 => mw_rc (.ref a0) 143 hp1 ∧ mm_R X d 143 0 (mm_L0 143 [(.ref a0), .int i2]) [] hp1 (mw_ri (fun x5 hp4 => mw_rc (.ref a0) 144 hp4 ∧ mm_R X d 144 0 (mm_L0 144 [(.ref a0), .int x2]) [] hp4 (mw_ri (fun x8 hp7 => ((¬ x8 = (3 : Int32) → mm_R X (d + 1) 190 28 [some ((.ref a0)), some (.int i1), some (.int i2), some (.int i3), some (.int i4), some (.int x2), some (.int x5), none, none] [.int (0 : Int32)] hp7 Q) ∧ (x8 = (3 : Int32) → mm_R X (d + 1) 190 28 [some ((.ref a0)), some (.int i1), some (.int i2), some (.int i3), some (.int i4), some (.int x2), some (.int x5), none, none] [.int (1 : Int32)] hp7 Q))))))))) : mm_R X (d + 1) 190 0 (mm_L0 190 [(.ref a0), .int i1, .int i2, .int i3, .int i4]) [] hp Q := by
  show mm_R X (d + 1) 190 0 [some ((.ref a0)), some (.int i1), some (.int i2), some (.int i3), some (.int i4), none, none, none, none] [] hp Q
  refine mm_R.cS (pc' := 1) (L' := [some ((.ref a0)), some (.int i1), some (.int i2), some (.int i3), some (.int i4), none, none, none, none]) (st1 := [.int i2]) (as := [.int i2]) (rest := []) 1 rfl rfl (mw_sp rfl rfl (Nat.le_of_ble_eq_true rfl) (mw_ac rfl mw_an) mw_an) rfl rfl (H.mono (fun o hp1 H => ?_))
  obtain ⟨x2, rfl, H⟩ := H
  obtain ⟨hc3, H⟩ := H
  refine mm_R.cV (pc' := 8) (L' := [some ((.ref a0)), some (.int i1), some (.int i2), some (.int i3), some (.int i4), some (.int x2), none, none, none]) (st1 := [.int i2, (.ref a0)]) (as := [.int i2]) (rest := []) 3 rfl rfl (mw_sp rfl rfl (Nat.le_of_ble_eq_true rfl) (mw_ac rfl (mw_ac rfl mw_an)) mw_an) rfl rfl hc3 (H.mono (fun o hp4 H => ?_))
  obtain ⟨x5, rfl, H⟩ := H
  obtain ⟨hc6, H⟩ := H
  refine mm_R.cV (pc' := 16) (L' := [some ((.ref a0)), some (.int i1), some (.int i2), some (.int i3), some (.int i4), some (.int x2), some (.int x5), none, none]) (st1 := [.int x2, (.ref a0)]) (as := [.int x2]) (rest := []) 3 rfl rfl (mw_sp rfl rfl (Nat.le_of_ble_eq_true rfl) (mw_ac rfl (mw_ac rfl mw_an)) mw_an) rfl rfl hc6 (H.mono (fun o hp7 H => ?_))
  obtain ⟨x8, rfl, H⟩ := H
  refine mm_R.br (L' := [some ((.ref a0)), some (.int i1), some (.int i2), some (.int i3), some (.int i4), some (.int x2), some (.int x5), none, none]) (st' := []) (t := 27) (u := 23) (b := mm_cc .ne x8 (3 : Int32)) 2 rfl (fun c => ?_) (fun c => ?_)
  · replace H := H.1 (of_decide_eq_true c)
    exact mm_R.pn (pc' := 28) (L' := [some ((.ref a0)), some (.int i1), some (.int i2), some (.int i3), some (.int i4), some (.int x2), some (.int x5), none, none]) (st' := [.int (0 : Int32)]) 1 rfl H
  · replace H := H.2 (Decidable.of_not_not (of_decide_eq_false c))
    exact mm_R.pn (pc' := 28) (L' := [some ((.ref a0)), some (.int i1), some (.int i2), some (.int i3), some (.int i4), some (.int x2), some (.int x5), none, none]) (st' := [.int (1 : Int32)]) 2 rfl H
-- StepRunnerModel.worded, from 28
set_option maxRecDepth 10000 in
theorem w190_28 {X : List Int32} {d : Nat} {a0 : Nat} {i1 : Int32} {i2 : Int32} {i3 : Int32} {i4 : Int32} {i5 : Int32} {i6 : Int32} {o7 : Option Value} {o8 : Option Value} {s0 : Int32} {hp : mm_H} {Q : Option Value → mm_H → Prop} (H : mw_rc (.ref a0) 144 hp ∧ mm_R X d 144 0 (mm_L0 144 [(.ref a0), .int i5]) [] hp (mw_ri (fun x3 hp2 => ((x3 = (0 : Int32) → Q (some (.int (1 : Int32))) hp2) ∧ (¬ x3 = (0 : Int32) → ((s0 = (0 : Int32) → mm_R X (d + 1) 190 57 [some ((.ref a0)), some (.int i1), some (.int i2), some (.int i3), some (.int i4), some (.int i5), some (.int i6), some (.int s0), o8] [] hp2 Q) ∧ (¬ s0 = (0 : Int32) → mw_rc (.ref a0) 146 hp2 ∧ mm_R X d 146 0 (mm_L0 146 [(.ref a0), .int i5, .int i6]) [] hp2 (mw_ri (fun x6 hp5 => ((¬ x6 = (0 : Int32) → mm_R X (d + 1) 190 57 [some ((.ref a0)), some (.int i1), some (.int i2), some (.int i3), some (.int i4), some (.int i5), some (.int i6), some (.int s0), o8] [] hp5 Q) ∧ (x6 = (0 : Int32) → Q (some (.int (1 : Int32))) hp5))))))))))) : mm_R X (d + 1) 190 28 [some ((.ref a0)), some (.int i1), some (.int i2), some (.int i3), some (.int i4), some (.int i5), some (.int i6), o7, o8] [.int s0] hp Q := by
  obtain ⟨hc1, H⟩ := H
  refine mm_R.cV (pc' := 33) (L' := [some ((.ref a0)), some (.int i1), some (.int i2), some (.int i3), some (.int i4), some (.int i5), some (.int i6), some (.int s0), o8]) (st1 := [.int i5, (.ref a0)]) (as := [.int i5]) (rest := []) 3 rfl rfl (mw_sp rfl rfl (Nat.le_of_ble_eq_true rfl) (mw_ac rfl (mw_ac rfl mw_an)) mw_an) rfl rfl hc1 (H.mono (fun o hp2 H => ?_))
  obtain ⟨x3, rfl, H⟩ := H
  refine mm_R.br (L' := [some ((.ref a0)), some (.int i1), some (.int i2), some (.int i3), some (.int i4), some (.int i5), some (.int i6), some (.int s0), o8]) (st' := []) (t := 55) (u := 39) (b := mm_cc .eq x3 (0 : Int32)) 1 rfl (fun c => ?_) (fun c => ?_)
  · replace H := H.1 (of_decide_eq_true c)
    exact mm_R.rt (pc' := 56) (L' := [some ((.ref a0)), some (.int i1), some (.int i2), some (.int i3), some (.int i4), some (.int i5), some (.int i6), some (.int s0), o8]) (st1 := [.int (1 : Int32)]) 1 rfl rfl rfl rfl rfl rfl H
  · replace H := H.2 (of_decide_eq_false c)
    refine mm_R.br (L' := [some ((.ref a0)), some (.int i1), some (.int i2), some (.int i3), some (.int i4), some (.int i5), some (.int i6), some (.int s0), o8]) (st' := []) (t := 57) (u := 44) (b := mm_cc .eq s0 (0 : Int32)) 2 rfl (fun c => ?_) (fun c => ?_)
    · replace H := H.1 (of_decide_eq_true c)
      exact H
    · replace H := H.2 (of_decide_eq_false c)
      obtain ⟨hc4, H⟩ := H
      refine mm_R.cV (pc' := 49) (L' := [some ((.ref a0)), some (.int i1), some (.int i2), some (.int i3), some (.int i4), some (.int i5), some (.int i6), some (.int s0), o8]) (st1 := [.int i6, .int i5, (.ref a0)]) (as := [.int i5, .int i6]) (rest := []) 3 rfl rfl (mw_sp rfl rfl (Nat.le_of_ble_eq_true rfl) (mw_ac rfl (mw_ac rfl (mw_ac rfl mw_an))) mw_an) rfl rfl hc4 (H.mono (fun o hp5 H => ?_))
      obtain ⟨x6, rfl, H⟩ := H
      refine mm_R.br (L' := [some ((.ref a0)), some (.int i1), some (.int i2), some (.int i3), some (.int i4), some (.int i5), some (.int i6), some (.int s0), o8]) (st' := []) (t := 57) (u := 55) (b := mm_cc .ne x6 (0 : Int32)) 1 rfl (fun c => ?_) (fun c => ?_)
      · replace H := H.1 (of_decide_eq_true c)
        exact H
      · replace H := H.2 (Decidable.of_not_not (of_decide_eq_false c))
        exact mm_R.rt (pc' := 56) (L' := [some ((.ref a0)), some (.int i1), some (.int i2), some (.int i3), some (.int i4), some (.int i5), some (.int i6), some (.int s0), o8]) (st1 := [.int (1 : Int32)]) 1 rfl rfl rfl rfl rfl rfl H
-- StepRunnerModel.worded, from 57
set_option maxRecDepth 10000 in
theorem w190_57 {X : List Int32} {d : Nat} {a0 : Nat} {i1 : Int32} {i2 : Int32} {i3 : Int32} {i4 : Int32} {i5 : Int32} {i6 : Int32} {i7 : Int32} {o8 : Option Value} {hp : mm_H} {Q : Option Value → mm_H → Prop} (H : ((i3 = (0 : Int32) → ((i7 = (0 : Int32) → mm_R X (d + 1) 190 156 [some ((.ref a0)), some (.int i1), some (.int i2), some (.int i3), some (.int i4), some (.int i5), some (.int i6), some (.int i7), o8] [] hp Q) ∧ (¬ i7 = (0 : Int32) → ((¬ i4 = (2 : Int32) → mm_R X (d + 1) 190 156 [some ((.ref a0)), some (.int i1), some (.int i2), some (.int i3), some (.int i4), some (.int i5), some (.int i6), some (.int i7), o8] [] hp Q) ∧ (i4 = (2 : Int32) → mm_R X (d + 1) 190 111 [some ((.ref a0)), some (.int i1), some (.int i2), some (.int i3), some (.int i4), some (.int i5), some (.int i6), some (.int i7), some (.int (i5 + (1 : Int32)))] [] hp Q))))) ∧ (¬ i3 = (0 : Int32) → ((i4 = (1 : Int32) → ((i7 = (0 : Int32) → mm_R X (d + 1) 190 156 [some ((.ref a0)), some (.int i1), some (.int i2), some (.int i3), some (.int i4), some (.int i5), some (.int i6), some (.int i7), o8] [] hp Q) ∧ (¬ i7 = (0 : Int32) → ((¬ i4 = (2 : Int32) → mm_R X (d + 1) 190 156 [some ((.ref a0)), some (.int i1), some (.int i2), some (.int i3), some (.int i4), some (.int i5), some (.int i6), some (.int i7), o8] [] hp Q) ∧ (i4 = (2 : Int32) → mm_R X (d + 1) 190 111 [some ((.ref a0)), some (.int i1), some (.int i2), some (.int i3), some (.int i4), some (.int i5), some (.int i6), some (.int i7), some (.int (i5 + (1 : Int32)))] [] hp Q))))) ∧ (¬ i4 = (1 : Int32) → mw_rc (.ref a0) 191 hp ∧ mm_R X d 191 0 (mm_L0 191 [(.ref a0), .int i1]) [] hp (mw_ri (fun x3 hp2 => ((¬ x3 = (0 : Int32) → mw_rc (.ref a0) 184 hp2 ∧ mm_R X d 184 0 (mm_L0 184 [(.ref a0), .int (45 : Int32)]) [] hp2 (mw_r0 (fun hp5 => mw_rc (.ref a0) 184 hp5 ∧ mm_R X d 184 0 (mm_L0 184 [(.ref a0), .int ((Int32.toUInt32 i3 % 65536).toInt32)]) [] hp5 (mw_r0 (fun hp7 => mw_rc (.ref a0) 192 hp7 ∧ mm_R X d 192 0 (mm_L0 192 [(.ref a0), .int i1]) [] hp7 (mw_r0 (fun hp9 => ((i7 = (0 : Int32) → mm_R X (d + 1) 190 156 [some ((.ref a0)), some (.int i1), some (.int i2), some (.int i3), some (.int i4), some (.int i5), some (.int i6), some (.int i7), o8] [] hp9 Q) ∧ (¬ i7 = (0 : Int32) → ((¬ i4 = (2 : Int32) → mm_R X (d + 1) 190 156 [some ((.ref a0)), some (.int i1), some (.int i2), some (.int i3), some (.int i4), some (.int i5), some (.int i6), some (.int i7), o8] [] hp9 Q) ∧ (i4 = (2 : Int32) → mm_R X (d + 1) 190 111 [some ((.ref a0)), some (.int i1), some (.int i2), some (.int i3), some (.int i4), some (.int i5), some (.int i6), some (.int i7), some (.int (i5 + (1 : Int32)))] [] hp9 Q))))))))))) ∧ (x3 = (0 : Int32) → Q (some (.int (0 : Int32))) hp2))))))))) : mm_R X (d + 1) 190 57 [some ((.ref a0)), some (.int i1), some (.int i2), some (.int i3), some (.int i4), some (.int i5), some (.int i6), some (.int i7), o8] [] hp Q := by
  refine mm_R.br (L' := [some ((.ref a0)), some (.int i1), some (.int i2), some (.int i3), some (.int i4), some (.int i5), some (.int i6), some (.int i7), o8]) (st' := []) (t := 94) (u := 61) (b := mm_cc .eq i3 (0 : Int32)) 2 rfl (fun c => ?_) (fun c => ?_)
  · replace H := H.1 (of_decide_eq_true c)
    refine mm_R.br (L' := [some ((.ref a0)), some (.int i1), some (.int i2), some (.int i3), some (.int i4), some (.int i5), some (.int i6), some (.int i7), o8]) (st' := []) (t := 156) (u := 99) (b := mm_cc .eq i7 (0 : Int32)) 2 rfl (fun c => ?_) (fun c => ?_)
    · replace H := H.1 (of_decide_eq_true c)
      exact H
    · replace H := H.2 (of_decide_eq_false c)
      refine mm_R.br (L' := [some ((.ref a0)), some (.int i1), some (.int i2), some (.int i3), some (.int i4), some (.int i5), some (.int i6), some (.int i7), o8]) (st' := []) (t := 156) (u := 105) (b := mm_cc .ne i4 (2 : Int32)) 3 rfl (fun c => ?_) (fun c => ?_)
      · replace H := H.1 (of_decide_eq_true c)
        exact H
      · replace H := H.2 (Decidable.of_not_not (of_decide_eq_false c))
        exact mm_R.pn (pc' := 111) (L' := [some ((.ref a0)), some (.int i1), some (.int i2), some (.int i3), some (.int i4), some (.int i5), some (.int i6), some (.int i7), some (.int (i5 + (1 : Int32)))]) (st' := []) 4 rfl H
  · replace H := H.2 (of_decide_eq_false c)
    refine mm_R.br (L' := [some ((.ref a0)), some (.int i1), some (.int i2), some (.int i3), some (.int i4), some (.int i5), some (.int i6), some (.int i7), o8]) (st' := []) (t := 94) (u := 67) (b := mm_cc .eq i4 (1 : Int32)) 3 rfl (fun c => ?_) (fun c => ?_)
    · replace H := H.1 (of_decide_eq_true c)
      refine mm_R.br (L' := [some ((.ref a0)), some (.int i1), some (.int i2), some (.int i3), some (.int i4), some (.int i5), some (.int i6), some (.int i7), o8]) (st' := []) (t := 156) (u := 99) (b := mm_cc .eq i7 (0 : Int32)) 2 rfl (fun c => ?_) (fun c => ?_)
      · replace H := H.1 (of_decide_eq_true c)
        exact H
      · replace H := H.2 (of_decide_eq_false c)
        refine mm_R.br (L' := [some ((.ref a0)), some (.int i1), some (.int i2), some (.int i3), some (.int i4), some (.int i5), some (.int i6), some (.int i7), o8]) (st' := []) (t := 156) (u := 105) (b := mm_cc .ne i4 (2 : Int32)) 3 rfl (fun c => ?_) (fun c => ?_)
        · replace H := H.1 (of_decide_eq_true c)
          exact H
        · replace H := H.2 (Decidable.of_not_not (of_decide_eq_false c))
          exact mm_R.pn (pc' := 111) (L' := [some ((.ref a0)), some (.int i1), some (.int i2), some (.int i3), some (.int i4), some (.int i5), some (.int i6), some (.int i7), some (.int (i5 + (1 : Int32)))]) (st' := []) 4 rfl H
    · replace H := H.2 (of_decide_eq_false c)
      obtain ⟨hc1, H⟩ := H
      refine mm_R.cV (pc' := 69) (L' := [some ((.ref a0)), some (.int i1), some (.int i2), some (.int i3), some (.int i4), some (.int i5), some (.int i6), some (.int i7), o8]) (st1 := [.int i1, (.ref a0)]) (as := [.int i1]) (rest := []) 2 rfl rfl (mw_sp rfl rfl (Nat.le_of_ble_eq_true rfl) (mw_ac rfl (mw_ac rfl mw_an)) mw_an) rfl rfl hc1 (H.mono (fun o hp2 H => ?_))
      obtain ⟨x3, rfl, H⟩ := H
      refine mm_R.br (L' := [some ((.ref a0)), some (.int i1), some (.int i2), some (.int i3), some (.int i4), some (.int i5), some (.int i6), some (.int i7), o8]) (st' := []) (t := 77) (u := 75) (b := mm_cc .ne x3 (0 : Int32)) 1 rfl (fun c => ?_) (fun c => ?_)
      · replace H := H.1 (of_decide_eq_true c)
        obtain ⟨hc4, H⟩ := H
        refine mm_R.cV (pc' := 80) (L' := [some ((.ref a0)), some (.int i1), some (.int i2), some (.int i3), some (.int i4), some (.int i5), some (.int i6), some (.int i7), o8]) (st1 := [.int (45 : Int32), (.ref a0)]) (as := [.int (45 : Int32)]) (rest := []) 2 rfl rfl (mw_sp rfl rfl (Nat.le_of_ble_eq_true rfl) (mw_ac rfl (mw_ac rfl mw_an)) mw_an) rfl rfl hc4 (H.mono (fun o hp5 H => ?_))
        obtain ⟨rfl, H⟩ := H
        obtain ⟨hc6, H⟩ := H
        refine mm_R.cV (pc' := 86) (L' := [some ((.ref a0)), some (.int i1), some (.int i2), some (.int i3), some (.int i4), some (.int i5), some (.int i6), some (.int i7), o8]) (st1 := [.int ((Int32.toUInt32 i3 % 65536).toInt32), (.ref a0)]) (as := [.int ((Int32.toUInt32 i3 % 65536).toInt32)]) (rest := []) 3 rfl rfl (mw_sp rfl rfl (Nat.le_of_ble_eq_true rfl) (mw_ac rfl (mw_ac rfl mw_an)) mw_an) rfl rfl hc6 (H.mono (fun o hp7 H => ?_))
        obtain ⟨rfl, H⟩ := H
        obtain ⟨hc8, H⟩ := H
        refine mm_R.cV (pc' := 91) (L' := [some ((.ref a0)), some (.int i1), some (.int i2), some (.int i3), some (.int i4), some (.int i5), some (.int i6), some (.int i7), o8]) (st1 := [.int i1, (.ref a0)]) (as := [.int i1]) (rest := []) 2 rfl rfl (mw_sp rfl rfl (Nat.le_of_ble_eq_true rfl) (mw_ac rfl (mw_ac rfl mw_an)) mw_an) rfl rfl hc8 (H.mono (fun o hp9 H => ?_))
        obtain ⟨rfl, H⟩ := H
        refine mm_R.br (L' := [some ((.ref a0)), some (.int i1), some (.int i2), some (.int i3), some (.int i4), some (.int i5), some (.int i6), some (.int i7), o8]) (st' := []) (t := 156) (u := 99) (b := mm_cc .eq i7 (0 : Int32)) 2 rfl (fun c => ?_) (fun c => ?_)
        · replace H := H.1 (of_decide_eq_true c)
          exact H
        · replace H := H.2 (of_decide_eq_false c)
          refine mm_R.br (L' := [some ((.ref a0)), some (.int i1), some (.int i2), some (.int i3), some (.int i4), some (.int i5), some (.int i6), some (.int i7), o8]) (st' := []) (t := 156) (u := 105) (b := mm_cc .ne i4 (2 : Int32)) 3 rfl (fun c => ?_) (fun c => ?_)
          · replace H := H.1 (of_decide_eq_true c)
            exact H
          · replace H := H.2 (Decidable.of_not_not (of_decide_eq_false c))
            exact mm_R.pn (pc' := 111) (L' := [some ((.ref a0)), some (.int i1), some (.int i2), some (.int i3), some (.int i4), some (.int i5), some (.int i6), some (.int i7), some (.int (i5 + (1 : Int32)))]) (st' := []) 4 rfl H
      · replace H := H.2 (Decidable.of_not_not (of_decide_eq_false c))
        exact mm_R.rt (pc' := 76) (L' := [some ((.ref a0)), some (.int i1), some (.int i2), some (.int i3), some (.int i4), some (.int i5), some (.int i6), some (.int i7), o8]) (st1 := [.int (0 : Int32)]) 1 rfl rfl rfl rfl rfl rfl H
-- StepRunnerModel.worded, from 111
set_option maxRecDepth 10000 in
theorem w190_111 {X : List Int32} {d : Nat} {a0 : Nat} {i1 : Int32} {i2 : Int32} {i3 : Int32} {i4 : Int32} {i5 : Int32} {i6 : Int32} {i7 : Int32} {i8 : Int32} {hp : mm_H} {Q : Option Value → mm_H → Prop} (H : ((i6 ≤ i8 → Q (some (.int (1 : Int32))) hp) ∧ (¬ i6 ≤ i8 → mw_rc (.ref a0) 191 hp ∧ mm_R X d 191 0 (mm_L0 191 [(.ref a0), .int i1]) [] hp (mw_ri (fun x3 hp2 => ((¬ x3 = (0 : Int32) → mw_rc (.ref a0) 182 hp2 ∧ mm_R X d 182 0 (mm_L0 182 [(.ref a0), .int i8, .int i6]) [] hp2 (mw_r0 (fun hp5 => mw_rc (.ref a0) 192 hp5 ∧ mm_R X d 192 0 (mm_L0 192 [(.ref a0), .int i1]) [] hp5 (mw_r0 (fun hp7 => mw_rc (.ref a0) 147 hp7 ∧ mm_R X d 147 0 (mm_L0 147 [(.ref a0), .int i8, .int i6]) [] hp7 (mw_ri (fun x10 hp9 => mm_R X (d + 1) 190 111 [some ((.ref a0)), some (.int i1), some (.int i2), some (.int i3), some (.int i4), some (.int i5), some (.int i6), some (.int i7), some (.int x10)] [] hp9 Q))))))) ∧ (x3 = (0 : Int32) → Q (some (.int (0 : Int32))) hp2))))))) : mm_R X (d + 1) 190 111 [some ((.ref a0)), some (.int i1), some (.int i2), some (.int i3), some (.int i4), some (.int i5), some (.int i6), some (.int i7), some (.int i8)] [] hp Q := by
  refine mm_R.br (L' := [some ((.ref a0)), some (.int i1), some (.int i2), some (.int i3), some (.int i4), some (.int i5), some (.int i6), some (.int i7), some (.int i8)]) (st' := []) (t := 154) (u := 118) (b := mm_cc .ge i8 i6) 3 rfl (fun c => ?_) (fun c => ?_)
  · replace H := H.1 (of_decide_eq_true c)
    exact mm_R.rt (pc' := 155) (L' := [some ((.ref a0)), some (.int i1), some (.int i2), some (.int i3), some (.int i4), some (.int i5), some (.int i6), some (.int i7), some (.int i8)]) (st1 := [.int (1 : Int32)]) 1 rfl rfl rfl rfl rfl rfl H
  · replace H := H.2 (of_decide_eq_false c)
    obtain ⟨hc1, H⟩ := H
    refine mm_R.cV (pc' := 120) (L' := [some ((.ref a0)), some (.int i1), some (.int i2), some (.int i3), some (.int i4), some (.int i5), some (.int i6), some (.int i7), some (.int i8)]) (st1 := [.int i1, (.ref a0)]) (as := [.int i1]) (rest := []) 2 rfl rfl (mw_sp rfl rfl (Nat.le_of_ble_eq_true rfl) (mw_ac rfl (mw_ac rfl mw_an)) mw_an) rfl rfl hc1 (H.mono (fun o hp2 H => ?_))
    obtain ⟨x3, rfl, H⟩ := H
    refine mm_R.br (L' := [some ((.ref a0)), some (.int i1), some (.int i2), some (.int i3), some (.int i4), some (.int i5), some (.int i6), some (.int i7), some (.int i8)]) (st' := []) (t := 128) (u := 126) (b := mm_cc .ne x3 (0 : Int32)) 1 rfl (fun c => ?_) (fun c => ?_)
    · replace H := H.1 (of_decide_eq_true c)
      obtain ⟨hc4, H⟩ := H
      refine mm_R.cV (pc' := 133) (L' := [some ((.ref a0)), some (.int i1), some (.int i2), some (.int i3), some (.int i4), some (.int i5), some (.int i6), some (.int i7), some (.int i8)]) (st1 := [.int i6, .int i8, (.ref a0)]) (as := [.int i8, .int i6]) (rest := []) 3 rfl rfl (mw_sp rfl rfl (Nat.le_of_ble_eq_true rfl) (mw_ac rfl (mw_ac rfl (mw_ac rfl mw_an))) mw_an) rfl rfl hc4 (H.mono (fun o hp5 H => ?_))
      obtain ⟨rfl, H⟩ := H
      obtain ⟨hc6, H⟩ := H
      refine mm_R.cV (pc' := 138) (L' := [some ((.ref a0)), some (.int i1), some (.int i2), some (.int i3), some (.int i4), some (.int i5), some (.int i6), some (.int i7), some (.int i8)]) (st1 := [.int i1, (.ref a0)]) (as := [.int i1]) (rest := []) 2 rfl rfl (mw_sp rfl rfl (Nat.le_of_ble_eq_true rfl) (mw_ac rfl (mw_ac rfl mw_an)) mw_an) rfl rfl hc6 (H.mono (fun o hp7 H => ?_))
      obtain ⟨rfl, H⟩ := H
      obtain ⟨hc8, H⟩ := H
      refine mm_R.cV (pc' := 146) (L' := [some ((.ref a0)), some (.int i1), some (.int i2), some (.int i3), some (.int i4), some (.int i5), some (.int i6), some (.int i7), some (.int i8)]) (st1 := [.int i6, .int i8, (.ref a0)]) (as := [.int i8, .int i6]) (rest := []) 3 rfl rfl (mw_sp rfl rfl (Nat.le_of_ble_eq_true rfl) (mw_ac rfl (mw_ac rfl (mw_ac rfl mw_an))) mw_an) rfl rfl hc8 (H.mono (fun o hp9 H => ?_))
      obtain ⟨x10, rfl, H⟩ := H
      exact mm_R.pn (pc' := 111) (L' := [some ((.ref a0)), some (.int i1), some (.int i2), some (.int i3), some (.int i4), some (.int i5), some (.int i6), some (.int i7), some (.int x10)]) (st' := []) 2 rfl H
    · replace H := H.2 (Decidable.of_not_not (of_decide_eq_false c))
      exact mm_R.rt (pc' := 127) (L' := [some ((.ref a0)), some (.int i1), some (.int i2), some (.int i3), some (.int i4), some (.int i5), some (.int i6), some (.int i7), some (.int i8)]) (st1 := [.int (0 : Int32)]) 1 rfl rfl rfl rfl rfl rfl H
-- StepRunnerModel.worded, from 156
set_option maxRecDepth 10000 in
theorem w190_156 {X : List Int32} {d : Nat} {a0 : Nat} {i1 : Int32} {i2 : Int32} {i3 : Int32} {i4 : Int32} {i5 : Int32} {i6 : Int32} {i7 : Int32} {o8 : Option Value} {hp : mm_H} {Q : Option Value → mm_H → Prop} (H : mw_rc (.ref a0) 191 hp ∧ mm_R X d 191 0 (mm_L0 191 [(.ref a0), .int i1]) [] hp (mw_ri (fun x3 hp2 => ((¬ x3 = (0 : Int32) → ((i3 = (0 : Int32) → mm_R X (d + 1) 190 194 [some ((.ref a0)), some (.int i1), some (.int i2), some (.int i3), some (.int i4), some (.int i5), some (.int i6), some (.int i7), some (.int (i5 + (1 : Int32)))] [] hp2 Q) ∧ (¬ i3 = (0 : Int32) → ((¬ i4 = (1 : Int32) → mm_R X (d + 1) 190 194 [some ((.ref a0)), some (.int i1), some (.int i2), some (.int i3), some (.int i4), some (.int i5), some (.int i6), some (.int i7), some (.int (i5 + (1 : Int32)))] [] hp2 Q) ∧ (i4 = (1 : Int32) → mw_rc (.ref a0) 184 hp2 ∧ mm_R X d 184 0 (mm_L0 184 [(.ref a0), .int (45 : Int32)]) [] hp2 (mw_r0 (fun hp5 => mw_rc (.ref a0) 184 hp5 ∧ mm_R X d 184 0 (mm_L0 184 [(.ref a0), .int ((Int32.toUInt32 i3 % 65536).toInt32)]) [] hp5 (mw_r0 (fun hp7 => mm_R X (d + 1) 190 194 [some ((.ref a0)), some (.int i1), some (.int i2), some (.int i3), some (.int i4), some (.int i5), some (.int i6), some (.int i7), some (.int (i5 + (1 : Int32)))] [] hp7 Q))))))))) ∧ (x3 = (0 : Int32) → Q (some (.int (0 : Int32))) hp2))))) : mm_R X (d + 1) 190 156 [some ((.ref a0)), some (.int i1), some (.int i2), some (.int i3), some (.int i4), some (.int i5), some (.int i6), some (.int i7), o8] [] hp Q := by
  obtain ⟨hc1, H⟩ := H
  refine mm_R.cV (pc' := 158) (L' := [some ((.ref a0)), some (.int i1), some (.int i2), some (.int i3), some (.int i4), some (.int i5), some (.int i6), some (.int i7), o8]) (st1 := [.int i1, (.ref a0)]) (as := [.int i1]) (rest := []) 2 rfl rfl (mw_sp rfl rfl (Nat.le_of_ble_eq_true rfl) (mw_ac rfl (mw_ac rfl mw_an)) mw_an) rfl rfl hc1 (H.mono (fun o hp2 H => ?_))
  obtain ⟨x3, rfl, H⟩ := H
  refine mm_R.br (L' := [some ((.ref a0)), some (.int i1), some (.int i2), some (.int i3), some (.int i4), some (.int i5), some (.int i6), some (.int i7), o8]) (st' := []) (t := 166) (u := 164) (b := mm_cc .ne x3 (0 : Int32)) 1 rfl (fun c => ?_) (fun c => ?_)
  · replace H := H.1 (of_decide_eq_true c)
    refine mm_R.br (L' := [some ((.ref a0)), some (.int i1), some (.int i2), some (.int i3), some (.int i4), some (.int i5), some (.int i6), some (.int i7), o8]) (st' := []) (t := 188) (u := 170) (b := mm_cc .eq i3 (0 : Int32)) 2 rfl (fun c => ?_) (fun c => ?_)
    · replace H := H.1 (of_decide_eq_true c)
      exact mm_R.pn (pc' := 194) (L' := [some ((.ref a0)), some (.int i1), some (.int i2), some (.int i3), some (.int i4), some (.int i5), some (.int i6), some (.int i7), some (.int (i5 + (1 : Int32)))]) (st' := []) 4 rfl H
    · replace H := H.2 (of_decide_eq_false c)
      refine mm_R.br (L' := [some ((.ref a0)), some (.int i1), some (.int i2), some (.int i3), some (.int i4), some (.int i5), some (.int i6), some (.int i7), o8]) (st' := []) (t := 188) (u := 176) (b := mm_cc .ne i4 (1 : Int32)) 3 rfl (fun c => ?_) (fun c => ?_)
      · replace H := H.1 (of_decide_eq_true c)
        exact mm_R.pn (pc' := 194) (L' := [some ((.ref a0)), some (.int i1), some (.int i2), some (.int i3), some (.int i4), some (.int i5), some (.int i6), some (.int i7), some (.int (i5 + (1 : Int32)))]) (st' := []) 4 rfl H
      · replace H := H.2 (Decidable.of_not_not (of_decide_eq_false c))
        obtain ⟨hc4, H⟩ := H
        refine mm_R.cV (pc' := 179) (L' := [some ((.ref a0)), some (.int i1), some (.int i2), some (.int i3), some (.int i4), some (.int i5), some (.int i6), some (.int i7), o8]) (st1 := [.int (45 : Int32), (.ref a0)]) (as := [.int (45 : Int32)]) (rest := []) 2 rfl rfl (mw_sp rfl rfl (Nat.le_of_ble_eq_true rfl) (mw_ac rfl (mw_ac rfl mw_an)) mw_an) rfl rfl hc4 (H.mono (fun o hp5 H => ?_))
        obtain ⟨rfl, H⟩ := H
        obtain ⟨hc6, H⟩ := H
        refine mm_R.cV (pc' := 185) (L' := [some ((.ref a0)), some (.int i1), some (.int i2), some (.int i3), some (.int i4), some (.int i5), some (.int i6), some (.int i7), o8]) (st1 := [.int ((Int32.toUInt32 i3 % 65536).toInt32), (.ref a0)]) (as := [.int ((Int32.toUInt32 i3 % 65536).toInt32)]) (rest := []) 3 rfl rfl (mw_sp rfl rfl (Nat.le_of_ble_eq_true rfl) (mw_ac rfl (mw_ac rfl mw_an)) mw_an) rfl rfl hc6 (H.mono (fun o hp7 H => ?_))
        obtain ⟨rfl, H⟩ := H
        exact mm_R.pn (pc' := 194) (L' := [some ((.ref a0)), some (.int i1), some (.int i2), some (.int i3), some (.int i4), some (.int i5), some (.int i6), some (.int i7), some (.int (i5 + (1 : Int32)))]) (st' := []) 4 rfl H
  · replace H := H.2 (Decidable.of_not_not (of_decide_eq_false c))
    exact mm_R.rt (pc' := 165) (L' := [some ((.ref a0)), some (.int i1), some (.int i2), some (.int i3), some (.int i4), some (.int i5), some (.int i6), some (.int i7), o8]) (st1 := [.int (0 : Int32)]) 1 rfl rfl rfl rfl rfl rfl H
-- StepRunnerModel.worded, from 194
set_option maxRecDepth 10000 in
theorem w190_194 {X : List Int32} {d : Nat} {a0 : Nat} {i1 : Int32} {i2 : Int32} {i3 : Int32} {i4 : Int32} {i5 : Int32} {i6 : Int32} {i7 : Int32} {i8 : Int32} {hp : mm_H} {Q : Option Value → mm_H → Prop} (H : ((i6 ≤ i8 → mm_R X (d + 1) 190 248 [some ((.ref a0)), some (.int i1), some (.int i2), some (.int i3), some (.int i4), some (.int i5), some (.int i6), some (.int i7), some (.int i8)] [] hp Q) ∧ (¬ i6 ≤ i8 → ((i7 = (0 : Int32) → mm_R X (d + 1) 190 248 [some ((.ref a0)), some (.int i1), some (.int i2), some (.int i3), some (.int i4), some (.int i5), some (.int i6), some (.int i7), some (.int i8)] [] hp Q) ∧ (¬ i7 = (0 : Int32) → ((¬ i4 = (3 : Int32) → mm_R X (d + 1) 190 248 [some ((.ref a0)), some (.int i1), some (.int i2), some (.int i3), some (.int i4), some (.int i5), some (.int i6), some (.int i7), some (.int i8)] [] hp Q) ∧ (i4 = (3 : Int32) → ((i8 ≤ (i5 + (1 : Int32)) → mw_rc (.ref a0) 182 hp ∧ mm_R X d 182 0 (mm_L0 182 [(.ref a0), .int i8, .int i6]) [] hp (mw_r0 (fun hp2 => mw_rc (.ref a0) 147 hp2 ∧ mm_R X d 147 0 (mm_L0 147 [(.ref a0), .int i8, .int i6]) [] hp2 (mw_ri (fun x5 hp4 => mm_R X (d + 1) 190 194 [some ((.ref a0)), some (.int i1), some (.int i2), some (.int i3), some (.int i4), some (.int i5), some (.int i6), some (.int i7), some (.int x5)] [] hp4 Q))))) ∧ (¬ i8 ≤ (i5 + (1 : Int32)) → mw_rc (.ref a0) 184 hp ∧ mm_R X d 184 0 (mm_L0 184 [(.ref a0), .int (44 : Int32)]) [] hp (mw_r0 (fun hp7 => mw_rc (.ref a0) 182 hp7 ∧ mm_R X d 182 0 (mm_L0 182 [(.ref a0), .int i8, .int i6]) [] hp7 (mw_r0 (fun hp9 => mw_rc (.ref a0) 147 hp9 ∧ mm_R X d 147 0 (mm_L0 147 [(.ref a0), .int i8, .int i6]) [] hp9 (mw_ri (fun x12 hp11 => mm_R X (d + 1) 190 194 [some ((.ref a0)), some (.int i1), some (.int i2), some (.int i3), some (.int i4), some (.int i5), some (.int i6), some (.int i7), some (.int x12)] [] hp11 Q))))))))))))))) : mm_R X (d + 1) 190 194 [some ((.ref a0)), some (.int i1), some (.int i2), some (.int i3), some (.int i4), some (.int i5), some (.int i6), some (.int i7), some (.int i8)] [] hp Q := by
  refine mm_R.br (L' := [some ((.ref a0)), some (.int i1), some (.int i2), some (.int i3), some (.int i4), some (.int i5), some (.int i6), some (.int i7), some (.int i8)]) (st' := []) (t := 248) (u := 201) (b := mm_cc .ge i8 i6) 3 rfl (fun c => ?_) (fun c => ?_)
  · replace H := H.1 (of_decide_eq_true c)
    exact H
  · replace H := H.2 (of_decide_eq_false c)
    refine mm_R.br (L' := [some ((.ref a0)), some (.int i1), some (.int i2), some (.int i3), some (.int i4), some (.int i5), some (.int i6), some (.int i7), some (.int i8)]) (st' := []) (t := 248) (u := 206) (b := mm_cc .eq i7 (0 : Int32)) 2 rfl (fun c => ?_) (fun c => ?_)
    · replace H := H.1 (of_decide_eq_true c)
      exact H
    · replace H := H.2 (of_decide_eq_false c)
      refine mm_R.br (L' := [some ((.ref a0)), some (.int i1), some (.int i2), some (.int i3), some (.int i4), some (.int i5), some (.int i6), some (.int i7), some (.int i8)]) (st' := []) (t := 248) (u := 212) (b := mm_cc .ne i4 (3 : Int32)) 3 rfl (fun c => ?_) (fun c => ?_)
      · replace H := H.1 (of_decide_eq_true c)
        exact H
      · replace H := H.2 (Decidable.of_not_not (of_decide_eq_false c))
        refine mm_R.br (L' := [some ((.ref a0)), some (.int i1), some (.int i2), some (.int i3), some (.int i4), some (.int i5), some (.int i6), some (.int i7), some (.int i8)]) (st' := []) (t := 227) (u := 221) (b := mm_cc .le i8 (i5 + (1 : Int32))) 5 rfl (fun c => ?_) (fun c => ?_)
        · replace H := H.1 (of_decide_eq_true c)
          obtain ⟨hc1, H⟩ := H
          refine mm_R.cV (pc' := 232) (L' := [some ((.ref a0)), some (.int i1), some (.int i2), some (.int i3), some (.int i4), some (.int i5), some (.int i6), some (.int i7), some (.int i8)]) (st1 := [.int i6, .int i8, (.ref a0)]) (as := [.int i8, .int i6]) (rest := []) 3 rfl rfl (mw_sp rfl rfl (Nat.le_of_ble_eq_true rfl) (mw_ac rfl (mw_ac rfl (mw_ac rfl mw_an))) mw_an) rfl rfl hc1 (H.mono (fun o hp2 H => ?_))
          obtain ⟨rfl, H⟩ := H
          obtain ⟨hc3, H⟩ := H
          refine mm_R.cV (pc' := 240) (L' := [some ((.ref a0)), some (.int i1), some (.int i2), some (.int i3), some (.int i4), some (.int i5), some (.int i6), some (.int i7), some (.int i8)]) (st1 := [.int i6, .int i8, (.ref a0)]) (as := [.int i8, .int i6]) (rest := []) 3 rfl rfl (mw_sp rfl rfl (Nat.le_of_ble_eq_true rfl) (mw_ac rfl (mw_ac rfl (mw_ac rfl mw_an))) mw_an) rfl rfl hc3 (H.mono (fun o hp4 H => ?_))
          obtain ⟨x5, rfl, H⟩ := H
          exact mm_R.pn (pc' := 194) (L' := [some ((.ref a0)), some (.int i1), some (.int i2), some (.int i3), some (.int i4), some (.int i5), some (.int i6), some (.int i7), some (.int x5)]) (st' := []) 2 rfl H
        · replace H := H.2 (of_decide_eq_false c)
          obtain ⟨hc6, H⟩ := H
          refine mm_R.cV (pc' := 224) (L' := [some ((.ref a0)), some (.int i1), some (.int i2), some (.int i3), some (.int i4), some (.int i5), some (.int i6), some (.int i7), some (.int i8)]) (st1 := [.int (44 : Int32), (.ref a0)]) (as := [.int (44 : Int32)]) (rest := []) 2 rfl rfl (mw_sp rfl rfl (Nat.le_of_ble_eq_true rfl) (mw_ac rfl (mw_ac rfl mw_an)) mw_an) rfl rfl hc6 (H.mono (fun o hp7 H => ?_))
          obtain ⟨rfl, H⟩ := H
          obtain ⟨hc8, H⟩ := H
          refine mm_R.cV (pc' := 232) (L' := [some ((.ref a0)), some (.int i1), some (.int i2), some (.int i3), some (.int i4), some (.int i5), some (.int i6), some (.int i7), some (.int i8)]) (st1 := [.int i6, .int i8, (.ref a0)]) (as := [.int i8, .int i6]) (rest := []) 3 rfl rfl (mw_sp rfl rfl (Nat.le_of_ble_eq_true rfl) (mw_ac rfl (mw_ac rfl (mw_ac rfl mw_an))) mw_an) rfl rfl hc8 (H.mono (fun o hp9 H => ?_))
          obtain ⟨rfl, H⟩ := H
          obtain ⟨hc10, H⟩ := H
          refine mm_R.cV (pc' := 240) (L' := [some ((.ref a0)), some (.int i1), some (.int i2), some (.int i3), some (.int i4), some (.int i5), some (.int i6), some (.int i7), some (.int i8)]) (st1 := [.int i6, .int i8, (.ref a0)]) (as := [.int i8, .int i6]) (rest := []) 3 rfl rfl (mw_sp rfl rfl (Nat.le_of_ble_eq_true rfl) (mw_ac rfl (mw_ac rfl (mw_ac rfl mw_an))) mw_an) rfl rfl hc10 (H.mono (fun o hp11 H => ?_))
          obtain ⟨x12, rfl, H⟩ := H
          exact mm_R.pn (pc' := 194) (L' := [some ((.ref a0)), some (.int i1), some (.int i2), some (.int i3), some (.int i4), some (.int i5), some (.int i6), some (.int i7), some (.int x12)]) (st' := []) 2 rfl H
-- StepRunnerModel.worded, from 248
set_option maxRecDepth 10000 in
theorem w190_248 {X : List Int32} {d : Nat} {a0 : Nat} {i1 : Int32} {i2 : Int32} {i3 : Int32} {i4 : Int32} {i5 : Int32} {i6 : Int32} {i7 : Int32} {i8 : Int32} {hp : mm_H} {Q : Option Value → mm_H → Prop} (H : ((i7 = (0 : Int32) → mw_rc (.ref a0) 182 hp ∧ mm_R X d 182 0 (mm_L0 182 [(.ref a0), .int i5, .int i6]) [] hp (mw_r0 (fun hp2 => mw_rc (.ref a0) 192 hp2 ∧ mm_R X d 192 0 (mm_L0 192 [(.ref a0), .int i1]) [] hp2 (mw_r0 (fun hp4 => Q (some (.int (1 : Int32))) hp4))))) ∧ (¬ i7 = (0 : Int32) → ((i4 = (3 : Int32) → mw_rc (.ref a0) 192 hp ∧ mm_R X d 192 0 (mm_L0 192 [(.ref a0), .int i1]) [] hp (mw_r0 (fun hp6 => Q (some (.int (1 : Int32))) hp6))) ∧ (¬ i4 = (3 : Int32) → mw_rc (.ref a0) 182 hp ∧ mm_R X d 182 0 (mm_L0 182 [(.ref a0), .int i5, .int i6]) [] hp (mw_r0 (fun hp8 => mw_rc (.ref a0) 192 hp8 ∧ mm_R X d 192 0 (mm_L0 192 [(.ref a0), .int i1]) [] hp8 (mw_r0 (fun hp10 => Q (some (.int (1 : Int32))) hp10))))))))) : mm_R X (d + 1) 190 248 [some ((.ref a0)), some (.int i1), some (.int i2), some (.int i3), some (.int i4), some (.int i5), some (.int i6), some (.int i7), some (.int i8)] [] hp Q := by
  refine mm_R.br (L' := [some ((.ref a0)), some (.int i1), some (.int i2), some (.int i3), some (.int i4), some (.int i5), some (.int i6), some (.int i7), some (.int i8)]) (st' := []) (t := 259) (u := 253) (b := mm_cc .eq i7 (0 : Int32)) 2 rfl (fun c => ?_) (fun c => ?_)
  · replace H := H.1 (of_decide_eq_true c)
    obtain ⟨hc1, H⟩ := H
    refine mm_R.cV (pc' := 264) (L' := [some ((.ref a0)), some (.int i1), some (.int i2), some (.int i3), some (.int i4), some (.int i5), some (.int i6), some (.int i7), some (.int i8)]) (st1 := [.int i6, .int i5, (.ref a0)]) (as := [.int i5, .int i6]) (rest := []) 3 rfl rfl (mw_sp rfl rfl (Nat.le_of_ble_eq_true rfl) (mw_ac rfl (mw_ac rfl (mw_ac rfl mw_an))) mw_an) rfl rfl hc1 (H.mono (fun o hp2 H => ?_))
    obtain ⟨rfl, H⟩ := H
    obtain ⟨hc3, H⟩ := H
    refine mm_R.cV (pc' := 269) (L' := [some ((.ref a0)), some (.int i1), some (.int i2), some (.int i3), some (.int i4), some (.int i5), some (.int i6), some (.int i7), some (.int i8)]) (st1 := [.int i1, (.ref a0)]) (as := [.int i1]) (rest := []) 2 rfl rfl (mw_sp rfl rfl (Nat.le_of_ble_eq_true rfl) (mw_ac rfl (mw_ac rfl mw_an)) mw_an) rfl rfl hc3 (H.mono (fun o hp4 H => ?_))
    obtain ⟨rfl, H⟩ := H
    exact mm_R.rt (pc' := 273) (L' := [some ((.ref a0)), some (.int i1), some (.int i2), some (.int i3), some (.int i4), some (.int i5), some (.int i6), some (.int i7), some (.int i8)]) (st1 := [.int (1 : Int32)]) 1 rfl rfl rfl rfl rfl rfl H
  · replace H := H.2 (of_decide_eq_false c)
    refine mm_R.br (L' := [some ((.ref a0)), some (.int i1), some (.int i2), some (.int i3), some (.int i4), some (.int i5), some (.int i6), some (.int i7), some (.int i8)]) (st' := []) (t := 267) (u := 259) (b := mm_cc .eq i4 (3 : Int32)) 3 rfl (fun c => ?_) (fun c => ?_)
    · replace H := H.1 (of_decide_eq_true c)
      obtain ⟨hc5, H⟩ := H
      refine mm_R.cV (pc' := 269) (L' := [some ((.ref a0)), some (.int i1), some (.int i2), some (.int i3), some (.int i4), some (.int i5), some (.int i6), some (.int i7), some (.int i8)]) (st1 := [.int i1, (.ref a0)]) (as := [.int i1]) (rest := []) 2 rfl rfl (mw_sp rfl rfl (Nat.le_of_ble_eq_true rfl) (mw_ac rfl (mw_ac rfl mw_an)) mw_an) rfl rfl hc5 (H.mono (fun o hp6 H => ?_))
      obtain ⟨rfl, H⟩ := H
      exact mm_R.rt (pc' := 273) (L' := [some ((.ref a0)), some (.int i1), some (.int i2), some (.int i3), some (.int i4), some (.int i5), some (.int i6), some (.int i7), some (.int i8)]) (st1 := [.int (1 : Int32)]) 1 rfl rfl rfl rfl rfl rfl H
    · replace H := H.2 (of_decide_eq_false c)
      obtain ⟨hc7, H⟩ := H
      refine mm_R.cV (pc' := 264) (L' := [some ((.ref a0)), some (.int i1), some (.int i2), some (.int i3), some (.int i4), some (.int i5), some (.int i6), some (.int i7), some (.int i8)]) (st1 := [.int i6, .int i5, (.ref a0)]) (as := [.int i5, .int i6]) (rest := []) 3 rfl rfl (mw_sp rfl rfl (Nat.le_of_ble_eq_true rfl) (mw_ac rfl (mw_ac rfl (mw_ac rfl mw_an))) mw_an) rfl rfl hc7 (H.mono (fun o hp8 H => ?_))
      obtain ⟨rfl, H⟩ := H
      obtain ⟨hc9, H⟩ := H
      refine mm_R.cV (pc' := 269) (L' := [some ((.ref a0)), some (.int i1), some (.int i2), some (.int i3), some (.int i4), some (.int i5), some (.int i6), some (.int i7), some (.int i8)]) (st1 := [.int i1, (.ref a0)]) (as := [.int i1]) (rest := []) 2 rfl rfl (mw_sp rfl rfl (Nat.le_of_ble_eq_true rfl) (mw_ac rfl (mw_ac rfl mw_an)) mw_an) rfl rfl hc9 (H.mono (fun o hp10 H => ?_))
      obtain ⟨rfl, H⟩ := H
      exact mm_R.rt (pc' := 273) (L' := [some ((.ref a0)), some (.int i1), some (.int i2), some (.int i3), some (.int i4), some (.int i5), some (.int i6), some (.int i7), some (.int i8)]) (st1 := [.int (1 : Int32)]) 1 rfl rfl rfl rfl rfl rfl H
