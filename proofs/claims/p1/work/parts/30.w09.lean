-- StepRunner$Job.openWord, from 0
set_option maxRecDepth 10000 in
theorem w89_0 {X : List Int32} {d : Nat} {a0 : Nat} {hp : mm_H} {Q : Option Value → mm_H → Prop} (H : mw_gi 9 4 (.ref a0) hp (fun x1 => ((x1 < (8 : Int32) → mw_gv 9 3 (.ref a0) hp (fun v2 => mw_gi 9 4 (.ref a0) hp (fun x3 => mw_gi 9 5 (.ref a0) hp (fun x4 => mw_si 1000 .int v2 x3 x4 hp (fun hp5 => mw_gi 9 4 (.ref a0) hp5 (fun x6 => mw_pt 9 4 (.ref a0) (.int (x6 + (1 : Int32))) hp5 (fun hp7 => mw_gi 9 5 (.ref a0) hp7 (fun x8 => mw_pt 9 6 (.ref a0) (.int x8) hp7 (fun hp9 => Q (some (.int (1 : Int32))) hp9))))))))) ∧ (¬ x1 < (8 : Int32) → Q (some (.int (0 : Int32))) hp)))) : mm_R X (d + 1) 89 0 (mm_L0 89 [(.ref a0)]) [] hp Q := by
  show mm_R X (d + 1) 89 0 [some ((.ref a0))] [] hp Q
  refine mm_R.wgi (pc' := 1) (L' := [some ((.ref a0))]) (r := []) 1 rfl rfl (H.mono (fun x1 H => ?_))
  refine mm_R.br (L' := [some ((.ref a0))]) (st' := []) (t := 11) (u := 9) (b := mm_cc .lt x1 (8 : Int32)) 2 rfl (fun c => ?_) (fun c => ?_)
  · replace H := H.1 (of_decide_eq_true c)
    refine mm_R.wgv (pc' := 12) (L' := [some ((.ref a0))]) (r := []) 1 rfl rfl (H.mono (fun v2 H => ?_))
    refine mm_R.wgi (pc' := 16) (L' := [some ((.ref a0))]) (r := [v2]) 1 rfl rfl (H.mono (fun x3 H => ?_))
    refine mm_R.wgi (pc' := 20) (L' := [some ((.ref a0))]) (r := [.int x3, v2]) 1 rfl rfl (H.mono (fun x4 H => ?_))
    refine mm_R.wsi (pc' := 23) (L' := [some ((.ref a0))]) (r := []) (t := 1000) (ty := .int) 0 rfl rfl rfl rfl (H.mono (fun hp5 H => ?_))
    refine mm_R.wgi (pc' := 26) (L' := [some ((.ref a0))]) (r := [(.ref a0)]) 2 rfl rfl (H.mono (fun x6 H => ?_))
    refine mm_R.wpt (pc' := 31) (L' := [some ((.ref a0))]) (r := []) 2 rfl rfl (H.mono (fun hp7 H => ?_))
    refine mm_R.wgi (pc' := 36) (L' := [some ((.ref a0))]) (r := [(.ref a0)]) 2 rfl rfl (H.mono (fun x8 H => ?_))
    refine mm_R.wpt (pc' := 39) (L' := [some ((.ref a0))]) (r := []) 0 rfl rfl (H.mono (fun hp9 H => ?_))
    exact mm_R.rt (pc' := 43) (L' := [some ((.ref a0))]) (st1 := [.int (1 : Int32)]) 1 rfl rfl rfl rfl rfl rfl H
  · replace H := H.2 (of_decide_eq_false c)
    exact mm_R.rt (pc' := 10) (L' := [some ((.ref a0))]) (st1 := [.int (0 : Int32)]) 1 rfl rfl rfl rfl rfl rfl H
-- StepRunner$Job.addLetter, from 0
set_option maxRecDepth 10000 in
theorem w90_0 {X : List Int32} {d : Nat} {a0 : Nat} {i1 : Int32} {hp : mm_H} {Q : Option Value → mm_H → Prop} (H : mw_gi 9 4 (.ref a0) hp (fun x1 => (((x1 - (1 : Int32)) < (0 : Int32) → Q (some (.int (0 : Int32))) hp) ∧ (¬ (x1 - (1 : Int32)) < (0 : Int32) → (((8 : Int32) ≤ (x1 - (1 : Int32)) → Q (some (.int (0 : Int32))) hp) ∧ (¬ (8 : Int32) ≤ (x1 - (1 : Int32)) → mw_gi 9 5 (.ref a0) hp (fun x2 => mw_gv 9 2 (.ref a0) hp (fun v3 => mw_ln v3 hp (fun x4 => ((x2 < x4 → mw_gi 9 5 (.ref a0) hp (fun x5 => mw_gi 9 6 (.ref a0) hp (fun x6 => (((x5 - x6) < (24 : Int32) → mw_gv 9 2 (.ref a0) hp (fun v7 => mw_gi 9 5 (.ref a0) hp (fun x8 => mw_si 1001 .char v7 x8 i1 hp (fun hp9 => mw_gi 9 5 (.ref a0) hp9 (fun x10 => mw_pt 9 5 (.ref a0) (.int (x10 + (1 : Int32))) hp9 (fun hp11 => mw_gv 9 3 (.ref a0) hp11 (fun v12 => mw_gi 9 5 (.ref a0) hp11 (fun x13 => mw_si 1000 .int v12 (x1 - (1 : Int32)) x13 hp11 (fun hp14 => Q (some (.int (1 : Int32))) hp14))))))))) ∧ (¬ (x5 - x6) < (24 : Int32) → Q (some (.int (0 : Int32))) hp))))) ∧ (¬ x2 < x4 → Q (some (.int (0 : Int32))) hp))))))))))) : mm_R X (d + 1) 90 0 (mm_L0 90 [(.ref a0), .int i1]) [] hp Q := by
  show mm_R X (d + 1) 90 0 [some ((.ref a0)), some (.int i1), none] [] hp Q
  refine mm_R.wgi (pc' := 1) (L' := [some ((.ref a0)), some (.int i1), none]) (r := []) 1 rfl rfl (H.mono (fun x1 H => ?_))
  refine mm_R.br (L' := [some ((.ref a0)), some (.int i1), some (.int (x1 - (1 : Int32)))]) (st' := []) (t := 29) (u := 11) (b := mm_cc .lt (x1 - (1 : Int32)) (0 : Int32)) 5 rfl (fun c => ?_) (fun c => ?_)
  · replace H := H.1 (of_decide_eq_true c)
    exact mm_R.rt (pc' := 30) (L' := [some ((.ref a0)), some (.int i1), some (.int (x1 - (1 : Int32)))]) (st1 := [.int (0 : Int32)]) 1 rfl rfl rfl rfl rfl rfl H
  · replace H := H.2 (of_decide_eq_false c)
    refine mm_R.br (L' := [some ((.ref a0)), some (.int i1), some (.int (x1 - (1 : Int32)))]) (st' := []) (t := 29) (u := 17) (b := mm_cc .ge (x1 - (1 : Int32)) (8 : Int32)) 3 rfl (fun c => ?_) (fun c => ?_)
    · replace H := H.1 (of_decide_eq_true c)
      exact mm_R.rt (pc' := 30) (L' := [some ((.ref a0)), some (.int i1), some (.int (x1 - (1 : Int32)))]) (st1 := [.int (0 : Int32)]) 1 rfl rfl rfl rfl rfl rfl H
    · replace H := H.2 (of_decide_eq_false c)
      refine mm_R.wgi (pc' := 18) (L' := [some ((.ref a0)), some (.int i1), some (.int (x1 - (1 : Int32)))]) (r := []) 1 rfl rfl (H.mono (fun x2 H => ?_))
      refine mm_R.wgv (pc' := 22) (L' := [some ((.ref a0)), some (.int i1), some (.int (x1 - (1 : Int32)))]) (r := [.int x2]) 1 rfl rfl (H.mono (fun v3 H => ?_))
      refine mm_R.wln (pc' := 25) (L' := [some ((.ref a0)), some (.int i1), some (.int (x1 - (1 : Int32)))]) (r := [.int x2]) 0 rfl rfl (H.mono (fun x4 H => ?_))
      refine mm_R.br (L' := [some ((.ref a0)), some (.int i1), some (.int (x1 - (1 : Int32)))]) (st' := []) (t := 31) (u := 29) (b := mm_cc .lt x2 x4) 1 rfl (fun c => ?_) (fun c => ?_)
      · replace H := H.1 (of_decide_eq_true c)
        refine mm_R.wgi (pc' := 32) (L' := [some ((.ref a0)), some (.int i1), some (.int (x1 - (1 : Int32)))]) (r := []) 1 rfl rfl (H.mono (fun x5 H => ?_))
        refine mm_R.wgi (pc' := 36) (L' := [some ((.ref a0)), some (.int i1), some (.int (x1 - (1 : Int32)))]) (r := [.int x5]) 1 rfl rfl (H.mono (fun x6 H => ?_))
        refine mm_R.br (L' := [some ((.ref a0)), some (.int i1), some (.int (x1 - (1 : Int32)))]) (st' := []) (t := 47) (u := 45) (b := mm_cc .lt (x5 - x6) (24 : Int32)) 3 rfl (fun c => ?_) (fun c => ?_)
        · replace H := H.1 (of_decide_eq_true c)
          refine mm_R.wgv (pc' := 48) (L' := [some ((.ref a0)), some (.int i1), some (.int (x1 - (1 : Int32)))]) (r := []) 1 rfl rfl (H.mono (fun v7 H => ?_))
          refine mm_R.wgi (pc' := 52) (L' := [some ((.ref a0)), some (.int i1), some (.int (x1 - (1 : Int32)))]) (r := [v7]) 1 rfl rfl (H.mono (fun x8 H => ?_))
          refine mm_R.wsi (pc' := 56) (L' := [some ((.ref a0)), some (.int i1), some (.int (x1 - (1 : Int32)))]) (r := []) (t := 1001) (ty := .char) 1 rfl rfl rfl rfl (H.mono (fun hp9 H => ?_))
          refine mm_R.wgi (pc' := 59) (L' := [some ((.ref a0)), some (.int i1), some (.int (x1 - (1 : Int32)))]) (r := [(.ref a0)]) 2 rfl rfl (H.mono (fun x10 H => ?_))
          refine mm_R.wpt (pc' := 64) (L' := [some ((.ref a0)), some (.int i1), some (.int (x1 - (1 : Int32)))]) (r := []) 2 rfl rfl (H.mono (fun hp11 H => ?_))
          refine mm_R.wgv (pc' := 68) (L' := [some ((.ref a0)), some (.int i1), some (.int (x1 - (1 : Int32)))]) (r := []) 1 rfl rfl (H.mono (fun v12 H => ?_))
          refine mm_R.wgi (pc' := 73) (L' := [some ((.ref a0)), some (.int i1), some (.int (x1 - (1 : Int32)))]) (r := [.int (x1 - (1 : Int32)), v12]) 2 rfl rfl (H.mono (fun x13 H => ?_))
          refine mm_R.wsi (pc' := 76) (L' := [some ((.ref a0)), some (.int i1), some (.int (x1 - (1 : Int32)))]) (r := []) (t := 1000) (ty := .int) 0 rfl rfl rfl rfl (H.mono (fun hp14 H => ?_))
          exact mm_R.rt (pc' := 78) (L' := [some ((.ref a0)), some (.int i1), some (.int (x1 - (1 : Int32)))]) (st1 := [.int (1 : Int32)]) 1 rfl rfl rfl rfl rfl rfl H
        · replace H := H.2 (of_decide_eq_false c)
          exact mm_R.rt (pc' := 46) (L' := [some ((.ref a0)), some (.int i1), some (.int (x1 - (1 : Int32)))]) (st1 := [.int (0 : Int32)]) 1 rfl rfl rfl rfl rfl rfl H
      · replace H := H.2 (of_decide_eq_false c)
        exact mm_R.rt (pc' := 30) (L' := [some ((.ref a0)), some (.int i1), some (.int (x1 - (1 : Int32)))]) (st1 := [.int (0 : Int32)]) 1 rfl rfl rfl rfl rfl rfl H
-- StepRunner$Job.addPlain, from 0
set_option maxRecDepth 10000 in
theorem w91_0 {X : List Int32} {d : Nat} {a0 : Nat} {r1 : Value} {hp : mm_H} {Q : Option Value → mm_H → Prop} (H : mm_isr r1 = true ∧ mw_rc r1 80 hp ∧ mm_R X d 80 0 (mm_L0 80 [r1]) [] hp (mw_ri (fun x4 hp3 => mw_rc r1 81 hp3 ∧ mm_R X d 81 0 (mm_L0 81 [r1]) [] hp3 (mw_ri (fun x7 hp6 => (((x7 - x4) ≤ (24 : Int32) → mm_R X (d + 1) 91 23 [some ((.ref a0)), some (r1), some (.int x4), some (.int x7), some (.int x4)] [] hp6 Q) ∧ (¬ (x7 - x4) ≤ (24 : Int32) → Q (some (.int (0 : Int32))) hp6))))))) : mm_R X (d + 1) 91 0 (mm_L0 91 [(.ref a0), r1]) [] hp Q := by
  show mm_R X (d + 1) 91 0 [some ((.ref a0)), some (r1), none, none, none] [] hp Q
  obtain ⟨hr1, H⟩ := H
  refine mm_R.al (pc' := 0) (L' := [some ((.ref a0)), some (r1), none, none, none]) (r := []) (v := r1) 0 rfl rfl rfl rfl hr1 ?_
  obtain ⟨hc2, H⟩ := H
  refine mm_R.cV (pc' := 1) (L' := [some ((.ref a0)), some (r1), none, none, none]) (st1 := [r1]) (as := []) (rest := []) 0 rfl rfl (mw_sp rfl rfl (Nat.le_of_ble_eq_true rfl) (mw_ac (mw_c1 hc2.isr) mw_an) mw_an) rfl rfl hc2 (H.mono (fun o hp3 H => ?_))
  obtain ⟨x4, rfl, H⟩ := H
  refine mm_R.al (pc' := 5) (L' := [some ((.ref a0)), some (r1), some (.int x4), none, none]) (r := []) (v := r1) 1 rfl rfl rfl rfl hc2.isr ?_
  obtain ⟨hc5, H⟩ := H
  refine mm_R.cV (pc' := 6) (L' := [some ((.ref a0)), some (r1), some (.int x4), none, none]) (st1 := [r1]) (as := []) (rest := []) 0 rfl rfl (mw_sp rfl rfl (Nat.le_of_ble_eq_true rfl) (mw_ac (mw_c1 hc5.isr) mw_an) mw_an) rfl rfl hc5 (H.mono (fun o hp6 H => ?_))
  obtain ⟨x7, rfl, H⟩ := H
  refine mm_R.br (L' := [some ((.ref a0)), some (r1), some (.int x4), some (.int x7), none]) (st' := []) (t := 20) (u := 18) (b := mm_cc .le (x7 - x4) (24 : Int32)) 6 rfl (fun c => ?_) (fun c => ?_)
  · replace H := H.1 (of_decide_eq_true c)
    exact mm_R.pn (pc' := 23) (L' := [some ((.ref a0)), some (r1), some (.int x4), some (.int x7), some (.int x4)]) (st' := []) 2 rfl H
  · replace H := H.2 (of_decide_eq_false c)
    exact mm_R.rt (pc' := 19) (L' := [some ((.ref a0)), some (r1), some (.int x4), some (.int x7), none]) (st1 := [.int (0 : Int32)]) 1 rfl rfl rfl rfl rfl rfl H
-- StepRunner$Job.addPlain, from 23
set_option maxRecDepth 10000 in
theorem w91_23 {X : List Int32} {d : Nat} {a0 : Nat} {r1 : Value} {i2 : Int32} {i3 : Int32} {i4 : Int32} {hp : mm_H} {Q : Option Value → mm_H → Prop} (H : ((i3 ≤ i4 → Q (some (.int (1 : Int32))) hp) ∧ (¬ i3 ≤ i4 → mm_isr r1 = true ∧ mw_rc r1 82 hp ∧ mm_R X d 82 0 (mm_L0 82 [r1, .int i4]) [] hp (mw_ri (fun x4 hp3 => mw_rc (.ref a0) 90 hp3 ∧ mm_R X d 90 0 (mm_L0 90 [(.ref a0), .int ((Int32.toUInt32 x4 % 65536).toInt32)]) [] hp3 (mw_ri (fun x7 hp6 => ((¬ x7 = (0 : Int32) → mm_R X (d + 1) 91 23 [some ((.ref a0)), some (r1), some (.int i2), some (.int i3), some (.int (i4 + (1 : Int32)))] [] hp6 Q) ∧ (x7 = (0 : Int32) → Q (some (.int (0 : Int32))) hp6))))))))) : mm_R X (d + 1) 91 23 [some ((.ref a0)), some (r1), some (.int i2), some (.int i3), some (.int i4)] [] hp Q := by
  refine mm_R.br (L' := [some ((.ref a0)), some (r1), some (.int i2), some (.int i3), some (.int i4)]) (st' := []) (t := 51) (u := 29) (b := mm_cc .ge i4 i3) 3 rfl (fun c => ?_) (fun c => ?_)
  · replace H := H.1 (of_decide_eq_true c)
    exact mm_R.rt (pc' := 52) (L' := [some ((.ref a0)), some (r1), some (.int i2), some (.int i3), some (.int i4)]) (st1 := [.int (1 : Int32)]) 1 rfl rfl rfl rfl rfl rfl H
  · replace H := H.2 (of_decide_eq_false c)
    obtain ⟨hr1, H⟩ := H
    refine mm_R.al (pc' := 30) (L' := [some ((.ref a0)), some (r1), some (.int i2), some (.int i3), some (.int i4)]) (r := [(.ref a0)]) (v := r1) 1 rfl rfl rfl rfl hr1 ?_
    obtain ⟨hc2, H⟩ := H
    refine mm_R.cV (pc' := 33) (L' := [some ((.ref a0)), some (r1), some (.int i2), some (.int i3), some (.int i4)]) (st1 := [.int i4, r1, (.ref a0)]) (as := [.int i4]) (rest := [(.ref a0)]) 1 rfl rfl (mw_sp rfl rfl (Nat.le_of_ble_eq_true rfl) (mw_ac (mw_c1 hc2.isr) (mw_ac rfl mw_an)) (mw_ac rfl mw_an)) rfl rfl hc2 (H.mono (fun o hp3 H => ?_))
    obtain ⟨x4, rfl, H⟩ := H
    obtain ⟨hc5, H⟩ := H
    refine mm_R.cV (pc' := 37) (L' := [some ((.ref a0)), some (r1), some (.int i2), some (.int i3), some (.int i4)]) (st1 := [.int ((Int32.toUInt32 x4 % 65536).toInt32), (.ref a0)]) (as := [.int ((Int32.toUInt32 x4 % 65536).toInt32)]) (rest := []) 1 rfl rfl (mw_sp rfl rfl (Nat.le_of_ble_eq_true rfl) (mw_ac rfl (mw_ac rfl mw_an)) mw_an) rfl rfl hc5 (H.mono (fun o hp6 H => ?_))
    obtain ⟨x7, rfl, H⟩ := H
    refine mm_R.br (L' := [some ((.ref a0)), some (r1), some (.int i2), some (.int i3), some (.int i4)]) (st' := []) (t := 45) (u := 43) (b := mm_cc .ne x7 (0 : Int32)) 1 rfl (fun c => ?_) (fun c => ?_)
    · replace H := H.1 (of_decide_eq_true c)
      exact mm_R.pn (pc' := 23) (L' := [some ((.ref a0)), some (r1), some (.int i2), some (.int i3), some (.int (i4 + (1 : Int32)))]) (st' := []) 2 rfl H
    · replace H := H.2 (Decidable.of_not_not (of_decide_eq_false c))
      exact mm_R.rt (pc' := 44) (L' := [some ((.ref a0)), some (r1), some (.int i2), some (.int i3), some (.int i4)]) (st1 := [.int (0 : Int32)]) 1 rfl rfl rfl rfl rfl rfl H
-- StepRunner$Run.settleWhenComplete, from 0
set_option maxRecDepth 10000 in
theorem w92_0 {X : List Int32} {d : Nat} {r0 : Value} {hp : mm_H} {Q : Option Value → mm_H → Prop} (H : mm_isr r0 = true ∧ mw_gi 5 10 r0 hp (fun x2 => ((¬ x2 = (1 : Int32) → Q none hp) ∧ (x2 = (1 : Int32) → mw_gi 5 7 r0 hp (fun x3 => ((¬ x3 = (0 : Int32) → Q none hp) ∧ (x3 = (0 : Int32) → mw_rc r0 93 hp ∧ mm_R X d 93 0 (mm_L0 93 [r0]) [] hp (mw_r0 (fun hp5 => Q none hp5))))))))) : mm_R X (d + 1) 92 0 (mm_L0 92 [r0]) [] hp Q := by
  show mm_R X (d + 1) 92 0 [some (r0)] [] hp Q
  obtain ⟨hr1, H⟩ := H
  refine mm_R.al (pc' := 0) (L' := [some (r0)]) (r := []) (v := r0) 0 rfl rfl rfl rfl hr1 ?_
  refine mm_R.wgi (pc' := 1) (L' := [some (r0)]) (r := []) 0 rfl rfl (H.mono (fun x2 H => ?_))
  refine mm_R.br (L' := [some (r0)]) (st' := []) (t := 19) (u := 8) (b := mm_cc .ne x2 (1 : Int32)) 2 rfl (fun c => ?_) (fun c => ?_)
  · replace H := H.1 (of_decide_eq_true c)
    exact mm_R.rt (pc' := 19) (L' := [some (r0)]) (st1 := []) 0 rfl rfl rfl rfl rfl rfl H
  · replace H := H.2 (Decidable.of_not_not (of_decide_eq_false c))
    refine mm_R.al (pc' := 8) (L' := [some (r0)]) (r := []) (v := r0) 0 rfl rfl rfl rfl hr1 ?_
    refine mm_R.wgi (pc' := 9) (L' := [some (r0)]) (r := []) 0 rfl rfl (H.mono (fun x3 H => ?_))
    refine mm_R.br (L' := [some (r0)]) (st' := []) (t := 19) (u := 15) (b := mm_cc .ne x3 (0 : Int32)) 1 rfl (fun c => ?_) (fun c => ?_)
    · replace H := H.1 (of_decide_eq_true c)
      exact mm_R.rt (pc' := 19) (L' := [some (r0)]) (st1 := []) 0 rfl rfl rfl rfl rfl rfl H
    · replace H := H.2 (Decidable.of_not_not (of_decide_eq_false c))
      refine mm_R.al (pc' := 15) (L' := [some (r0)]) (r := []) (v := r0) 0 rfl rfl rfl rfl hr1 ?_
      obtain ⟨hc4, H⟩ := H
      refine mm_R.cV (pc' := 16) (L' := [some (r0)]) (st1 := [r0]) (as := []) (rest := []) 0 rfl rfl (mw_sp rfl rfl (Nat.le_of_ble_eq_true rfl) (mw_ac (mw_c1 hc4.isr) mw_an) mw_an) rfl rfl hc4 (H.mono (fun o hp5 H => ?_))
      obtain ⟨rfl, H⟩ := H
      exact mm_R.rt (pc' := 19) (L' := [some (r0)]) (st1 := []) 0 rfl rfl rfl rfl rfl rfl H
-- StepRunner$Progress.settle, from 0
set_option maxRecDepth 10000 in
theorem w93_0 {X : List Int32} {d : Nat} {a0 : Nat} {hp : mm_H} {Q : Option Value → mm_H → Prop} (H : mw_pt 5 9 (.ref a0) (.int (0 : Int32)) hp (fun hp1 => mw_rc (.ref a0) 94 hp1 ∧ mm_R X d 94 0 (mm_L0 94 [(.ref a0), .int (0 : Int32)]) [] hp1 (mw_rv (fun v4 hp3 => mw_pt 5 11 (.ref a0) (v4) hp3 (fun hp5 => mw_gv 5 11 (.ref a0) hp5 (fun v6 => mw_nl v6 (mw_pt 5 10 (.ref a0) (.int (3 : Int32)) hp5 (fun hp7 => Q none hp7)) (mw_pt 5 10 (.ref a0) (.int (2 : Int32)) hp5 (fun hp8 => Q none hp8)))))))) : mm_R X (d + 1) 93 0 (mm_L0 93 [(.ref a0)]) [] hp Q := by
  show mm_R X (d + 1) 93 0 [some ((.ref a0))] [] hp Q
  refine mm_R.wpt (pc' := 2) (L' := [some ((.ref a0))]) (r := []) 2 rfl rfl (H.mono (fun hp1 H => ?_))
  obtain ⟨hc2, H⟩ := H
  refine mm_R.cV (pc' := 8) (L' := [some ((.ref a0))]) (st1 := [.int (0 : Int32), (.ref a0), (.ref a0)]) (as := [.int (0 : Int32)]) (rest := [(.ref a0)]) 3 rfl rfl (mw_sp rfl rfl (Nat.le_of_ble_eq_true rfl) (mw_ac rfl (mw_ac rfl mw_an)) (mw_ac rfl mw_an)) rfl rfl hc2 (H.mono (fun o hp3 H => ?_))
  obtain ⟨v4, rfl, H⟩ := H
  refine mm_R.wpt (pc' := 11) (L' := [some ((.ref a0))]) (r := []) 0 rfl rfl (H.mono (fun hp5 H => ?_))
  refine mm_R.wgv (pc' := 16) (L' := [some ((.ref a0))]) (r := [(.ref a0)]) 2 rfl rfl (H.mono (fun v6 H => ?_))
  refine mm_R.wnl (pc' := 19) (L' := [some ((.ref a0))]) (r := [(.ref a0)]) (v := v6) (t := 22) (u := 26) 0 rfl rfl rfl (H.mono (fun H => ?_) (fun H => ?_))
  · refine mm_R.wpt (pc' := 27) (L' := [some ((.ref a0))]) (r := []) 2 rfl rfl (H.mono (fun hp7 H => ?_))
    exact mm_R.rt (pc' := 30) (L' := [some ((.ref a0))]) (st1 := []) 0 rfl rfl rfl rfl rfl rfl H
  · refine mm_R.wpt (pc' := 27) (L' := [some ((.ref a0))]) (r := []) 1 rfl rfl (H.mono (fun hp8 H => ?_))
    exact mm_R.rt (pc' := 30) (L' := [some ((.ref a0))]) (st1 := []) 0 rfl rfl rfl rfl rfl rfl H
-- StepRunner$Progress.nest, from 0
set_option maxRecDepth 10000 in
theorem w94_0 {X : List Int32} {d : Nat} {a0 : Nat} {i1 : Int32} {hp : mm_H} {Q : Option Value → mm_H → Prop} (H : mw_gi 5 5 (.ref a0) hp (fun x1 => ((x1 ≤ i1 → mw_rc (.ref a0) 95 hp ∧ mm_R X d 95 0 (mm_L0 95 [(.ref a0)]) [] hp (mw_rv (fun v4 hp3 => mw_nr v4 ∧ Q (some v4) hp3))) ∧ (¬ x1 ≤ i1 → ((i1 < (4 : Int32) → mw_gv 5 3 (.ref a0) hp (fun v5 => mw_ai 1000 v5 i1 hp (fun x6 => ((¬ x6 = (0 : Int32) → mw_gv 5 3 (.ref a0) hp (fun v7 => mw_ai 1000 v7 i1 hp (fun x8 => mm_R X d 9 0 (mm_L0 9 [.int x8]) [] hp (mw_rv (fun v10 hp9 => mm_isr v10 = true ∧ mm_R X (d + 1) 94 44 [some ((.ref a0)), some (.int i1), some (v10), some (.int (0 : Int32))] [] hp9 Q))))) ∧ (x6 = (0 : Int32) → mw_gv 5 4 (.ref a0) hp (fun v12 => mw_nr v12 ∧ Q (some v12) hp)))))) ∧ (¬ i1 < (4 : Int32) → mw_rc (.ref a0) 95 hp ∧ mm_R X d 95 0 (mm_L0 95 [(.ref a0)]) [] hp (mw_rv (fun v15 hp14 => mw_nr v15 ∧ Q (some v15) hp14)))))))) : mm_R X (d + 1) 94 0 (mm_L0 94 [(.ref a0), .int i1]) [] hp Q := by
  show mm_R X (d + 1) 94 0 [some ((.ref a0)), some (.int i1), none, none] [] hp Q
  refine mm_R.wgi (pc' := 2) (L' := [some ((.ref a0)), some (.int i1), none, none]) (r := [.int i1]) 2 rfl rfl (H.mono (fun x1 H => ?_))
  refine mm_R.br (L' := [some ((.ref a0)), some (.int i1), none, none]) (st' := []) (t := 13) (u := 8) (b := mm_cc .ge i1 x1) 1 rfl (fun c => ?_) (fun c => ?_)
  · replace H := H.1 (of_decide_eq_true c)
    obtain ⟨hc2, H⟩ := H
    refine mm_R.cV (pc' := 14) (L' := [some ((.ref a0)), some (.int i1), none, none]) (st1 := [(.ref a0)]) (as := []) (rest := []) 1 rfl rfl (mw_sp rfl rfl (Nat.le_of_ble_eq_true rfl) (mw_ac rfl mw_an) mw_an) rfl rfl hc2 (H.mono (fun o hp3 H => ?_))
    obtain ⟨v4, rfl, H⟩ := H
    exact mm_R.rt (pc' := 17) (L' := [some ((.ref a0)), some (.int i1), none, none]) (st1 := [v4]) 0 rfl rfl rfl rfl rfl (mw_rva (ty := (.object "StepRunner$Value")) H.1 rfl) H.2
  · replace H := H.2 (of_decide_eq_false c)
    refine mm_R.br (L' := [some ((.ref a0)), some (.int i1), none, none]) (st' := []) (t := 18) (u := 13) (b := mm_cc .lt i1 (4 : Int32)) 3 rfl (fun c => ?_) (fun c => ?_)
    · replace H := H.1 (of_decide_eq_true c)
      refine mm_R.wgv (pc' := 19) (L' := [some ((.ref a0)), some (.int i1), none, none]) (r := []) 1 rfl rfl (H.mono (fun v5 H => ?_))
      refine mm_R.wai (pc' := 23) (L' := [some ((.ref a0)), some (.int i1), none, none]) (r := []) (t := 1000) 1 rfl rfl rfl rfl (H.mono (fun x6 H => ?_))
      refine mm_R.br (L' := [some ((.ref a0)), some (.int i1), none, none]) (st' := []) (t := 32) (u := 27) (b := mm_cc .ne x6 (0 : Int32)) 1 rfl (fun c => ?_) (fun c => ?_)
      · replace H := H.1 (of_decide_eq_true c)
        refine mm_R.wgv (pc' := 33) (L' := [some ((.ref a0)), some (.int i1), none, none]) (r := []) 1 rfl rfl (H.mono (fun v7 H => ?_))
        refine mm_R.wai (pc' := 37) (L' := [some ((.ref a0)), some (.int i1), none, none]) (r := []) (t := 1000) 1 rfl rfl rfl rfl (H.mono (fun x8 H => ?_))
        refine mm_R.cS (pc' := 38) (L' := [some ((.ref a0)), some (.int i1), none, none]) (st1 := [.int x8]) (as := [.int x8]) (rest := []) 0 rfl rfl (mw_sp rfl rfl (Nat.le_of_ble_eq_true rfl) (mw_ac rfl mw_an) mw_an) rfl rfl (H.mono (fun o hp9 H => ?_))
        obtain ⟨v10, rfl, H⟩ := H
        obtain ⟨hr11, H⟩ := H
        refine mm_R.as (pc' := 41) (L' := [some ((.ref a0)), some (.int i1), none, none]) (r := []) (v := v10) 0 rfl rfl rfl rfl hr11 ?_
        exact mm_R.pn (pc' := 44) (L' := [some ((.ref a0)), some (.int i1), some (v10), some (.int (0 : Int32))]) (st' := []) 2 rfl H
      · replace H := H.2 (Decidable.of_not_not (of_decide_eq_false c))
        refine mm_R.wgv (pc' := 28) (L' := [some ((.ref a0)), some (.int i1), none, none]) (r := []) 1 rfl rfl (H.mono (fun v12 H => ?_))
        exact mm_R.rt (pc' := 31) (L' := [some ((.ref a0)), some (.int i1), none, none]) (st1 := [v12]) 0 rfl rfl rfl rfl rfl (mw_rva (ty := (.object "StepRunner$Value")) H.1 rfl) H.2
    · replace H := H.2 (of_decide_eq_false c)
      obtain ⟨hc13, H⟩ := H
      refine mm_R.cV (pc' := 14) (L' := [some ((.ref a0)), some (.int i1), none, none]) (st1 := [(.ref a0)]) (as := []) (rest := []) 1 rfl rfl (mw_sp rfl rfl (Nat.le_of_ble_eq_true rfl) (mw_ac rfl mw_an) mw_an) rfl rfl hc13 (H.mono (fun o hp14 H => ?_))
      obtain ⟨v15, rfl, H⟩ := H
      exact mm_R.rt (pc' := 17) (L' := [some ((.ref a0)), some (.int i1), none, none]) (st1 := [v15]) 0 rfl rfl rfl rfl rfl (mw_rva (ty := (.object "StepRunner$Value")) H.1 rfl) H.2
-- StepRunner$Progress.nest, from 44
set_option maxRecDepth 10000 in
theorem w94_44 {X : List Int32} {d : Nat} {a0 : Nat} {i1 : Int32} {r2 : Value} {i3 : Int32} {hp : mm_H} {Q : Option Value → mm_H → Prop} (H : mw_gv 5 3 (.ref a0) hp (fun v1 => mw_ai 1000 v1 i1 hp (fun x2 => ((x2 ≤ i3 → mm_isr r2 = true ∧ mw_nr r2 ∧ Q (some r2) hp) ∧ (¬ x2 ≤ i3 → mm_isr r2 = true ∧ mw_rc (.ref a0) 94 hp ∧ mm_R X d 94 0 (mm_L0 94 [(.ref a0), .int (i1 + (1 : Int32))]) [] hp (mw_rv (fun v7 hp6 => mw_rc r2 32 hp6 ∧ mm_isr v7 = true ∧ mm_R X d 32 0 (mm_L0 32 [r2, v7]) [] hp6 (mw_ri (fun x11 hp10 => ((¬ x11 = (0 : Int32) → mm_R X (d + 1) 94 44 [some ((.ref a0)), some (.int i1), some (r2), some (.int (i3 + (1 : Int32)))] [] hp10 Q) ∧ (x11 = (0 : Int32) → Q (some .null) hp10))))))))))) : mm_R X (d + 1) 94 44 [some ((.ref a0)), some (.int i1), some (r2), some (.int i3)] [] hp Q := by
  refine mm_R.wgv (pc' := 46) (L' := [some ((.ref a0)), some (.int i1), some (r2), some (.int i3)]) (r := [.int i3]) 2 rfl rfl (H.mono (fun v1 H => ?_))
  refine mm_R.wai (pc' := 50) (L' := [some ((.ref a0)), some (.int i1), some (r2), some (.int i3)]) (r := [.int i3]) (t := 1000) 1 rfl rfl rfl rfl (H.mono (fun x2 H => ?_))
  refine mm_R.br (L' := [some ((.ref a0)), some (.int i1), some (r2), some (.int i3)]) (st' := []) (t := 76) (u := 54) (b := mm_cc .ge i3 x2) 1 rfl (fun c => ?_) (fun c => ?_)
  · replace H := H.1 (of_decide_eq_true c)
    obtain ⟨hr3, H⟩ := H
    refine mm_R.al (pc' := 76) (L' := [some ((.ref a0)), some (.int i1), some (r2), some (.int i3)]) (r := []) (v := r2) 0 rfl rfl rfl rfl hr3 ?_
    exact mm_R.rt (pc' := 77) (L' := [some ((.ref a0)), some (.int i1), some (r2), some (.int i3)]) (st1 := [r2]) 0 rfl rfl rfl rfl rfl (mw_rva (ty := (.object "StepRunner$Value")) H.1 rfl) H.2
  · replace H := H.2 (of_decide_eq_false c)
    obtain ⟨hr4, H⟩ := H
    refine mm_R.al (pc' := 54) (L' := [some ((.ref a0)), some (.int i1), some (r2), some (.int i3)]) (r := []) (v := r2) 0 rfl rfl rfl rfl hr4 ?_
    obtain ⟨hc5, H⟩ := H
    refine mm_R.cV (pc' := 59) (L' := [some ((.ref a0)), some (.int i1), some (r2), some (.int i3)]) (st1 := [.int (i1 + (1 : Int32)), (.ref a0), r2]) (as := [.int (i1 + (1 : Int32))]) (rest := [r2]) 4 rfl rfl (mw_sp rfl rfl (Nat.le_of_ble_eq_true rfl) (mw_ac rfl (mw_ac rfl mw_an)) (mw_ac (mw_c1 hr4) mw_an)) rfl rfl hc5 (H.mono (fun o hp6 H => ?_))
    obtain ⟨v7, rfl, H⟩ := H
    obtain ⟨hc8, H⟩ := H
    obtain ⟨hr9, H⟩ := H
    refine mm_R.cV (pc' := 62) (L' := [some ((.ref a0)), some (.int i1), some (r2), some (.int i3)]) (st1 := [v7, r2]) (as := [v7]) (rest := []) 0 rfl rfl (mw_sp rfl rfl (Nat.le_of_ble_eq_true rfl) (mw_ac (mw_c1 hc8.isr) (mw_ac (mw_c1 hr9) mw_an)) mw_an) rfl rfl hc8 (H.mono (fun o hp10 H => ?_))
    obtain ⟨x11, rfl, H⟩ := H
    refine mm_R.br (L' := [some ((.ref a0)), some (.int i1), some (r2), some (.int i3)]) (st' := []) (t := 70) (u := 68) (b := mm_cc .ne x11 (0 : Int32)) 1 rfl (fun c => ?_) (fun c => ?_)
    · replace H := H.1 (of_decide_eq_true c)
      exact mm_R.pn (pc' := 44) (L' := [some ((.ref a0)), some (.int i1), some (r2), some (.int (i3 + (1 : Int32)))]) (st' := []) 2 rfl H
    · replace H := H.2 (Decidable.of_not_not (of_decide_eq_false c))
      exact mm_R.rt (pc' := 69) (L' := [some ((.ref a0)), some (.int i1), some (r2), some (.int i3)]) (st1 := [.null]) 1 rfl rfl rfl rfl rfl rfl H
-- StepRunner$Progress.takeResult, from 0
set_option maxRecDepth 10000 in
theorem w95_0 {X : List Int32} {d : Nat} {a0 : Nat} {hp : mm_H} {Q : Option Value → mm_H → Prop} (H : mw_gi 5 9 (.ref a0) hp (fun x1 => ((x1 < (0 : Int32) → Q (some .null) hp) ∧ (¬ x1 < (0 : Int32) → mw_gi 5 9 (.ref a0) hp (fun x2 => ((x2 < (16 : Int32) → mw_gi 5 9 (.ref a0) hp (fun x3 => mw_pt 5 9 (.ref a0) (.int (x3 + (1 : Int32))) hp (fun hp4 => mw_gv 5 2 (.ref a0) hp4 (fun v5 => mw_gi 5 9 (.ref a0) hp4 (fun x6 => mw_av v5 (x6 - (1 : Int32)) hp4 (fun v7 => mw_nr v7 ∧ Q (some v7) hp4)))))) ∧ (¬ x2 < (16 : Int32) → Q (some .null) hp))))))) : mm_R X (d + 1) 95 0 (mm_L0 95 [(.ref a0)]) [] hp Q := by
  show mm_R X (d + 1) 95 0 [some ((.ref a0))] [] hp Q
  refine mm_R.wgi (pc' := 1) (L' := [some ((.ref a0))]) (r := []) 1 rfl rfl (H.mono (fun x1 H => ?_))
  refine mm_R.br (L' := [some ((.ref a0))]) (st' := []) (t := 16) (u := 7) (b := mm_cc .lt x1 (0 : Int32)) 1 rfl (fun c => ?_) (fun c => ?_)
  · replace H := H.1 (of_decide_eq_true c)
    exact mm_R.rt (pc' := 17) (L' := [some ((.ref a0))]) (st1 := [.null]) 1 rfl rfl rfl rfl rfl rfl H
  · replace H := H.2 (of_decide_eq_false c)
    refine mm_R.wgi (pc' := 8) (L' := [some ((.ref a0))]) (r := []) 1 rfl rfl (H.mono (fun x2 H => ?_))
    refine mm_R.br (L' := [some ((.ref a0))]) (st' := []) (t := 18) (u := 16) (b := mm_cc .lt x2 (16 : Int32)) 2 rfl (fun c => ?_) (fun c => ?_)
    · replace H := H.1 (of_decide_eq_true c)
      refine mm_R.wgi (pc' := 20) (L' := [some ((.ref a0))]) (r := [(.ref a0)]) 2 rfl rfl (H.mono (fun x3 H => ?_))
      refine mm_R.wpt (pc' := 25) (L' := [some ((.ref a0))]) (r := []) 2 rfl rfl (H.mono (fun hp4 H => ?_))
      refine mm_R.wgv (pc' := 29) (L' := [some ((.ref a0))]) (r := []) 1 rfl rfl (H.mono (fun v5 H => ?_))
      refine mm_R.wgi (pc' := 33) (L' := [some ((.ref a0))]) (r := [v5]) 1 rfl rfl (H.mono (fun x6 H => ?_))
      refine mm_R.wav (pc' := 38) (L' := [some ((.ref a0))]) (r := []) 2 rfl rfl (H.mono (fun v7 H => ?_))
      exact mm_R.rt (pc' := 39) (L' := [some ((.ref a0))]) (st1 := [v7]) 0 rfl rfl rfl rfl rfl (mw_rva (ty := (.object "StepRunner$Value")) H.1 rfl) H.2
    · replace H := H.2 (of_decide_eq_false c)
      exact mm_R.rt (pc' := 17) (L' := [some ((.ref a0))]) (st1 := [.null]) 1 rfl rfl rfl rfl rfl rfl H
-- StepRunner$Run.startJobs, from 0
set_option maxRecDepth 10000 in
theorem w96_0 {X : List Int32} {d : Nat} {a0 : Nat} {hp : mm_H} {Q : Option Value → mm_H → Prop} (H : mm_R X (d + 1) 96 2 [some ((.ref a0)), some (.int (0 : Int32)), none, none] [] hp Q) : mm_R X (d + 1) 96 0 (mm_L0 96 [(.ref a0)]) [] hp Q := by
  show mm_R X (d + 1) 96 0 [some ((.ref a0)), none, none, none] [] hp Q
  exact mm_R.pn (pc' := 2) (L' := [some ((.ref a0)), some (.int (0 : Int32)), none, none]) (st' := []) 2 rfl H
-- StepRunner$Run.startJobs, from 2
set_option maxRecDepth 10000 in
theorem w96_2 {X : List Int32} {d : Nat} {a0 : Nat} {i1 : Int32} {o2 : Option Value} {o3 : Option Value} {hp : mm_H} {Q : Option Value → mm_H → Prop} (H : mw_gi 3 7 (.ref a0) hp (fun x1 => ((x1 ≤ i1 → Q none hp) ∧ (¬ x1 ≤ i1 → mm_R X (d + 1) 96 12 [some ((.ref a0)), some (.int i1), some (.int (0 : Int32)), o3] [] hp Q)))) : mm_R X (d + 1) 96 2 [some ((.ref a0)), some (.int i1), o2, o3] [] hp Q := by
  refine mm_R.wgi (pc' := 4) (L' := [some ((.ref a0)), some (.int i1), o2, o3]) (r := [.int i1]) 2 rfl rfl (H.mono (fun x1 H => ?_))
  refine mm_R.br (L' := [some ((.ref a0)), some (.int i1), o2, o3]) (st' := []) (t := 104) (u := 10) (b := mm_cc .ge i1 x1) 1 rfl (fun c => ?_) (fun c => ?_)
  · replace H := H.1 (of_decide_eq_true c)
    exact mm_R.rt (pc' := 104) (L' := [some ((.ref a0)), some (.int i1), o2, o3]) (st1 := []) 0 rfl rfl rfl rfl rfl rfl H
  · replace H := H.2 (of_decide_eq_false c)
    exact mm_R.pn (pc' := 12) (L' := [some ((.ref a0)), some (.int i1), some (.int (0 : Int32)), o3]) (st' := []) 2 rfl H
-- StepRunner$Run.startJobs, from 12
set_option maxRecDepth 10000 in
theorem w96_12 {X : List Int32} {d : Nat} {a0 : Nat} {i1 : Int32} {i2 : Int32} {o3 : Option Value} {hp : mm_H} {Q : Option Value → mm_H → Prop} (H : (((3 : Int32) ≤ i2 → mm_R X (d + 1) 96 2 [some ((.ref a0)), some (.int (i1 + (1 : Int32))), some (.int i2), o3] [] hp Q) ∧ (¬ (3 : Int32) ≤ i2 → mw_gi 3 3 (.ref a0) hp (fun x1 => mw_gi 3 8 (.ref a0) hp (fun x2 => ((x2 ≤ x1 → mm_R X (d + 1) 96 2 [some ((.ref a0)), some (.int (i1 + (1 : Int32))), some (.int i2), o3] [] hp Q) ∧ (¬ x2 ≤ x1 → mw_gv 3 1 (.ref a0) hp (fun v3 => mw_av v3 i1 hp (fun v4 => mw_gi 5 10 v4 hp (fun x5 => ((¬ x5 = (1 : Int32) → mm_R X (d + 1) 96 54 [some ((.ref a0)), some (.int i1), some (.int i2), o3] [.null] hp Q) ∧ (x5 = (1 : Int32) → mw_gv 3 1 (.ref a0) hp (fun v6 => mw_av v6 i1 hp (fun v7 => mw_rc v7 97 hp ∧ mm_R X d 97 0 (mm_L0 97 [v7]) [] hp (mw_rv (fun v10 hp9 => mm_R X (d + 1) 96 54 [some ((.ref a0)), some (.int i1), some (.int i2), o3] [v10] hp9 Q)))))))))))))))) : mm_R X (d + 1) 96 12 [some ((.ref a0)), some (.int i1), some (.int i2), o3] [] hp Q := by
  refine mm_R.br (L' := [some ((.ref a0)), some (.int i1), some (.int i2), o3]) (st' := []) (t := 98) (u := 17) (b := mm_cc .ge i2 (3 : Int32)) 3 rfl (fun c => ?_) (fun c => ?_)
  · replace H := H.1 (of_decide_eq_true c)
    exact mm_R.pn (pc' := 2) (L' := [some ((.ref a0)), some (.int (i1 + (1 : Int32))), some (.int i2), o3]) (st' := []) 2 rfl H
  · replace H := H.2 (of_decide_eq_false c)
    refine mm_R.wgi (pc' := 18) (L' := [some ((.ref a0)), some (.int i1), some (.int i2), o3]) (r := []) 1 rfl rfl (H.mono (fun x1 H => ?_))
    refine mm_R.wgi (pc' := 22) (L' := [some ((.ref a0)), some (.int i1), some (.int i2), o3]) (r := [.int x1]) 1 rfl rfl (H.mono (fun x2 H => ?_))
    refine mm_R.br (L' := [some ((.ref a0)), some (.int i1), some (.int i2), o3]) (st' := []) (t := 98) (u := 28) (b := mm_cc .ge x1 x2) 1 rfl (fun c => ?_) (fun c => ?_)
    · replace H := H.1 (of_decide_eq_true c)
      exact mm_R.pn (pc' := 2) (L' := [some ((.ref a0)), some (.int (i1 + (1 : Int32))), some (.int i2), o3]) (st' := []) 2 rfl H
    · replace H := H.2 (of_decide_eq_false c)
      refine mm_R.wgv (pc' := 29) (L' := [some ((.ref a0)), some (.int i1), some (.int i2), o3]) (r := []) 1 rfl rfl (H.mono (fun v3 H => ?_))
      refine mm_R.wav (pc' := 33) (L' := [some ((.ref a0)), some (.int i1), some (.int i2), o3]) (r := []) 1 rfl rfl (H.mono (fun v4 H => ?_))
      refine mm_R.wgi (pc' := 34) (L' := [some ((.ref a0)), some (.int i1), some (.int i2), o3]) (r := []) 0 rfl rfl (H.mono (fun x5 H => ?_))
      refine mm_R.br (L' := [some ((.ref a0)), some (.int i1), some (.int i2), o3]) (st' := []) (t := 53) (u := 41) (b := mm_cc .ne x5 (1 : Int32)) 2 rfl (fun c => ?_) (fun c => ?_)
      · replace H := H.1 (of_decide_eq_true c)
        exact mm_R.pn (pc' := 54) (L' := [some ((.ref a0)), some (.int i1), some (.int i2), o3]) (st' := [.null]) 1 rfl H
      · replace H := H.2 (Decidable.of_not_not (of_decide_eq_false c))
        refine mm_R.wgv (pc' := 42) (L' := [some ((.ref a0)), some (.int i1), some (.int i2), o3]) (r := []) 1 rfl rfl (H.mono (fun v6 H => ?_))
        refine mm_R.wav (pc' := 46) (L' := [some ((.ref a0)), some (.int i1), some (.int i2), o3]) (r := []) 1 rfl rfl (H.mono (fun v7 H => ?_))
        obtain ⟨hc8, H⟩ := H
        refine mm_R.cV (pc' := 47) (L' := [some ((.ref a0)), some (.int i1), some (.int i2), o3]) (st1 := [v7]) (as := []) (rest := []) 0 rfl rfl (mw_sp rfl rfl (Nat.le_of_ble_eq_true rfl) (mw_ac (mw_c1 hc8.isr) mw_an) mw_an) rfl rfl hc8 (H.mono (fun o hp9 H => ?_))
        obtain ⟨v10, rfl, H⟩ := H
        exact mm_R.pn (pc' := 54) (L' := [some ((.ref a0)), some (.int i1), some (.int i2), o3]) (st' := [v10]) 1 rfl H
-- StepRunner$Run.startJobs, from 54
set_option maxRecDepth 10000 in
theorem w96_54 {X : List Int32} {d : Nat} {a0 : Nat} {i1 : Int32} {i2 : Int32} {o3 : Option Value} {s0 : Value} {hp : mm_H} {Q : Option Value → mm_H → Prop} (H : mm_isr s0 = true ∧ mw_nl s0 (mm_R X (d + 1) 96 2 [some ((.ref a0)), some (.int (i1 + (1 : Int32))), some (.int i2), some (s0)] [] hp Q) (mw_gv 3 2 (.ref a0) hp (fun v2 => mw_gi 3 3 (.ref a0) hp (fun x3 => mw_sv v2 x3 s0 hp (fun hp4 => mw_gi 3 3 (.ref a0) hp4 (fun x5 => mw_pt 3 3 (.ref a0) (.int (x5 + (1 : Int32))) hp4 (fun hp6 => mw_gi 3 4 (.ref a0) hp6 (fun x7 => mw_pt 3 4 (.ref a0) (.int (x7 + (1 : Int32))) hp6 (fun hp8 => mm_R X (d + 1) 96 12 [some ((.ref a0)), some (.int i1), some (.int (i2 + (1 : Int32))), some (s0)] [] hp8 Q))))))))) : mm_R X (d + 1) 96 54 [some ((.ref a0)), some (.int i1), some (.int i2), o3] [s0] hp Q := by
  obtain ⟨hr1, H⟩ := H
  refine mm_R.as (pc' := 54) (L' := [some ((.ref a0)), some (.int i1), some (.int i2), o3]) (r := []) (v := s0) 0 rfl rfl rfl rfl hr1 ?_
  refine mm_R.al (pc' := 55) (L' := [some ((.ref a0)), some (.int i1), some (.int i2), some (s0)]) (r := []) (v := s0) 0 rfl rfl rfl rfl hr1 ?_
  refine mm_R.wnl (pc' := 56) (L' := [some ((.ref a0)), some (.int i1), some (.int i2), some (s0)]) (r := []) (v := s0) (t := 59) (u := 62) 0 rfl rfl rfl (H.mono (fun H => ?_) (fun H => ?_))
  · exact mm_R.pn (pc' := 2) (L' := [some ((.ref a0)), some (.int (i1 + (1 : Int32))), some (.int i2), some (s0)]) (st' := []) 3 rfl H
  · refine mm_R.wgv (pc' := 63) (L' := [some ((.ref a0)), some (.int i1), some (.int i2), some (s0)]) (r := []) 1 rfl rfl (H.mono (fun v2 H => ?_))
    refine mm_R.wgi (pc' := 67) (L' := [some ((.ref a0)), some (.int i1), some (.int i2), some (s0)]) (r := [v2]) 1 rfl rfl (H.mono (fun x3 H => ?_))
    refine mm_R.al (pc' := 70) (L' := [some ((.ref a0)), some (.int i1), some (.int i2), some (s0)]) (r := [.int x3, v2]) (v := s0) 0 rfl rfl rfl rfl hr1 ?_
    refine mm_R.wsv (pc' := 71) (L' := [some ((.ref a0)), some (.int i1), some (.int i2), some (s0)]) (r := []) 0 rfl rfl (H.mono (fun hp4 H => ?_))
    refine mm_R.wgi (pc' := 74) (L' := [some ((.ref a0)), some (.int i1), some (.int i2), some (s0)]) (r := [(.ref a0)]) 2 rfl rfl (H.mono (fun x5 H => ?_))
    refine mm_R.wpt (pc' := 79) (L' := [some ((.ref a0)), some (.int i1), some (.int i2), some (s0)]) (r := []) 2 rfl rfl (H.mono (fun hp6 H => ?_))
    refine mm_R.wgi (pc' := 84) (L' := [some ((.ref a0)), some (.int i1), some (.int i2), some (s0)]) (r := [(.ref a0)]) 2 rfl rfl (H.mono (fun x7 H => ?_))
    refine mm_R.wpt (pc' := 89) (L' := [some ((.ref a0)), some (.int i1), some (.int i2), some (s0)]) (r := []) 2 rfl rfl (H.mono (fun hp8 H => ?_))
    exact mm_R.pn (pc' := 12) (L' := [some ((.ref a0)), some (.int i1), some (.int (i2 + (1 : Int32))), some (s0)]) (st' := []) 2 rfl H
-- StepRunner$Progress.takeReadyJob, from 0
set_option maxRecDepth 10000 in
theorem w97_0 {X : List Int32} {d : Nat} {a0 : Nat} {hp : mm_H} {Q : Option Value → mm_H → Prop} (H : mw_gi 5 8 (.ref a0) hp (fun x1 => mw_gi 5 6 (.ref a0) hp (fun x2 => ((x2 ≤ x1 → Q (some .null) hp) ∧ (¬ x2 ≤ x1 → mw_gi 5 8 (.ref a0) hp (fun x3 => (((16 : Int32) ≤ x3 → Q (some .null) hp) ∧ (¬ (16 : Int32) ≤ x3 → mw_gi 5 8 (.ref a0) hp (fun x4 => mw_gi 5 8 (.ref a0) hp (fun x5 => mw_pt 5 8 (.ref a0) (.int (x5 + (1 : Int32))) hp (fun hp6 => mw_gv 5 2 (.ref a0) hp6 (fun v7 => mw_av v7 x4 hp6 (fun v8 => mw_nl v8 (mw_gv 5 1 (.ref a0) hp6 (fun v9 => mw_av v9 x4 hp6 (fun v10 => mw_nr v10 ∧ Q (some v10) hp6))) (mm_R X (d + 1) 97 0 [some ((.ref a0)), some (.int x4)] [] hp6 Q)))))))))))))) : mm_R X (d + 1) 97 0 (mm_L0 97 [(.ref a0)]) [] hp Q := by
  show mm_R X (d + 1) 97 0 [some ((.ref a0)), none] [] hp Q
  refine mm_R.wgi (pc' := 1) (L' := [some ((.ref a0)), none]) (r := []) 1 rfl rfl (H.mono (fun x1 H => ?_))
  refine mm_R.wgi (pc' := 5) (L' := [some ((.ref a0)), none]) (r := [.int x1]) 1 rfl rfl (H.mono (fun x2 H => ?_))
  refine mm_R.br (L' := [some ((.ref a0)), none]) (st' := []) (t := 54) (u := 11) (b := mm_cc .ge x1 x2) 1 rfl (fun c => ?_) (fun c => ?_)
  · replace H := H.1 (of_decide_eq_true c)
    exact mm_R.rt (pc' := 55) (L' := [some ((.ref a0)), none]) (st1 := [.null]) 1 rfl rfl rfl rfl rfl rfl H
  · replace H := H.2 (of_decide_eq_false c)
    refine mm_R.wgi (pc' := 12) (L' := [some ((.ref a0)), none]) (r := []) 1 rfl rfl (H.mono (fun x3 H => ?_))
    refine mm_R.br (L' := [some ((.ref a0)), none]) (st' := []) (t := 54) (u := 20) (b := mm_cc .ge x3 (16 : Int32)) 2 rfl (fun c => ?_) (fun c => ?_)
    · replace H := H.1 (of_decide_eq_true c)
      exact mm_R.rt (pc' := 55) (L' := [some ((.ref a0)), none]) (st1 := [.null]) 1 rfl rfl rfl rfl rfl rfl H
    · replace H := H.2 (of_decide_eq_false c)
      refine mm_R.wgi (pc' := 21) (L' := [some ((.ref a0)), none]) (r := []) 1 rfl rfl (H.mono (fun x4 H => ?_))
      refine mm_R.wgi (pc' := 27) (L' := [some ((.ref a0)), some (.int x4)]) (r := [(.ref a0)]) 3 rfl rfl (H.mono (fun x5 H => ?_))
      refine mm_R.wpt (pc' := 32) (L' := [some ((.ref a0)), some (.int x4)]) (r := []) 2 rfl rfl (H.mono (fun hp6 H => ?_))
      refine mm_R.wgv (pc' := 36) (L' := [some ((.ref a0)), some (.int x4)]) (r := []) 1 rfl rfl (H.mono (fun v7 H => ?_))
      refine mm_R.wav (pc' := 40) (L' := [some ((.ref a0)), some (.int x4)]) (r := []) 1 rfl rfl (H.mono (fun v8 H => ?_))
      refine mm_R.wnl (pc' := 41) (L' := [some ((.ref a0)), some (.int x4)]) (r := []) (v := v8) (t := 44) (u := 51) 0 rfl rfl rfl (H.mono (fun H => ?_) (fun H => ?_))
      · refine mm_R.wgv (pc' := 45) (L' := [some ((.ref a0)), some (.int x4)]) (r := []) 1 rfl rfl (H.mono (fun v9 H => ?_))
        refine mm_R.wav (pc' := 49) (L' := [some ((.ref a0)), some (.int x4)]) (r := []) 1 rfl rfl (H.mono (fun v10 H => ?_))
        exact mm_R.rt (pc' := 50) (L' := [some ((.ref a0)), some (.int x4)]) (st1 := [v10]) 0 rfl rfl rfl rfl rfl (mw_rva (ty := (.object "StepRunner$Job")) H.1 rfl) H.2
      · exact mm_R.pn (pc' := 0) (L' := [some ((.ref a0)), some (.int x4)]) (st' := []) 1 rfl H
-- StepRunner.finish, from 0
set_option maxRecDepth 10000 in
theorem w98_0 {X : List Int32} {d : Nat} {a0 : Nat} {i1 : Int32} {hp : mm_H} {Q : Option Value → mm_H → Prop} (H : mw_gv 0 6 (.ref a0) hp (fun v1 => mw_rc v1 99 hp ∧ mm_R X d 99 0 (mm_L0 99 [v1, .int i1]) [] hp (mw_ri (fun x4 hp3 => ((¬ x4 = (0 : Int32) → mw_gv 0 6 (.ref a0) hp3 (fun v5 => mw_rc v5 59 hp3 ∧ mm_R X d 59 0 (mm_L0 59 [v5]) [] hp3 (mw_r0 (fun hp7 => Q (some (.int (1 : Int32))) hp7)))) ∧ (x4 = (0 : Int32) → Q (some (.int (0 : Int32))) hp3)))))) : mm_R X (d + 1) 98 0 (mm_L0 98 [(.ref a0), .int i1]) [] hp Q := by
  show mm_R X (d + 1) 98 0 [some ((.ref a0)), some (.int i1)] [] hp Q
  refine mm_R.wgv (pc' := 1) (L' := [some ((.ref a0)), some (.int i1)]) (r := []) 1 rfl rfl (H.mono (fun v1 H => ?_))
  obtain ⟨hc2, H⟩ := H
  refine mm_R.cV (pc' := 5) (L' := [some ((.ref a0)), some (.int i1)]) (st1 := [.int i1, v1]) (as := [.int i1]) (rest := []) 1 rfl rfl (mw_sp rfl rfl (Nat.le_of_ble_eq_true rfl) (mw_ac (mw_c1 hc2.isr) (mw_ac rfl mw_an)) mw_an) rfl rfl hc2 (H.mono (fun o hp3 H => ?_))
  obtain ⟨x4, rfl, H⟩ := H
  refine mm_R.br (L' := [some ((.ref a0)), some (.int i1)]) (st' := []) (t := 13) (u := 11) (b := mm_cc .ne x4 (0 : Int32)) 1 rfl (fun c => ?_) (fun c => ?_)
  · replace H := H.1 (of_decide_eq_true c)
    refine mm_R.wgv (pc' := 14) (L' := [some ((.ref a0)), some (.int i1)]) (r := []) 1 rfl rfl (H.mono (fun v5 H => ?_))
    obtain ⟨hc6, H⟩ := H
    refine mm_R.cV (pc' := 17) (L' := [some ((.ref a0)), some (.int i1)]) (st1 := [v5]) (as := []) (rest := []) 0 rfl rfl (mw_sp rfl rfl (Nat.le_of_ble_eq_true rfl) (mw_ac (mw_c1 hc6.isr) mw_an) mw_an) rfl rfl hc6 (H.mono (fun o hp7 H => ?_))
    obtain ⟨rfl, H⟩ := H
    exact mm_R.rt (pc' := 21) (L' := [some ((.ref a0)), some (.int i1)]) (st1 := [.int (1 : Int32)]) 1 rfl rfl rfl rfl rfl rfl H
  · replace H := H.2 (Decidable.of_not_not (of_decide_eq_false c))
    exact mm_R.rt (pc' := 12) (L' := [some ((.ref a0)), some (.int i1)]) (st1 := [.int (0 : Int32)]) 1 rfl rfl rfl rfl rfl rfl H
-- StepRunner$Run.endJob, from 0
set_option maxRecDepth 10000 in
theorem w99_0 {X : List Int32} {d : Nat} {a0 : Nat} {i1 : Int32} {hp : mm_H} {Q : Option Value → mm_H → Prop} (H : mw_rc (.ref a0) 100 hp ∧ mm_R X d 100 0 (mm_L0 100 [(.ref a0), .int i1]) [] hp (mw_rv (fun v3 hp2 => mm_isr v3 = true ∧ mw_nl v3 (Q (some (.int (0 : Int32))) hp2) (mw_gi 9 0 v3 hp2 (fun x5 => ((x5 < (0 : Int32) → Q (some (.int (0 : Int32))) hp2) ∧ (¬ x5 < (0 : Int32) → mw_gi 9 0 v3 hp2 (fun x6 => mw_gi 3 7 (.ref a0) hp2 (fun x7 => ((x6 < x7 → mw_gi 3 3 (.ref a0) hp2 (fun x8 => mw_pt 3 3 (.ref a0) (.int (x8 - (1 : Int32))) hp2 (fun hp9 => mm_R X (d + 1) 99 42 [some ((.ref a0)), some (.int i1), some (v3), some (.int i1), none, none] [] hp9 Q))) ∧ (¬ x6 < x7 → Q (some (.int (0 : Int32))) hp2))))))))))) : mm_R X (d + 1) 99 0 (mm_L0 99 [(.ref a0), .int i1]) [] hp Q := by
  show mm_R X (d + 1) 99 0 [some ((.ref a0)), some (.int i1), none, none, none, none] [] hp Q
  obtain ⟨hc1, H⟩ := H
  refine mm_R.cV (pc' := 2) (L' := [some ((.ref a0)), some (.int i1), none, none, none, none]) (st1 := [.int i1, (.ref a0)]) (as := [.int i1]) (rest := []) 2 rfl rfl (mw_sp rfl rfl (Nat.le_of_ble_eq_true rfl) (mw_ac rfl (mw_ac rfl mw_an)) mw_an) rfl rfl hc1 (H.mono (fun o hp2 H => ?_))
  obtain ⟨v3, rfl, H⟩ := H
  obtain ⟨hr4, H⟩ := H
  refine mm_R.as (pc' := 5) (L' := [some ((.ref a0)), some (.int i1), none, none, none, none]) (r := []) (v := v3) 0 rfl rfl rfl rfl hr4 ?_
  refine mm_R.al (pc' := 6) (L' := [some ((.ref a0)), some (.int i1), some (v3), none, none, none]) (r := []) (v := v3) 0 rfl rfl rfl rfl hr4 ?_
  refine mm_R.wnl (pc' := 7) (L' := [some ((.ref a0)), some (.int i1), some (v3), none, none, none]) (r := []) (v := v3) (t := 28) (u := 10) 0 rfl rfl rfl (H.mono (fun H => ?_) (fun H => ?_))
  · exact mm_R.rt (pc' := 29) (L' := [some ((.ref a0)), some (.int i1), some (v3), none, none, none]) (st1 := [.int (0 : Int32)]) 1 rfl rfl rfl rfl rfl rfl H
  · refine mm_R.al (pc' := 10) (L' := [some ((.ref a0)), some (.int i1), some (v3), none, none, none]) (r := []) (v := v3) 0 rfl rfl rfl rfl hr4 ?_
    refine mm_R.wgi (pc' := 11) (L' := [some ((.ref a0)), some (.int i1), some (v3), none, none, none]) (r := []) 0 rfl rfl (H.mono (fun x5 H => ?_))
    refine mm_R.br (L' := [some ((.ref a0)), some (.int i1), some (v3), none, none, none]) (st' := []) (t := 28) (u := 17) (b := mm_cc .lt x5 (0 : Int32)) 1 rfl (fun c => ?_) (fun c => ?_)
    · replace H := H.1 (of_decide_eq_true c)
      exact mm_R.rt (pc' := 29) (L' := [some ((.ref a0)), some (.int i1), some (v3), none, none, none]) (st1 := [.int (0 : Int32)]) 1 rfl rfl rfl rfl rfl rfl H
    · replace H := H.2 (of_decide_eq_false c)
      refine mm_R.al (pc' := 17) (L' := [some ((.ref a0)), some (.int i1), some (v3), none, none, none]) (r := []) (v := v3) 0 rfl rfl rfl rfl hr4 ?_
      refine mm_R.wgi (pc' := 18) (L' := [some ((.ref a0)), some (.int i1), some (v3), none, none, none]) (r := []) 0 rfl rfl (H.mono (fun x6 H => ?_))
      refine mm_R.wgi (pc' := 22) (L' := [some ((.ref a0)), some (.int i1), some (v3), none, none, none]) (r := [.int x6]) 1 rfl rfl (H.mono (fun x7 H => ?_))
      refine mm_R.br (L' := [some ((.ref a0)), some (.int i1), some (v3), none, none, none]) (st' := []) (t := 30) (u := 28) (b := mm_cc .lt x6 x7) 1 rfl (fun c => ?_) (fun c => ?_)
      · replace H := H.1 (of_decide_eq_true c)
        refine mm_R.wgi (pc' := 32) (L' := [some ((.ref a0)), some (.int i1), some (v3), none, none, none]) (r := [(.ref a0)]) 2 rfl rfl (H.mono (fun x8 H => ?_))
        refine mm_R.wpt (pc' := 37) (L' := [some ((.ref a0)), some (.int i1), some (v3), none, none, none]) (r := []) 2 rfl rfl (H.mono (fun hp9 H => ?_))
        exact mm_R.pn (pc' := 42) (L' := [some ((.ref a0)), some (.int i1), some (v3), some (.int i1), none, none]) (st' := []) 2 rfl H
      · replace H := H.2 (of_decide_eq_false c)
        exact mm_R.rt (pc' := 29) (L' := [some ((.ref a0)), some (.int i1), some (v3), none, none, none]) (st1 := [.int (0 : Int32)]) 1 rfl rfl rfl rfl rfl rfl H
-- StepRunner$Run.endJob, from 42
set_option maxRecDepth 10000 in
theorem w99_42 {X : List Int32} {d : Nat} {a0 : Nat} {i1 : Int32} {r2 : Value} {i3 : Int32} {o4 : Option Value} {o5 : Option Value} {hp : mm_H} {Q : Option Value → mm_H → Prop} (H : mw_gi 3 3 (.ref a0) hp (fun x1 => ((x1 ≤ i3 → mw_gv 3 5 (.ref a0) hp (fun v2 => mm_isr r2 = true ∧ mw_gi 9 0 r2 hp (fun x4 => mw_av v2 x4 hp (fun v5 => mm_isr v5 = true ∧ mw_gv 3 1 (.ref a0) hp (fun v7 => mw_gi 9 0 r2 hp (fun x8 => mw_av v7 x8 hp (fun v9 => mm_isr v9 = true ∧ mw_nl v5 (mm_R X (d + 1) 99 110 [some ((.ref a0)), some (.int i1), some (r2), some (v5), some (v9), o5] [.null] hp Q) (mw_gv 7 0 v5 hp (fun v11 => mw_gi 6 0 v11 hp (fun x12 => mw_rc r2 101 hp ∧ mm_R X d 101 0 (mm_L0 101 [r2, .int x12]) [] hp (mw_rv (fun v15 hp14 => mm_R X (d + 1) 99 110 [some ((.ref a0)), some (.int i1), some (r2), some (v5), some (v9), o5] [v15] hp14 Q)))))))))))) ∧ (¬ x1 ≤ i3 → mw_gv 3 2 (.ref a0) hp (fun v16 => mw_gv 3 2 (.ref a0) hp (fun v17 => mw_av v17 (i3 + (1 : Int32)) hp (fun v18 => mw_sv v16 i3 v18 hp (fun hp19 => mm_R X (d + 1) 99 42 [some ((.ref a0)), some (.int i1), some (r2), some (.int (i3 + (1 : Int32))), o4, o5] [] hp19 Q)))))))) : mm_R X (d + 1) 99 42 [some ((.ref a0)), some (.int i1), some (r2), some (.int i3), o4, o5] [] hp Q := by
  refine mm_R.wgi (pc' := 44) (L' := [some ((.ref a0)), some (.int i1), some (r2), some (.int i3), o4, o5]) (r := [.int i3]) 2 rfl rfl (H.mono (fun x1 H => ?_))
  refine mm_R.br (L' := [some ((.ref a0)), some (.int i1), some (r2), some (.int i3), o4, o5]) (st' := []) (t := 70) (u := 50) (b := mm_cc .ge i3 x1) 1 rfl (fun c => ?_) (fun c => ?_)
  · replace H := H.1 (of_decide_eq_true c)
    refine mm_R.wgv (pc' := 71) (L' := [some ((.ref a0)), some (.int i1), some (r2), some (.int i3), o4, o5]) (r := []) 1 rfl rfl (H.mono (fun v2 H => ?_))
    obtain ⟨hr3, H⟩ := H
    refine mm_R.al (pc' := 74) (L' := [some ((.ref a0)), some (.int i1), some (r2), some (.int i3), o4, o5]) (r := [v2]) (v := r2) 0 rfl rfl rfl rfl hr3 ?_
    refine mm_R.wgi (pc' := 75) (L' := [some ((.ref a0)), some (.int i1), some (r2), some (.int i3), o4, o5]) (r := [v2]) 0 rfl rfl (H.mono (fun x4 H => ?_))
    refine mm_R.wav (pc' := 78) (L' := [some ((.ref a0)), some (.int i1), some (r2), some (.int i3), o4, o5]) (r := []) 0 rfl rfl (H.mono (fun v5 H => ?_))
    obtain ⟨hr6, H⟩ := H
    refine mm_R.as (pc' := 79) (L' := [some ((.ref a0)), some (.int i1), some (r2), some (.int i3), o4, o5]) (r := []) (v := v5) 0 rfl rfl rfl rfl hr6 ?_
    refine mm_R.wgv (pc' := 81) (L' := [some ((.ref a0)), some (.int i1), some (r2), some (v5), o4, o5]) (r := []) 1 rfl rfl (H.mono (fun v7 H => ?_))
    refine mm_R.al (pc' := 84) (L' := [some ((.ref a0)), some (.int i1), some (r2), some (v5), o4, o5]) (r := [v7]) (v := r2) 0 rfl rfl rfl rfl hr3 ?_
    refine mm_R.wgi (pc' := 85) (L' := [some ((.ref a0)), some (.int i1), some (r2), some (v5), o4, o5]) (r := [v7]) 0 rfl rfl (H.mono (fun x8 H => ?_))
    refine mm_R.wav (pc' := 88) (L' := [some ((.ref a0)), some (.int i1), some (r2), some (v5), o4, o5]) (r := []) 0 rfl rfl (H.mono (fun v9 H => ?_))
    obtain ⟨hr10, H⟩ := H
    refine mm_R.as (pc' := 89) (L' := [some ((.ref a0)), some (.int i1), some (r2), some (v5), o4, o5]) (r := []) (v := v9) 0 rfl rfl rfl rfl hr10 ?_
    refine mm_R.al (pc' := 91) (L' := [some ((.ref a0)), some (.int i1), some (r2), some (v5), some (v9), o5]) (r := []) (v := v5) 0 rfl rfl rfl rfl hr6 ?_
    refine mm_R.wnl (pc' := 92) (L' := [some ((.ref a0)), some (.int i1), some (r2), some (v5), some (v9), o5]) (r := []) (v := v5) (t := 95) (u := 99) 0 rfl rfl rfl (H.mono (fun H => ?_) (fun H => ?_))
    · exact mm_R.pn (pc' := 110) (L' := [some ((.ref a0)), some (.int i1), some (r2), some (v5), some (v9), o5]) (st' := [.null]) 2 rfl H
    · refine mm_R.al (pc' := 99) (L' := [some ((.ref a0)), some (.int i1), some (r2), some (v5), some (v9), o5]) (r := []) (v := r2) 0 rfl rfl rfl rfl hr3 ?_
      refine mm_R.al (pc' := 100) (L' := [some ((.ref a0)), some (.int i1), some (r2), some (v5), some (v9), o5]) (r := [r2]) (v := v5) 0 rfl rfl rfl rfl hr6 ?_
      refine mm_R.wgv (pc' := 101) (L' := [some ((.ref a0)), some (.int i1), some (r2), some (v5), some (v9), o5]) (r := [r2]) 0 rfl rfl (H.mono (fun v11 H => ?_))
      refine mm_R.wgi (pc' := 104) (L' := [some ((.ref a0)), some (.int i1), some (r2), some (v5), some (v9), o5]) (r := [r2]) 0 rfl rfl (H.mono (fun x12 H => ?_))
      obtain ⟨hc13, H⟩ := H
      refine mm_R.cV (pc' := 107) (L' := [some ((.ref a0)), some (.int i1), some (r2), some (v5), some (v9), o5]) (st1 := [.int x12, r2]) (as := [.int x12]) (rest := []) 0 rfl rfl (mw_sp rfl rfl (Nat.le_of_ble_eq_true rfl) (mw_ac (mw_c1 hc13.isr) (mw_ac rfl mw_an)) mw_an) rfl rfl hc13 (H.mono (fun o hp14 H => ?_))
      obtain ⟨v15, rfl, H⟩ := H
      exact H
  · replace H := H.2 (of_decide_eq_false c)
    refine mm_R.wgv (pc' := 51) (L' := [some ((.ref a0)), some (.int i1), some (r2), some (.int i3), o4, o5]) (r := []) 1 rfl rfl (H.mono (fun v16 H => ?_))
    refine mm_R.wgv (pc' := 56) (L' := [some ((.ref a0)), some (.int i1), some (r2), some (.int i3), o4, o5]) (r := [.int i3, v16]) 2 rfl rfl (H.mono (fun v17 H => ?_))
    refine mm_R.wav (pc' := 62) (L' := [some ((.ref a0)), some (.int i1), some (r2), some (.int i3), o4, o5]) (r := [.int i3, v16]) 3 rfl rfl (H.mono (fun v18 H => ?_))
    refine mm_R.wsv (pc' := 63) (L' := [some ((.ref a0)), some (.int i1), some (r2), some (.int i3), o4, o5]) (r := []) 0 rfl rfl (H.mono (fun hp19 H => ?_))
    exact mm_R.pn (pc' := 42) (L' := [some ((.ref a0)), some (.int i1), some (r2), some (.int (i3 + (1 : Int32))), o4, o5]) (st' := []) 2 rfl H
-- StepRunner$Run.endJob, from 110
set_option maxRecDepth 10000 in
theorem w99_110 {X : List Int32} {d : Nat} {a0 : Nat} {i1 : Int32} {r2 : Value} {r3 : Value} {r4 : Value} {o5 : Option Value} {s0 : Value} {hp : mm_H} {Q : Option Value → mm_H → Prop} (H : mm_isr s0 = true ∧ mw_nl s0 (mm_isr r4 = true ∧ mw_pt 5 10 r4 (.int (3 : Int32)) hp (fun hp3 => mm_R X (d + 1) 99 142 [some ((.ref a0)), some (.int i1), some (r2), some (r3), some (r4), some (s0)] [] hp3 Q)) (mm_isr r4 = true ∧ mm_isr r2 = true ∧ mw_gi 9 1 r2 hp (fun x6 => mw_rc r4 108 hp ∧ mm_R X d 108 0 (mm_L0 108 [r4, .int x6, s0]) [] hp (mw_r0 (fun hp8 => mm_R X d 92 0 (mm_L0 92 [r4]) [] hp8 (mw_r0 (fun hp9 => mm_R X (d + 1) 99 142 [some ((.ref a0)), some (.int i1), some (r2), some (r3), some (r4), some (s0)] [] hp9 Q))))))) : mm_R X (d + 1) 99 110 [some ((.ref a0)), some (.int i1), some (r2), some (r3), some (r4), o5] [s0] hp Q := by
  obtain ⟨hr1, H⟩ := H
  refine mm_R.as (pc' := 110) (L' := [some ((.ref a0)), some (.int i1), some (r2), some (r3), some (r4), o5]) (r := []) (v := s0) 0 rfl rfl rfl rfl hr1 ?_
  refine mm_R.al (pc' := 112) (L' := [some ((.ref a0)), some (.int i1), some (r2), some (r3), some (r4), some (s0)]) (r := []) (v := s0) 0 rfl rfl rfl rfl hr1 ?_
  refine mm_R.wnl (pc' := 114) (L' := [some ((.ref a0)), some (.int i1), some (r2), some (r3), some (r4), some (s0)]) (r := []) (v := s0) (t := 117) (u := 126) 0 rfl rfl rfl (H.mono (fun H => ?_) (fun H => ?_))
  · obtain ⟨hr2, H⟩ := H
    refine mm_R.al (pc' := 117) (L' := [some ((.ref a0)), some (.int i1), some (r2), some (r3), some (r4), some (s0)]) (r := []) (v := r4) 0 rfl rfl rfl rfl hr2 ?_
    refine mm_R.wpt (pc' := 120) (L' := [some ((.ref a0)), some (.int i1), some (r2), some (r3), some (r4), some (s0)]) (r := []) 1 rfl rfl (H.mono (fun hp3 H => ?_))
    exact mm_R.pn (pc' := 142) (L' := [some ((.ref a0)), some (.int i1), some (r2), some (r3), some (r4), some (s0)]) (st' := []) 1 rfl H
  · obtain ⟨hr4, H⟩ := H
    refine mm_R.al (pc' := 126) (L' := [some ((.ref a0)), some (.int i1), some (r2), some (r3), some (r4), some (s0)]) (r := []) (v := r4) 0 rfl rfl rfl rfl hr4 ?_
    obtain ⟨hr5, H⟩ := H
    refine mm_R.al (pc' := 128) (L' := [some ((.ref a0)), some (.int i1), some (r2), some (r3), some (r4), some (s0)]) (r := [r4]) (v := r2) 0 rfl rfl rfl rfl hr5 ?_
    refine mm_R.wgi (pc' := 129) (L' := [some ((.ref a0)), some (.int i1), some (r2), some (r3), some (r4), some (s0)]) (r := [r4]) 0 rfl rfl (H.mono (fun x6 H => ?_))
    refine mm_R.al (pc' := 132) (L' := [some ((.ref a0)), some (.int i1), some (r2), some (r3), some (r4), some (s0)]) (r := [.int x6, r4]) (v := s0) 0 rfl rfl rfl rfl hr1 ?_
    obtain ⟨hc7, H⟩ := H
    refine mm_R.cV (pc' := 134) (L' := [some ((.ref a0)), some (.int i1), some (r2), some (r3), some (r4), some (s0)]) (st1 := [s0, .int x6, r4]) (as := [.int x6, s0]) (rest := []) 0 rfl rfl (mw_sp rfl rfl (Nat.le_of_ble_eq_true rfl) (mw_ac (mw_c1 hc7.isr) (mw_ac rfl (mw_ac (mw_c1 hr1) mw_an))) mw_an) rfl rfl hc7 (H.mono (fun o hp8 H => ?_))
    obtain ⟨rfl, H⟩ := H
    refine mm_R.al (pc' := 137) (L' := [some ((.ref a0)), some (.int i1), some (r2), some (r3), some (r4), some (s0)]) (r := []) (v := r4) 0 rfl rfl rfl rfl hc7.isr ?_
    refine mm_R.cS (pc' := 139) (L' := [some ((.ref a0)), some (.int i1), some (r2), some (r3), some (r4), some (s0)]) (st1 := [r4]) (as := [r4]) (rest := []) 0 rfl rfl (mw_sp rfl rfl (Nat.le_of_ble_eq_true rfl) (mw_ac (mw_c1 hc7.isr) mw_an) mw_an) rfl rfl (H.mono (fun o hp9 H => ?_))
    obtain ⟨rfl, H⟩ := H
    exact H
-- StepRunner$Run.endJob, from 142
set_option maxRecDepth 10000 in
theorem w99_142 {X : List Int32} {d : Nat} {a0 : Nat} {i1 : Int32} {r2 : Value} {r3 : Value} {r4 : Value} {r5 : Value} {hp : mm_H} {Q : Option Value → mm_H → Prop} (H : mw_gi 3 9 (.ref a0) hp (fun x1 => ((¬ x1 = (0 : Int32) → mw_pt 3 9 (.ref a0) (.int (1 : Int32)) hp (fun hp2 => Q (some (.int (1 : Int32))) hp2)) ∧ (x1 = (0 : Int32) → mm_isr r4 = true ∧ mw_gi 5 10 r4 hp (fun x4 => ((¬ x4 = (3 : Int32) → mw_pt 3 9 (.ref a0) (.int (0 : Int32)) hp (fun hp5 => Q (some (.int (1 : Int32))) hp5)) ∧ (x4 = (3 : Int32) → mw_pt 3 9 (.ref a0) (.int (1 : Int32)) hp (fun hp6 => Q (some (.int (1 : Int32))) hp6)))))))) : mm_R X (d + 1) 99 142 [some ((.ref a0)), some (.int i1), some (r2), some (r3), some (r4), some (r5)] [] hp Q := by
  refine mm_R.wgi (pc' := 144) (L' := [some ((.ref a0)), some (.int i1), some (r2), some (r3), some (r4), some (r5)]) (r := [(.ref a0)]) 2 rfl rfl (H.mono (fun x1 H => ?_))
  refine mm_R.br (L' := [some ((.ref a0)), some (.int i1), some (r2), some (r3), some (r4), some (r5)]) (st' := [(.ref a0)]) (t := 159) (u := 150) (b := mm_cc .ne x1 (0 : Int32)) 1 rfl (fun c => ?_) (fun c => ?_)
  · replace H := H.1 (of_decide_eq_true c)
    refine mm_R.wpt (pc' := 164) (L' := [some ((.ref a0)), some (.int i1), some (r2), some (r3), some (r4), some (r5)]) (r := []) 2 rfl rfl (H.mono (fun hp2 H => ?_))
    exact mm_R.rt (pc' := 168) (L' := [some ((.ref a0)), some (.int i1), some (r2), some (r3), some (r4), some (r5)]) (st1 := [.int (1 : Int32)]) 1 rfl rfl rfl rfl rfl rfl H
  · replace H := H.2 (Decidable.of_not_not (of_decide_eq_false c))
    obtain ⟨hr3, H⟩ := H
    refine mm_R.al (pc' := 150) (L' := [some ((.ref a0)), some (.int i1), some (r2), some (r3), some (r4), some (r5)]) (r := [(.ref a0)]) (v := r4) 0 rfl rfl rfl rfl hr3 ?_
    refine mm_R.wgi (pc' := 152) (L' := [some ((.ref a0)), some (.int i1), some (r2), some (r3), some (r4), some (r5)]) (r := [(.ref a0)]) 0 rfl rfl (H.mono (fun x4 H => ?_))
    refine mm_R.br (L' := [some ((.ref a0)), some (.int i1), some (r2), some (r3), some (r4), some (r5)]) (st' := [(.ref a0)]) (t := 163) (u := 159) (b := mm_cc .ne x4 (3 : Int32)) 2 rfl (fun c => ?_) (fun c => ?_)
    · replace H := H.1 (of_decide_eq_true c)
      refine mm_R.wpt (pc' := 164) (L' := [some ((.ref a0)), some (.int i1), some (r2), some (r3), some (r4), some (r5)]) (r := []) 1 rfl rfl (H.mono (fun hp5 H => ?_))
      exact mm_R.rt (pc' := 168) (L' := [some ((.ref a0)), some (.int i1), some (r2), some (r3), some (r4), some (r5)]) (st1 := [.int (1 : Int32)]) 1 rfl rfl rfl rfl rfl rfl H
    · replace H := H.2 (Decidable.of_not_not (of_decide_eq_false c))
      refine mm_R.wpt (pc' := 164) (L' := [some ((.ref a0)), some (.int i1), some (r2), some (r3), some (r4), some (r5)]) (r := []) 2 rfl rfl (H.mono (fun hp6 H => ?_))
      exact mm_R.rt (pc' := 168) (L' := [some ((.ref a0)), some (.int i1), some (r2), some (r3), some (r4), some (r5)]) (st1 := [.int (1 : Int32)]) 1 rfl rfl rfl rfl rfl rfl H
-- StepRunner$Run.activeJob, from 0
set_option maxRecDepth 10000 in
theorem w100_0 {X : List Int32} {d : Nat} {a0 : Nat} {i1 : Int32} {hp : mm_H} {Q : Option Value → mm_H → Prop} (H : ((i1 < (0 : Int32) → Q (some .null) hp) ∧ (¬ i1 < (0 : Int32) → mw_gi 3 3 (.ref a0) hp (fun x1 => ((x1 ≤ i1 → Q (some .null) hp) ∧ (¬ x1 ≤ i1 → ((i1 < (3 : Int32) → mw_gv 3 2 (.ref a0) hp (fun v2 => mw_av v2 i1 hp (fun v3 => mw_nr v3 ∧ Q (some v3) hp))) ∧ (¬ i1 < (3 : Int32) → Q (some .null) hp)))))))) : mm_R X (d + 1) 100 0 (mm_L0 100 [(.ref a0), .int i1]) [] hp Q := by
  show mm_R X (d + 1) 100 0 [some ((.ref a0)), some (.int i1)] [] hp Q
  refine mm_R.br (L' := [some ((.ref a0)), some (.int i1)]) (st' := []) (t := 17) (u := 4) (b := mm_cc .lt i1 (0 : Int32)) 2 rfl (fun c => ?_) (fun c => ?_)
  · replace H := H.1 (of_decide_eq_true c)
    exact mm_R.rt (pc' := 27) (L' := [some ((.ref a0)), some (.int i1)]) (st1 := [.null]) 2 rfl rfl rfl rfl rfl rfl H
  · replace H := H.2 (of_decide_eq_false c)
    refine mm_R.wgi (pc' := 6) (L' := [some ((.ref a0)), some (.int i1)]) (r := [.int i1]) 2 rfl rfl (H.mono (fun x1 H => ?_))
    refine mm_R.br (L' := [some ((.ref a0)), some (.int i1)]) (st' := []) (t := 17) (u := 12) (b := mm_cc .ge i1 x1) 1 rfl (fun c => ?_) (fun c => ?_)
    · replace H := H.1 (of_decide_eq_true c)
      exact mm_R.rt (pc' := 27) (L' := [some ((.ref a0)), some (.int i1)]) (st1 := [.null]) 2 rfl rfl rfl rfl rfl rfl H
    · replace H := H.2 (of_decide_eq_false c)
      refine mm_R.br (L' := [some ((.ref a0)), some (.int i1)]) (st' := []) (t := 21) (u := 17) (b := mm_cc .lt i1 (3 : Int32)) 3 rfl (fun c => ?_) (fun c => ?_)
      · replace H := H.1 (of_decide_eq_true c)
        refine mm_R.wgv (pc' := 22) (L' := [some ((.ref a0)), some (.int i1)]) (r := []) 1 rfl rfl (H.mono (fun v2 H => ?_))
        refine mm_R.wav (pc' := 26) (L' := [some ((.ref a0)), some (.int i1)]) (r := []) 1 rfl rfl (H.mono (fun v3 H => ?_))
        exact mm_R.rt (pc' := 27) (L' := [some ((.ref a0)), some (.int i1)]) (st1 := [v3]) 0 rfl rfl rfl rfl rfl (mw_rva (ty := (.object "StepRunner$Job")) H.1 rfl) H.2
      · replace H := H.2 (of_decide_eq_false c)
        exact mm_R.rt (pc' := 27) (L' := [some ((.ref a0)), some (.int i1)]) (st1 := [.null]) 2 rfl rfl rfl rfl rfl rfl H
-- StepRunner$Job.makeResult, from 0
set_option maxRecDepth 10000 in
theorem w101_0 {X : List Int32} {d : Nat} {a0 : Nat} {i1 : Int32} {hp : mm_H} {Q : Option Value → mm_H → Prop} (H : (((i1.toInt < 0 ∨ 3 < i1.toInt) → Q (some .null) hp) ∧ (i1.toInt = 0 → mw_rc (.ref a0) 102 hp ∧ mm_R X d 102 0 (mm_L0 102 [(.ref a0)]) [] hp (mw_rv (fun v3 hp2 => mw_nr v3 ∧ Q (some v3) hp2))) ∧ (i1.toInt = 1 → mw_gi 9 4 (.ref a0) hp (fun x4 => mm_R X d 39 0 (mm_L0 39 [.int x4]) [] hp (mw_rv (fun v6 hp5 => mw_nr v6 ∧ Q (some v6) hp5)))) ∧ (i1.toInt = 2 → mw_rc (.ref a0) 106 hp ∧ mm_R X d 106 0 (mm_L0 106 [(.ref a0)]) [] hp (mw_rv (fun v9 hp8 => mw_nr v9 ∧ Q (some v9) hp8))) ∧ (i1.toInt = 3 → mw_rc (.ref a0) 107 hp ∧ mm_R X d 107 0 (mm_L0 107 [(.ref a0)]) [] hp (mw_rv (fun v12 hp11 => mw_nr v12 ∧ Q (some v12) hp11))))) : mm_R X (d + 1) 101 0 (mm_L0 101 [(.ref a0), .int i1]) [] hp Q := by
  show mm_R X (d + 1) 101 0 [some ((.ref a0)), some (.int i1)] [] hp Q
  by_cases c : i1.toInt < 0 ∨ 3 < i1.toInt
  · refine mm_R.swD (pc' := 1) (L' := [some ((.ref a0)), some (.int i1)]) (r := []) (t := 55) 1 rfl rfl c rfl ?_
    replace H := H.1 c
    exact mm_R.rt (pc' := 56) (L' := [some ((.ref a0)), some (.int i1)]) (st1 := [.null]) 1 rfl rfl rfl rfl rfl rfl H
  · replace H := H.2
    have c2 : i1.toInt = 0 ∨ i1.toInt = 1 ∨ i1.toInt = 2 ∨ i1.toInt = 3 := by omega
    rcases c2 with c2 | c2 | c2 | c2
    · refine mm_R.swI (pc' := 1) (L' := [some ((.ref a0)), some (.int i1)]) (r := []) (t := 32) 1 rfl rfl c (i := 0) c2 rfl rfl ?_
      replace H := H.1 c2
      obtain ⟨hc1, H⟩ := H
      refine mm_R.cV (pc' := 33) (L' := [some ((.ref a0)), some (.int i1)]) (st1 := [(.ref a0)]) (as := []) (rest := []) 1 rfl rfl (mw_sp rfl rfl (Nat.le_of_ble_eq_true rfl) (mw_ac rfl mw_an) mw_an) rfl rfl hc1 (H.mono (fun o hp2 H => ?_))
      obtain ⟨v3, rfl, H⟩ := H
      exact mm_R.rt (pc' := 36) (L' := [some ((.ref a0)), some (.int i1)]) (st1 := [v3]) 0 rfl rfl rfl rfl rfl (mw_rva (ty := (.object "StepRunner$Value")) H.1 rfl) H.2
    · refine mm_R.swI (pc' := 1) (L' := [some ((.ref a0)), some (.int i1)]) (r := []) (t := 37) 1 rfl rfl c (i := 1) c2 rfl rfl ?_
      replace H := H.2.1 c2
      refine mm_R.wgi (pc' := 38) (L' := [some ((.ref a0)), some (.int i1)]) (r := []) 1 rfl rfl (H.mono (fun x4 H => ?_))
      refine mm_R.cS (pc' := 41) (L' := [some ((.ref a0)), some (.int i1)]) (st1 := [.int x4]) (as := [.int x4]) (rest := []) 0 rfl rfl (mw_sp rfl rfl (Nat.le_of_ble_eq_true rfl) (mw_ac rfl mw_an) mw_an) rfl rfl (H.mono (fun o hp5 H => ?_))
      obtain ⟨v6, rfl, H⟩ := H
      exact mm_R.rt (pc' := 44) (L' := [some ((.ref a0)), some (.int i1)]) (st1 := [v6]) 0 rfl rfl rfl rfl rfl (mw_rva (ty := (.object "StepRunner$Value")) H.1 rfl) H.2
    · refine mm_R.swI (pc' := 1) (L' := [some ((.ref a0)), some (.int i1)]) (r := []) (t := 45) 1 rfl rfl c (i := 2) c2 rfl rfl ?_
      replace H := H.2.2.1 c2
      obtain ⟨hc7, H⟩ := H
      refine mm_R.cV (pc' := 46) (L' := [some ((.ref a0)), some (.int i1)]) (st1 := [(.ref a0)]) (as := []) (rest := []) 1 rfl rfl (mw_sp rfl rfl (Nat.le_of_ble_eq_true rfl) (mw_ac rfl mw_an) mw_an) rfl rfl hc7 (H.mono (fun o hp8 H => ?_))
      obtain ⟨v9, rfl, H⟩ := H
      exact mm_R.rt (pc' := 49) (L' := [some ((.ref a0)), some (.int i1)]) (st1 := [v9]) 0 rfl rfl rfl rfl rfl (mw_rva (ty := (.object "StepRunner$Value")) H.1 rfl) H.2
    · refine mm_R.swI (pc' := 1) (L' := [some ((.ref a0)), some (.int i1)]) (r := []) (t := 50) 1 rfl rfl c (i := 3) c2 rfl rfl ?_
      replace H := H.2.2.2 c2
      obtain ⟨hc10, H⟩ := H
      refine mm_R.cV (pc' := 51) (L' := [some ((.ref a0)), some (.int i1)]) (st1 := [(.ref a0)]) (as := []) (rest := []) 1 rfl rfl (mw_sp rfl rfl (Nat.le_of_ble_eq_true rfl) (mw_ac rfl mw_an) mw_an) rfl rfl hc10 (H.mono (fun o hp11 H => ?_))
      obtain ⟨v12, rfl, H⟩ := H
      exact mm_R.rt (pc' := 54) (L' := [some ((.ref a0)), some (.int i1)]) (st1 := [v12]) 0 rfl rfl rfl rfl rfl (mw_rva (ty := (.object "StepRunner$Value")) H.1 rfl) H.2
