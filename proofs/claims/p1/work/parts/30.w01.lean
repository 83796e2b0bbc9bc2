-- StepRunner.port, from 0
set_option maxRecDepth 10000 in
theorem w18_0 {X : List Int32} {d : Nat} {a0 : Nat} {i1 : Int32} {i2 : Int32} {i3 : Int32} {i4 : Int32} {hp : mm_H} {Q : Option Value → mm_H → Prop} (H : mw_gv 0 6 (.ref a0) hp (fun v1 => mw_rc v1 16 hp ∧ mm_R X d 16 0 (mm_L0 16 [v1]) [] hp (mw_ri (fun x4 hp3 => ((¬ x4 = (0 : Int32) → Q (some (.int (-1 : Int32))) hp3) ∧ (x4 = (0 : Int32) → ((i1 < (0 : Int32) → Q (some (.int (-1 : Int32))) hp3) ∧ (¬ i1 < (0 : Int32) → mw_gi 0 3 (.ref a0) hp3 (fun x5 => ((i1 < x5 → ((i2 < (-9 : Int32) → mm_R X (d + 1) 18 41 [some ((.ref a0)), some (.int i1), some (.int i2), some (.int i3), some (.int i4), none, none, none, none] [.int (0 : Int32)] hp3 Q) ∧ (¬ i2 < (-9 : Int32) → (((9 : Int32) < i2 → mm_R X (d + 1) 18 41 [some ((.ref a0)), some (.int i1), some (.int i2), some (.int i3), some (.int i4), none, none, none, none] [.int (0 : Int32)] hp3 Q) ∧ (¬ (9 : Int32) < i2 → mm_R X (d + 1) 18 41 [some ((.ref a0)), some (.int i1), some (.int i2), some (.int i3), some (.int i4), none, none, none, none] [.int (1 : Int32)] hp3 Q))))) ∧ (¬ i1 < x5 → Q (some (.int (-1 : Int32))) hp3))))))))))) : mm_R X (d + 1) 18 0 (mm_L0 18 [(.ref a0), .int i1, .int i2, .int i3, .int i4]) [] hp Q := by
  show mm_R X (d + 1) 18 0 [some ((.ref a0)), some (.int i1), some (.int i2), some (.int i3), some (.int i4), none, none, none, none] [] hp Q
  refine mm_R.wgv (pc' := 1) (L' := [some ((.ref a0)), some (.int i1), some (.int i2), some (.int i3), some (.int i4), none, none, none, none]) (r := []) 1 rfl rfl (H.mono (fun v1 H => ?_))
  obtain ⟨hc2, H⟩ := H
  refine mm_R.cV (pc' := 4) (L' := [some ((.ref a0)), some (.int i1), some (.int i2), some (.int i3), some (.int i4), none, none, none, none]) (st1 := [v1]) (as := []) (rest := []) 0 rfl rfl (mw_sp rfl rfl (Nat.le_of_ble_eq_true rfl) (mw_ac (mw_c1 hc2.isr) mw_an) mw_an) rfl rfl hc2 (H.mono (fun o hp3 H => ?_))
  obtain ⟨x4, rfl, H⟩ := H
  refine mm_R.br (L' := [some ((.ref a0)), some (.int i1), some (.int i2), some (.int i3), some (.int i4), none, none, none, none]) (st' := []) (t := 22) (u := 10) (b := mm_cc .ne x4 (0 : Int32)) 1 rfl (fun c => ?_) (fun c => ?_)
  · replace H := H.1 (of_decide_eq_true c)
    exact mm_R.rt (pc' := 23) (L' := [some ((.ref a0)), some (.int i1), some (.int i2), some (.int i3), some (.int i4), none, none, none, none]) (st1 := [.int (-1 : Int32)]) 1 rfl rfl rfl rfl rfl rfl H
  · replace H := H.2 (Decidable.of_not_not (of_decide_eq_false c))
    refine mm_R.br (L' := [some ((.ref a0)), some (.int i1), some (.int i2), some (.int i3), some (.int i4), none, none, none, none]) (st' := []) (t := 22) (u := 14) (b := mm_cc .lt i1 (0 : Int32)) 2 rfl (fun c => ?_) (fun c => ?_)
    · replace H := H.1 (of_decide_eq_true c)
      exact mm_R.rt (pc' := 23) (L' := [some ((.ref a0)), some (.int i1), some (.int i2), some (.int i3), some (.int i4), none, none, none, none]) (st1 := [.int (-1 : Int32)]) 1 rfl rfl rfl rfl rfl rfl H
    · replace H := H.2 (of_decide_eq_false c)
      refine mm_R.wgi (pc' := 16) (L' := [some ((.ref a0)), some (.int i1), some (.int i2), some (.int i3), some (.int i4), none, none, none, none]) (r := [.int i1]) 2 rfl rfl (H.mono (fun x5 H => ?_))
      refine mm_R.br (L' := [some ((.ref a0)), some (.int i1), some (.int i2), some (.int i3), some (.int i4), none, none, none, none]) (st' := []) (t := 24) (u := 22) (b := mm_cc .lt i1 x5) 1 rfl (fun c => ?_) (fun c => ?_)
      · replace H := H.1 (of_decide_eq_true c)
        refine mm_R.br (L' := [some ((.ref a0)), some (.int i1), some (.int i2), some (.int i3), some (.int i4), none, none, none, none]) (st' := []) (t := 40) (u := 30) (b := mm_cc .lt i2 (-9 : Int32)) 3 rfl (fun c => ?_) (fun c => ?_)
        · replace H := H.1 (of_decide_eq_true c)
          exact mm_R.pn (pc' := 41) (L' := [some ((.ref a0)), some (.int i1), some (.int i2), some (.int i3), some (.int i4), none, none, none, none]) (st' := [.int (0 : Int32)]) 1 rfl H
        · replace H := H.2 (of_decide_eq_false c)
          refine mm_R.br (L' := [some ((.ref a0)), some (.int i1), some (.int i2), some (.int i3), some (.int i4), none, none, none, none]) (st' := []) (t := 40) (u := 36) (b := mm_cc .gt i2 (9 : Int32)) 3 rfl (fun c => ?_) (fun c => ?_)
          · replace H := H.1 (of_decide_eq_true c)
            exact mm_R.pn (pc' := 41) (L' := [some ((.ref a0)), some (.int i1), some (.int i2), some (.int i3), some (.int i4), none, none, none, none]) (st' := [.int (0 : Int32)]) 1 rfl H
          · replace H := H.2 (of_decide_eq_false c)
            exact mm_R.pn (pc' := 41) (L' := [some ((.ref a0)), some (.int i1), some (.int i2), some (.int i3), some (.int i4), none, none, none, none]) (st' := [.int (1 : Int32)]) 2 rfl H
      · replace H := H.2 (of_decide_eq_false c)
        exact mm_R.rt (pc' := 23) (L' := [some ((.ref a0)), some (.int i1), some (.int i2), some (.int i3), some (.int i4), none, none, none, none]) (st1 := [.int (-1 : Int32)]) 1 rfl rfl rfl rfl rfl rfl H
-- StepRunner.port, from 41
set_option maxRecDepth 10000 in
theorem w18_41 {X : List Int32} {d : Nat} {a0 : Nat} {i1 : Int32} {i2 : Int32} {i3 : Int32} {i4 : Int32} {o5 : Option Value} {o6 : Option Value} {o7 : Option Value} {o8 : Option Value} {s0 : Int32} {hp : mm_H} {Q : Option Value → mm_H → Prop} (H : ((i3 = (0 : Int32) → mm_R X (d + 1) 18 64 [some ((.ref a0)), some (.int i1), some (.int i2), some (.int i3), some (.int i4), some (.int s0), o6, o7, o8] [.int (1 : Int32)] hp Q) ∧ (¬ i3 = (0 : Int32) → ((i3 < (97 : Int32) → mm_R X (d + 1) 18 64 [some ((.ref a0)), some (.int i1), some (.int i2), some (.int i3), some (.int i4), some (.int s0), o6, o7, o8] [.int (0 : Int32)] hp Q) ∧ (¬ i3 < (97 : Int32) → (((122 : Int32) < i3 → mm_R X (d + 1) 18 64 [some ((.ref a0)), some (.int i1), some (.int i2), some (.int i3), some (.int i4), some (.int s0), o6, o7, o8] [.int (0 : Int32)] hp Q) ∧ (¬ (122 : Int32) < i3 → mm_R X (d + 1) 18 64 [some ((.ref a0)), some (.int i1), some (.int i2), some (.int i3), some (.int i4), some (.int s0), o6, o7, o8] [.int (1 : Int32)] hp Q))))))) : mm_R X (d + 1) 18 41 [some ((.ref a0)), some (.int i1), some (.int i2), some (.int i3), some (.int i4), o5, o6, o7, o8] [.int s0] hp Q := by
  refine mm_R.br (L' := [some ((.ref a0)), some (.int i1), some (.int i2), some (.int i3), some (.int i4), some (.int s0), o6, o7, o8]) (st' := []) (t := 59) (u := 47) (b := mm_cc .eq i3 (0 : Int32)) 3 rfl (fun c => ?_) (fun c => ?_)
  · replace H := H.1 (of_decide_eq_true c)
    exact mm_R.pn (pc' := 64) (L' := [some ((.ref a0)), some (.int i1), some (.int i2), some (.int i3), some (.int i4), some (.int s0), o6, o7, o8]) (st' := [.int (1 : Int32)]) 2 rfl H
  · replace H := H.2 (of_decide_eq_false c)
    refine mm_R.br (L' := [some ((.ref a0)), some (.int i1), some (.int i2), some (.int i3), some (.int i4), some (.int s0), o6, o7, o8]) (st' := []) (t := 63) (u := 53) (b := mm_cc .lt i3 (97 : Int32)) 3 rfl (fun c => ?_) (fun c => ?_)
    · replace H := H.1 (of_decide_eq_true c)
      exact mm_R.pn (pc' := 64) (L' := [some ((.ref a0)), some (.int i1), some (.int i2), some (.int i3), some (.int i4), some (.int s0), o6, o7, o8]) (st' := [.int (0 : Int32)]) 1 rfl H
    · replace H := H.2 (of_decide_eq_false c)
      refine mm_R.br (L' := [some ((.ref a0)), some (.int i1), some (.int i2), some (.int i3), some (.int i4), some (.int s0), o6, o7, o8]) (st' := []) (t := 63) (u := 59) (b := mm_cc .gt i3 (122 : Int32)) 3 rfl (fun c => ?_) (fun c => ?_)
      · replace H := H.1 (of_decide_eq_true c)
        exact mm_R.pn (pc' := 64) (L' := [some ((.ref a0)), some (.int i1), some (.int i2), some (.int i3), some (.int i4), some (.int s0), o6, o7, o8]) (st' := [.int (0 : Int32)]) 1 rfl H
      · replace H := H.2 (of_decide_eq_false c)
        exact mm_R.pn (pc' := 64) (L' := [some ((.ref a0)), some (.int i1), some (.int i2), some (.int i3), some (.int i4), some (.int s0), o6, o7, o8]) (st' := [.int (1 : Int32)]) 2 rfl H
-- StepRunner.port, from 64
set_option maxRecDepth 10000 in
theorem w18_64 {X : List Int32} {d : Nat} {a0 : Nat} {i1 : Int32} {i2 : Int32} {i3 : Int32} {i4 : Int32} {i5 : Int32} {o6 : Option Value} {o7 : Option Value} {o8 : Option Value} {s0 : Int32} {hp : mm_H} {Q : Option Value → mm_H → Prop} (H : ((i4 < (0 : Int32) → mm_R X (d + 1) 18 82 [some ((.ref a0)), some (.int i1), some (.int i2), some (.int i3), some (.int i4), some (.int i5), some (.int s0), o7, o8] [.int (0 : Int32)] hp Q) ∧ (¬ i4 < (0 : Int32) → (((4 : Int32) < i4 → mm_R X (d + 1) 18 82 [some ((.ref a0)), some (.int i1), some (.int i2), some (.int i3), some (.int i4), some (.int i5), some (.int s0), o7, o8] [.int (0 : Int32)] hp Q) ∧ (¬ (4 : Int32) < i4 → mm_R X (d + 1) 18 82 [some ((.ref a0)), some (.int i1), some (.int i2), some (.int i3), some (.int i4), some (.int i5), some (.int s0), o7, o8] [.int (1 : Int32)] hp Q))))) : mm_R X (d + 1) 18 64 [some ((.ref a0)), some (.int i1), some (.int i2), some (.int i3), some (.int i4), some (.int i5), o6, o7, o8] [.int s0] hp Q := by
  refine mm_R.br (L' := [some ((.ref a0)), some (.int i1), some (.int i2), some (.int i3), some (.int i4), some (.int i5), some (.int s0), o7, o8]) (st' := []) (t := 81) (u := 71) (b := mm_cc .lt i4 (0 : Int32)) 3 rfl (fun c => ?_) (fun c => ?_)
  · replace H := H.1 (of_decide_eq_true c)
    exact mm_R.pn (pc' := 82) (L' := [some ((.ref a0)), some (.int i1), some (.int i2), some (.int i3), some (.int i4), some (.int i5), some (.int s0), o7, o8]) (st' := [.int (0 : Int32)]) 1 rfl H
  · replace H := H.2 (of_decide_eq_false c)
    refine mm_R.br (L' := [some ((.ref a0)), some (.int i1), some (.int i2), some (.int i3), some (.int i4), some (.int i5), some (.int s0), o7, o8]) (st' := []) (t := 81) (u := 77) (b := mm_cc .gt i4 (4 : Int32)) 3 rfl (fun c => ?_) (fun c => ?_)
    · replace H := H.1 (of_decide_eq_true c)
      exact mm_R.pn (pc' := 82) (L' := [some ((.ref a0)), some (.int i1), some (.int i2), some (.int i3), some (.int i4), some (.int i5), some (.int s0), o7, o8]) (st' := [.int (0 : Int32)]) 1 rfl H
    · replace H := H.2 (of_decide_eq_false c)
      exact mm_R.pn (pc' := 82) (L' := [some ((.ref a0)), some (.int i1), some (.int i2), some (.int i3), some (.int i4), some (.int i5), some (.int s0), o7, o8]) (st' := [.int (1 : Int32)]) 2 rfl H
-- StepRunner.port, from 82
set_option maxRecDepth 10000 in
theorem w18_82 {X : List Int32} {d : Nat} {a0 : Nat} {i1 : Int32} {i2 : Int32} {i3 : Int32} {i4 : Int32} {i5 : Int32} {i6 : Int32} {o7 : Option Value} {o8 : Option Value} {s0 : Int32} {hp : mm_H} {Q : Option Value → mm_H → Prop} (H : mw_gv 0 2 (.ref a0) hp (fun v1 => mw_av v1 i1 hp (fun v2 => mm_isr v2 = true ∧ mw_nl v2 (Q (some (.int (-1 : Int32))) hp) (((i5 = (0 : Int32) → Q (some (.int (-1 : Int32))) hp) ∧ (¬ i5 = (0 : Int32) → ((i6 = (0 : Int32) → Q (some (.int (-1 : Int32))) hp) ∧ (¬ i6 = (0 : Int32) → ((¬ s0 = (0 : Int32) → mw_rc v2 19 hp ∧ mm_R X d 19 0 (mm_L0 19 [v2, .int i2, .int i3, .int i4]) [] hp (mw_ri (fun x6 hp5 => Q (some (.int x6)) hp5))) ∧ (s0 = (0 : Int32) → Q (some (.int (-1 : Int32))) hp)))))))))) : mm_R X (d + 1) 18 82 [some ((.ref a0)), some (.int i1), some (.int i2), some (.int i3), some (.int i4), some (.int i5), some (.int i6), o7, o8] [.int s0] hp Q := by
  refine mm_R.wgv (pc' := 85) (L' := [some ((.ref a0)), some (.int i1), some (.int i2), some (.int i3), some (.int i4), some (.int i5), some (.int i6), some (.int s0), o8]) (r := []) 2 rfl rfl (H.mono (fun v1 H => ?_))
  refine mm_R.wav (pc' := 89) (L' := [some ((.ref a0)), some (.int i1), some (.int i2), some (.int i3), some (.int i4), some (.int i5), some (.int i6), some (.int s0), o8]) (r := []) 1 rfl rfl (H.mono (fun v2 H => ?_))
  obtain ⟨hr3, H⟩ := H
  refine mm_R.as (pc' := 90) (L' := [some ((.ref a0)), some (.int i1), some (.int i2), some (.int i3), some (.int i4), some (.int i5), some (.int i6), some (.int s0), o8]) (r := []) (v := v2) 0 rfl rfl rfl rfl hr3 ?_
  refine mm_R.al (pc' := 92) (L' := [some ((.ref a0)), some (.int i1), some (.int i2), some (.int i3), some (.int i4), some (.int i5), some (.int i6), some (.int s0), some (v2)]) (r := []) (v := v2) 0 rfl rfl rfl rfl hr3 ?_
  refine mm_R.wnl (pc' := 94) (L' := [some ((.ref a0)), some (.int i1), some (.int i2), some (.int i3), some (.int i4), some (.int i5), some (.int i6), some (.int s0), some (v2)]) (r := []) (v := v2) (t := 112) (u := 97) 0 rfl rfl rfl (H.mono (fun H => ?_) (fun H => ?_))
  · exact mm_R.rt (pc' := 113) (L' := [some ((.ref a0)), some (.int i1), some (.int i2), some (.int i3), some (.int i4), some (.int i5), some (.int i6), some (.int s0), some (v2)]) (st1 := [.int (-1 : Int32)]) 1 rfl rfl rfl rfl rfl rfl H
  · refine mm_R.br (L' := [some ((.ref a0)), some (.int i1), some (.int i2), some (.int i3), some (.int i4), some (.int i5), some (.int i6), some (.int s0), some (v2)]) (st' := []) (t := 112) (u := 102) (b := mm_cc .eq i5 (0 : Int32)) 2 rfl (fun c => ?_) (fun c => ?_)
    · replace H := H.1 (of_decide_eq_true c)
      exact mm_R.rt (pc' := 113) (L' := [some ((.ref a0)), some (.int i1), some (.int i2), some (.int i3), some (.int i4), some (.int i5), some (.int i6), some (.int s0), some (v2)]) (st1 := [.int (-1 : Int32)]) 1 rfl rfl rfl rfl rfl rfl H
    · replace H := H.2 (of_decide_eq_false c)
      refine mm_R.br (L' := [some ((.ref a0)), some (.int i1), some (.int i2), some (.int i3), some (.int i4), some (.int i5), some (.int i6), some (.int s0), some (v2)]) (st' := []) (t := 112) (u := 107) (b := mm_cc .eq i6 (0 : Int32)) 2 rfl (fun c => ?_) (fun c => ?_)
      · replace H := H.1 (of_decide_eq_true c)
        exact mm_R.rt (pc' := 113) (L' := [some ((.ref a0)), some (.int i1), some (.int i2), some (.int i3), some (.int i4), some (.int i5), some (.int i6), some (.int s0), some (v2)]) (st1 := [.int (-1 : Int32)]) 1 rfl rfl rfl rfl rfl rfl H
      · replace H := H.2 (of_decide_eq_false c)
        refine mm_R.br (L' := [some ((.ref a0)), some (.int i1), some (.int i2), some (.int i3), some (.int i4), some (.int i5), some (.int i6), some (.int s0), some (v2)]) (st' := []) (t := 114) (u := 112) (b := mm_cc .ne s0 (0 : Int32)) 2 rfl (fun c => ?_) (fun c => ?_)
        · replace H := H.1 (of_decide_eq_true c)
          refine mm_R.al (pc' := 114) (L' := [some ((.ref a0)), some (.int i1), some (.int i2), some (.int i3), some (.int i4), some (.int i5), some (.int i6), some (.int s0), some (v2)]) (r := []) (v := v2) 0 rfl rfl rfl rfl hr3 ?_
          obtain ⟨hc4, H⟩ := H
          refine mm_R.cV (pc' := 120) (L' := [some ((.ref a0)), some (.int i1), some (.int i2), some (.int i3), some (.int i4), some (.int i5), some (.int i6), some (.int s0), some (v2)]) (st1 := [.int i4, .int i3, .int i2, v2]) (as := [.int i2, .int i3, .int i4]) (rest := []) 3 rfl rfl (mw_sp rfl rfl (Nat.le_of_ble_eq_true rfl) (mw_ac (mw_c1 hc4.isr) (mw_ac rfl (mw_ac rfl (mw_ac rfl mw_an)))) mw_an) rfl rfl hc4 (H.mono (fun o hp5 H => ?_))
          obtain ⟨x6, rfl, H⟩ := H
          exact mm_R.rt (pc' := 123) (L' := [some ((.ref a0)), some (.int i1), some (.int i2), some (.int i3), some (.int i4), some (.int i5), some (.int i6), some (.int s0), some (v2)]) (st1 := [.int x6]) 0 rfl rfl rfl rfl rfl rfl H
        · replace H := H.2 (Decidable.of_not_not (of_decide_eq_false c))
          exact mm_R.rt (pc' := 113) (L' := [some ((.ref a0)), some (.int i1), some (.int i2), some (.int i3), some (.int i4), some (.int i5), some (.int i6), some (.int s0), some (v2)]) (st1 := [.int (-1 : Int32)]) 1 rfl rfl rfl rfl rfl rfl H
-- StepRunner$Tool.addPort, from 0
set_option maxRecDepth 10000 in
theorem w19_0 {X : List Int32} {d : Nat} {a0 : Nat} {i1 : Int32} {i2 : Int32} {i3 : Int32} {hp : mm_H} {Q : Option Value → mm_H → Prop} (H : mw_gi 6 5 (.ref a0) hp (fun x1 => ((x1 < (4 : Int32) → mw_gi 6 5 (.ref a0) hp (fun x2 => mm_R X (d + 1) 19 16 [some ((.ref a0)), some (.int i1), some (.int i2), some (.int i3), some (.int x2)] [] hp Q)) ∧ (¬ x1 < (4 : Int32) → Q (some (.int (-1 : Int32))) hp)))) : mm_R X (d + 1) 19 0 (mm_L0 19 [(.ref a0), .int i1, .int i2, .int i3]) [] hp Q := by
  show mm_R X (d + 1) 19 0 [some ((.ref a0)), some (.int i1), some (.int i2), some (.int i3), none] [] hp Q
  refine mm_R.wgi (pc' := 1) (L' := [some ((.ref a0)), some (.int i1), some (.int i2), some (.int i3), none]) (r := []) 1 rfl rfl (H.mono (fun x1 H => ?_))
  refine mm_R.br (L' := [some ((.ref a0)), some (.int i1), some (.int i2), some (.int i3), none]) (st' := []) (t := 10) (u := 8) (b := mm_cc .lt x1 (4 : Int32)) 2 rfl (fun c => ?_) (fun c => ?_)
  · replace H := H.1 (of_decide_eq_true c)
    refine mm_R.wgi (pc' := 11) (L' := [some ((.ref a0)), some (.int i1), some (.int i2), some (.int i3), none]) (r := []) 1 rfl rfl (H.mono (fun x2 H => ?_))
    exact mm_R.pn (pc' := 16) (L' := [some ((.ref a0)), some (.int i1), some (.int i2), some (.int i3), some (.int x2)]) (st' := []) 1 rfl H
  · replace H := H.2 (of_decide_eq_false c)
    exact mm_R.rt (pc' := 9) (L' := [some ((.ref a0)), some (.int i1), some (.int i2), some (.int i3), none]) (st1 := [.int (-1 : Int32)]) 1 rfl rfl rfl rfl rfl rfl H
-- StepRunner$Tool.addPort, from 16
set_option maxRecDepth 10000 in
theorem w19_16 {X : List Int32} {d : Nat} {a0 : Nat} {i1 : Int32} {i2 : Int32} {i3 : Int32} {i4 : Int32} {hp : mm_H} {Q : Option Value → mm_H → Prop} (H : ((i4 ≤ (0 : Int32) → mm_R X (d + 1) 19 61 [some ((.ref a0)), some (.int i1), some (.int i2), some (.int i3), some (.int i4)] [] hp Q) ∧ (¬ i4 ≤ (0 : Int32) → mw_gv 6 1 (.ref a0) hp (fun v1 => mw_gv 6 4 (.ref a0) hp (fun v2 => mw_ai 1000 v2 (i4 - (1 : Int32)) hp (fun x3 => mw_ai 1000 v1 x3 hp (fun x4 => ((x4 ≤ i1 → mm_R X (d + 1) 19 61 [some ((.ref a0)), some (.int i1), some (.int i2), some (.int i3), some (.int i4)] [] hp Q) ∧ (¬ x4 ≤ i1 → mw_gv 6 4 (.ref a0) hp (fun v5 => mw_gv 6 4 (.ref a0) hp (fun v6 => mw_ai 1000 v6 (i4 - (1 : Int32)) hp (fun x7 => mw_si 1000 .int v5 i4 x7 hp (fun hp8 => mm_R X (d + 1) 19 16 [some ((.ref a0)), some (.int i1), some (.int i2), some (.int i3), some (.int (i4 + (-1 : Int32)))] [] hp8 Q))))))))))))) : mm_R X (d + 1) 19 16 [some ((.ref a0)), some (.int i1), some (.int i2), some (.int i3), some (.int i4)] [] hp Q := by
  refine mm_R.br (L' := [some ((.ref a0)), some (.int i1), some (.int i2), some (.int i3), some (.int i4)]) (st' := []) (t := 61) (u := 21) (b := mm_cc .le i4 (0 : Int32)) 2 rfl (fun c => ?_) (fun c => ?_)
  · replace H := H.1 (of_decide_eq_true c)
    exact H
  · replace H := H.2 (of_decide_eq_false c)
    refine mm_R.wgv (pc' := 22) (L' := [some ((.ref a0)), some (.int i1), some (.int i2), some (.int i3), some (.int i4)]) (r := []) 1 rfl rfl (H.mono (fun v1 H => ?_))
    refine mm_R.wgv (pc' := 26) (L' := [some ((.ref a0)), some (.int i1), some (.int i2), some (.int i3), some (.int i4)]) (r := [v1]) 1 rfl rfl (H.mono (fun v2 H => ?_))
    refine mm_R.wai (pc' := 33) (L' := [some ((.ref a0)), some (.int i1), some (.int i2), some (.int i3), some (.int i4)]) (r := [v1]) (t := 1000) 3 rfl rfl rfl rfl (H.mono (fun x3 H => ?_))
    refine mm_R.wai (pc' := 34) (L' := [some ((.ref a0)), some (.int i1), some (.int i2), some (.int i3), some (.int i4)]) (r := []) (t := 1000) 0 rfl rfl rfl rfl (H.mono (fun x4 H => ?_))
    refine mm_R.br (L' := [some ((.ref a0)), some (.int i1), some (.int i2), some (.int i3), some (.int i4)]) (st' := []) (t := 61) (u := 39) (b := mm_cc .le x4 i1) 2 rfl (fun c => ?_) (fun c => ?_)
    · replace H := H.1 (of_decide_eq_true c)
      exact H
    · replace H := H.2 (of_decide_eq_false c)
      refine mm_R.wgv (pc' := 40) (L' := [some ((.ref a0)), some (.int i1), some (.int i2), some (.int i3), some (.int i4)]) (r := []) 1 rfl rfl (H.mono (fun v5 H => ?_))
      refine mm_R.wgv (pc' := 46) (L' := [some ((.ref a0)), some (.int i1), some (.int i2), some (.int i3), some (.int i4)]) (r := [.int i4, v5]) 2 rfl rfl (H.mono (fun v6 H => ?_))
      refine mm_R.wai (pc' := 53) (L' := [some ((.ref a0)), some (.int i1), some (.int i2), some (.int i3), some (.int i4)]) (r := [.int i4, v5]) (t := 1000) 3 rfl rfl rfl rfl (H.mono (fun x7 H => ?_))
      refine mm_R.wsi (pc' := 54) (L' := [some ((.ref a0)), some (.int i1), some (.int i2), some (.int i3), some (.int i4)]) (r := []) (t := 1000) (ty := .int) 0 rfl rfl rfl rfl (H.mono (fun hp8 H => ?_))
      exact mm_R.pn (pc' := 16) (L' := [some ((.ref a0)), some (.int i1), some (.int i2), some (.int i3), some (.int (i4 + (-1 : Int32)))]) (st' := []) 2 rfl H
-- StepRunner$Tool.addPort, from 61
set_option maxRecDepth 10000 in
theorem w19_61 {X : List Int32} {d : Nat} {a0 : Nat} {i1 : Int32} {i2 : Int32} {i3 : Int32} {i4 : Int32} {hp : mm_H} {Q : Option Value → mm_H → Prop} (H : mw_gv 6 4 (.ref a0) hp (fun v1 => mw_gi 6 5 (.ref a0) hp (fun x2 => mw_si 1000 .int v1 i4 x2 hp (fun hp3 => mw_gv 6 1 (.ref a0) hp3 (fun v4 => mw_gi 6 5 (.ref a0) hp3 (fun x5 => mw_si 1000 .int v4 x5 i1 hp3 (fun hp6 => mw_gv 6 2 (.ref a0) hp6 (fun v7 => mw_gi 6 5 (.ref a0) hp6 (fun x8 => mw_si 1001 .char v7 x8 i2 hp6 (fun hp9 => mw_gv 6 3 (.ref a0) hp9 (fun v10 => mw_gi 6 5 (.ref a0) hp9 (fun x11 => mw_si 1000 .int v10 x11 i3 hp9 (fun hp12 => mw_gi 6 5 (.ref a0) hp12 (fun x13 => mw_pt 6 5 (.ref a0) (.int (x13 + (1 : Int32))) hp12 (fun hp14 => mw_gi 6 5 (.ref a0) hp14 (fun x15 => Q (some (.int (x15 - (1 : Int32)))) hp14)))))))))))))))) : mm_R X (d + 1) 19 61 [some ((.ref a0)), some (.int i1), some (.int i2), some (.int i3), some (.int i4)] [] hp Q := by
  refine mm_R.wgv (pc' := 62) (L' := [some ((.ref a0)), some (.int i1), some (.int i2), some (.int i3), some (.int i4)]) (r := []) 1 rfl rfl (H.mono (fun v1 H => ?_))
  refine mm_R.wgi (pc' := 68) (L' := [some ((.ref a0)), some (.int i1), some (.int i2), some (.int i3), some (.int i4)]) (r := [.int i4, v1]) 2 rfl rfl (H.mono (fun x2 H => ?_))
  refine mm_R.wsi (pc' := 71) (L' := [some ((.ref a0)), some (.int i1), some (.int i2), some (.int i3), some (.int i4)]) (r := []) (t := 1000) (ty := .int) 0 rfl rfl rfl rfl (H.mono (fun hp3 H => ?_))
  refine mm_R.wgv (pc' := 73) (L' := [some ((.ref a0)), some (.int i1), some (.int i2), some (.int i3), some (.int i4)]) (r := []) 1 rfl rfl (H.mono (fun v4 H => ?_))
  refine mm_R.wgi (pc' := 77) (L' := [some ((.ref a0)), some (.int i1), some (.int i2), some (.int i3), some (.int i4)]) (r := [v4]) 1 rfl rfl (H.mono (fun x5 H => ?_))
  refine mm_R.wsi (pc' := 81) (L' := [some ((.ref a0)), some (.int i1), some (.int i2), some (.int i3), some (.int i4)]) (r := []) (t := 1000) (ty := .int) 1 rfl rfl rfl rfl (H.mono (fun hp6 H => ?_))
  refine mm_R.wgv (pc' := 83) (L' := [some ((.ref a0)), some (.int i1), some (.int i2), some (.int i3), some (.int i4)]) (r := []) 1 rfl rfl (H.mono (fun v7 H => ?_))
  refine mm_R.wgi (pc' := 87) (L' := [some ((.ref a0)), some (.int i1), some (.int i2), some (.int i3), some (.int i4)]) (r := [v7]) 1 rfl rfl (H.mono (fun x8 H => ?_))
  refine mm_R.wsi (pc' := 91) (L' := [some ((.ref a0)), some (.int i1), some (.int i2), some (.int i3), some (.int i4)]) (r := []) (t := 1001) (ty := .char) 1 rfl rfl rfl rfl (H.mono (fun hp9 H => ?_))
  refine mm_R.wgv (pc' := 93) (L' := [some ((.ref a0)), some (.int i1), some (.int i2), some (.int i3), some (.int i4)]) (r := []) 1 rfl rfl (H.mono (fun v10 H => ?_))
  refine mm_R.wgi (pc' := 97) (L' := [some ((.ref a0)), some (.int i1), some (.int i2), some (.int i3), some (.int i4)]) (r := [v10]) 1 rfl rfl (H.mono (fun x11 H => ?_))
  refine mm_R.wsi (pc' := 101) (L' := [some ((.ref a0)), some (.int i1), some (.int i2), some (.int i3), some (.int i4)]) (r := []) (t := 1000) (ty := .int) 1 rfl rfl rfl rfl (H.mono (fun hp12 H => ?_))
  refine mm_R.wgi (pc' := 104) (L' := [some ((.ref a0)), some (.int i1), some (.int i2), some (.int i3), some (.int i4)]) (r := [(.ref a0)]) 2 rfl rfl (H.mono (fun x13 H => ?_))
  refine mm_R.wpt (pc' := 109) (L' := [some ((.ref a0)), some (.int i1), some (.int i2), some (.int i3), some (.int i4)]) (r := []) 2 rfl rfl (H.mono (fun hp14 H => ?_))
  refine mm_R.wgi (pc' := 113) (L' := [some ((.ref a0)), some (.int i1), some (.int i2), some (.int i3), some (.int i4)]) (r := []) 1 rfl rfl (H.mono (fun x15 H => ?_))
  exact mm_R.rt (pc' := 118) (L' := [some ((.ref a0)), some (.int i1), some (.int i2), some (.int i3), some (.int i4)]) (st1 := [.int (x15 - (1 : Int32))]) 2 rfl rfl rfl rfl rfl rfl H
-- StepRunner.step, from 0
set_option maxRecDepth 10000 in
theorem w20_0 {X : List Int32} {d : Nat} {a0 : Nat} {i1 : Int32} {hp : mm_H} {Q : Option Value → mm_H → Prop} (H : mw_gv 0 6 (.ref a0) hp (fun v1 => mw_rc v1 16 hp ∧ mm_R X d 16 0 (mm_L0 16 [v1]) [] hp (mw_ri (fun x4 hp3 => ((¬ x4 = (0 : Int32) → Q (some (.int (-1 : Int32))) hp3) ∧ (x4 = (0 : Int32) → mw_gi 0 5 (.ref a0) hp3 (fun x5 => (((6 : Int32) ≤ x5 → Q (some (.int (-1 : Int32))) hp3) ∧ (¬ (6 : Int32) ≤ x5 → ((i1 < (0 : Int32) → Q (some (.int (-1 : Int32))) hp3) ∧ (¬ i1 < (0 : Int32) → mw_gi 0 3 (.ref a0) hp3 (fun x6 => ((i1 < x6 → mw_gv 0 2 (.ref a0) hp3 (fun v7 => mw_av v7 i1 hp3 (fun v8 => mm_isr v8 = true ∧ mw_nl v8 (Q (some (.int (-1 : Int32))) hp3) (mw_gv 0 4 (.ref a0) hp3 (fun v10 => mw_gi 0 5 (.ref a0) hp3 (fun x11 => (∀ q12 hp13, q12 = hp3.length → hp13 = hp3 ++ [(7, mm_df 7)] → mm_isr v10 = true ∧ mm_R X d 21 0 (mm_L0 21 [(.ref q12), v8]) [] hp13 (mw_r0 (fun hp15 => mw_sv v10 x11 (.ref q12) hp15 (fun hp16 => mw_gi 0 5 (.ref a0) hp16 (fun x17 => mw_pt 0 5 (.ref a0) (.int (x17 + (1 : Int32))) hp16 (fun hp18 => mw_gi 0 5 (.ref a0) hp18 (fun x19 => Q (some (.int (x19 - (1 : Int32)))) hp18))))))))))))) ∧ (¬ i1 < x6 → Q (some (.int (-1 : Int32))) hp3)))))))))))))) : mm_R X (d + 1) 20 0 (mm_L0 20 [(.ref a0), .int i1]) [] hp Q := by
  show mm_R X (d + 1) 20 0 [some ((.ref a0)), some (.int i1), none] [] hp Q
  refine mm_R.wgv (pc' := 1) (L' := [some ((.ref a0)), some (.int i1), none]) (r := []) 1 rfl rfl (H.mono (fun v1 H => ?_))
  obtain ⟨hc2, H⟩ := H
  refine mm_R.cV (pc' := 4) (L' := [some ((.ref a0)), some (.int i1), none]) (st1 := [v1]) (as := []) (rest := []) 0 rfl rfl (mw_sp rfl rfl (Nat.le_of_ble_eq_true rfl) (mw_ac (mw_c1 hc2.isr) mw_an) mw_an) rfl rfl hc2 (H.mono (fun o hp3 H => ?_))
  obtain ⟨x4, rfl, H⟩ := H
  refine mm_R.br (L' := [some ((.ref a0)), some (.int i1), none]) (st' := []) (t := 31) (u := 10) (b := mm_cc .ne x4 (0 : Int32)) 1 rfl (fun c => ?_) (fun c => ?_)
  · replace H := H.1 (of_decide_eq_true c)
    exact mm_R.rt (pc' := 32) (L' := [some ((.ref a0)), some (.int i1), none]) (st1 := [.int (-1 : Int32)]) 1 rfl rfl rfl rfl rfl rfl H
  · replace H := H.2 (Decidable.of_not_not (of_decide_eq_false c))
    refine mm_R.wgi (pc' := 11) (L' := [some ((.ref a0)), some (.int i1), none]) (r := []) 1 rfl rfl (H.mono (fun x5 H => ?_))
    refine mm_R.br (L' := [some ((.ref a0)), some (.int i1), none]) (st' := []) (t := 31) (u := 19) (b := mm_cc .ge x5 (6 : Int32)) 2 rfl (fun c => ?_) (fun c => ?_)
    · replace H := H.1 (of_decide_eq_true c)
      exact mm_R.rt (pc' := 32) (L' := [some ((.ref a0)), some (.int i1), none]) (st1 := [.int (-1 : Int32)]) 1 rfl rfl rfl rfl rfl rfl H
    · replace H := H.2 (of_decide_eq_false c)
      refine mm_R.br (L' := [some ((.ref a0)), some (.int i1), none]) (st' := []) (t := 31) (u := 23) (b := mm_cc .lt i1 (0 : Int32)) 2 rfl (fun c => ?_) (fun c => ?_)
      · replace H := H.1 (of_decide_eq_true c)
        exact mm_R.rt (pc' := 32) (L' := [some ((.ref a0)), some (.int i1), none]) (st1 := [.int (-1 : Int32)]) 1 rfl rfl rfl rfl rfl rfl H
      · replace H := H.2 (of_decide_eq_false c)
        refine mm_R.wgi (pc' := 25) (L' := [some ((.ref a0)), some (.int i1), none]) (r := [.int i1]) 2 rfl rfl (H.mono (fun x6 H => ?_))
        refine mm_R.br (L' := [some ((.ref a0)), some (.int i1), none]) (st' := []) (t := 33) (u := 31) (b := mm_cc .lt i1 x6) 1 rfl (fun c => ?_) (fun c => ?_)
        · replace H := H.1 (of_decide_eq_true c)
          refine mm_R.wgv (pc' := 34) (L' := [some ((.ref a0)), some (.int i1), none]) (r := []) 1 rfl rfl (H.mono (fun v7 H => ?_))
          refine mm_R.wav (pc' := 38) (L' := [some ((.ref a0)), some (.int i1), none]) (r := []) 1 rfl rfl (H.mono (fun v8 H => ?_))
          obtain ⟨hr9, H⟩ := H
          refine mm_R.as (pc' := 39) (L' := [some ((.ref a0)), some (.int i1), none]) (r := []) (v := v8) 0 rfl rfl rfl rfl hr9 ?_
          refine mm_R.al (pc' := 40) (L' := [some ((.ref a0)), some (.int i1), some (v8)]) (r := []) (v := v8) 0 rfl rfl rfl rfl hr9 ?_
          refine mm_R.wnl (pc' := 41) (L' := [some ((.ref a0)), some (.int i1), some (v8)]) (r := []) (v := v8) (t := 44) (u := 46) 0 rfl rfl rfl (H.mono (fun H => ?_) (fun H => ?_))
          · exact mm_R.rt (pc' := 45) (L' := [some ((.ref a0)), some (.int i1), some (v8)]) (st1 := [.int (-1 : Int32)]) 1 rfl rfl rfl rfl rfl rfl H
          · refine mm_R.wgv (pc' := 47) (L' := [some ((.ref a0)), some (.int i1), some (v8)]) (r := []) 1 rfl rfl (H.mono (fun v10 H => ?_))
            refine mm_R.wgi (pc' := 51) (L' := [some ((.ref a0)), some (.int i1), some (v8)]) (r := [v10]) 1 rfl rfl (H.mono (fun x11 H => ?_))
            refine mm_R.newK (pc' := 54) (L' := [some ((.ref a0)), some (.int i1), some (v8)]) (r := [.int x11, v10]) 0 rfl rfl (fun q12 hp13 e1 e2 => ?_)
            replace H := H _ _ e1 e2
            refine mm_R.al (pc' := 58) (L' := [some ((.ref a0)), some (.int i1), some (v8)]) (r := [(.ref q12), (.ref q12), .int x11, v10]) (v := v8) 1 rfl rfl rfl rfl hr9 ?_
            obtain ⟨hr14, H⟩ := H
            refine mm_R.cI (pc' := 59) (L' := [some ((.ref a0)), some (.int i1), some (v8)]) (st1 := [v8, (.ref q12), (.ref q12), .int x11, v10]) (as := [(.ref q12), v8]) (rest := [(.ref q12), .int x11, v10]) 0 rfl rfl (mw_sp rfl rfl (Nat.le_of_ble_eq_true rfl) (mw_ac rfl (mw_ac (mw_c1 hr9) mw_an)) (mw_ac rfl (mw_ac rfl (mw_ac (mw_c1 hr14) mw_an)))) rfl rfl rfl (H.mono (fun o hp15 H => ?_))
            obtain ⟨rfl, H⟩ := H
            refine mm_R.wsv (pc' := 62) (L' := [some ((.ref a0)), some (.int i1), some (v8)]) (r := []) 0 rfl rfl (H.mono (fun hp16 H => ?_))
            refine mm_R.wgi (pc' := 65) (L' := [some ((.ref a0)), some (.int i1), some (v8)]) (r := [(.ref a0)]) 2 rfl rfl (H.mono (fun x17 H => ?_))
            refine mm_R.wpt (pc' := 70) (L' := [some ((.ref a0)), some (.int i1), some (v8)]) (r := []) 2 rfl rfl (H.mono (fun hp18 H => ?_))
            refine mm_R.wgi (pc' := 74) (L' := [some ((.ref a0)), some (.int i1), some (v8)]) (r := []) 1 rfl rfl (H.mono (fun x19 H => ?_))
            exact mm_R.rt (pc' := 79) (L' := [some ((.ref a0)), some (.int i1), some (v8)]) (st1 := [.int (x19 - (1 : Int32))]) 2 rfl rfl rfl rfl rfl rfl H
        · replace H := H.2 (of_decide_eq_false c)
          exact mm_R.rt (pc' := 32) (L' := [some ((.ref a0)), some (.int i1), none]) (st1 := [.int (-1 : Int32)]) 1 rfl rfl rfl rfl rfl rfl H
-- StepRunner$Step.<init>, from 0
set_option maxRecDepth 10000 in
theorem w21_0 {X : List Int32} {d : Nat} {a0 : Nat} {r1 : Value} {hp : mm_H} {Q : Option Value → mm_H → Prop} (H : ((0 ≤ (12 : Int32) ∧ Int32.toNatClampNeg (12 : Int32) ≤ 100000) ∧ ∀ q1 hp2, q1 = hp.length → hp2 = hp ++ [(1000, List.replicate (Int32.toNatClampNeg (12 : Int32)) (.int 0))] → mw_pt 7 1 (.ref a0) ((.ref q1)) hp2 (fun hp3 => ((0 ≤ (4 : Int32) ∧ Int32.toNatClampNeg (4 : Int32) ≤ 100000) ∧ ∀ q4 hp5, q4 = hp3.length → hp5 = hp3 ++ [(1000, List.replicate (Int32.toNatClampNeg (4 : Int32)) (.int 0))] → mw_pt 7 2 (.ref a0) ((.ref q4)) hp5 (fun hp6 => ((0 ≤ (4 : Int32) ∧ Int32.toNatClampNeg (4 : Int32) ≤ 100000) ∧ ∀ q7 hp8, q7 = hp6.length → hp8 = hp6 ++ [(1000, List.replicate (Int32.toNatClampNeg (4 : Int32)) (.int 0))] → mw_pt 7 3 (.ref a0) ((.ref q7)) hp8 (fun hp9 => ((0 ≤ (4 : Int32) ∧ Int32.toNatClampNeg (4 : Int32) ≤ 100000) ∧ ∀ q10 hp11, q10 = hp9.length → hp11 = hp9 ++ [(1000, List.replicate (Int32.toNatClampNeg (4 : Int32)) (.int 0))] → mw_pt 7 4 (.ref a0) ((.ref q10)) hp11 (fun hp12 => ((0 ≤ (4 : Int32) ∧ Int32.toNatClampNeg (4 : Int32) ≤ 100000) ∧ ∀ q13 hp14, q13 = hp12.length → hp14 = hp12 ++ [(2002, List.replicate (Int32.toNatClampNeg (4 : Int32)) (.null))] → mw_pt 7 5 (.ref a0) ((.ref q13)) hp14 (fun hp15 => ((0 ≤ (4 : Int32) ∧ Int32.toNatClampNeg (4 : Int32) ≤ 100000) ∧ ∀ q16 hp17, q16 = hp15.length → hp17 = hp15 ++ [(2008, List.replicate (Int32.toNatClampNeg (4 : Int32)) (.null))] → mw_pt 7 6 (.ref a0) ((.ref q16)) hp17 (fun hp18 => mm_isr r1 = true ∧ mw_pt 7 0 (.ref a0) (r1) hp18 (fun hp20 => Q none hp20)))))))))))))) : mm_R X (d + 1) 21 0 (mm_L0 21 [(.ref a0), r1]) [] hp Q := by
  show mm_R X (d + 1) 21 0 [some ((.ref a0)), some (r1)] [] hp Q
  refine mm_R.cP (pc' := 1) (L' := [some ((.ref a0)), some (r1)]) (st1 := [(.ref a0)]) (as := [(.ref a0)]) (rest := []) (o := none) 1 rfl rfl rfl rfl rfl (mw_sp rfl rfl (Nat.le_of_ble_eq_true rfl) (mw_ac rfl mw_an) mw_an) rfl rfl ?_
  obtain ⟨hn26, H⟩ := H
  refine mm_R.nwaK (pc' := 7) (L' := [some ((.ref a0)), some (r1)]) (r := [(.ref a0)]) (x := (12 : Int32)) 2 rfl rfl rfl hn26 (fun q1 hp2 e1 e2 => ?_)
  replace H := H _ _ e1 e2
  refine mm_R.wpt (pc' := 9) (L' := [some ((.ref a0)), some (r1)]) (r := []) 0 rfl rfl (H.mono (fun hp3 H => ?_))
  obtain ⟨hn25, H⟩ := H
  refine mm_R.nwaK (pc' := 14) (L' := [some ((.ref a0)), some (r1)]) (r := [(.ref a0)]) (x := (4 : Int32)) 2 rfl rfl rfl hn25 (fun q4 hp5 e1 e2 => ?_)
  replace H := H _ _ e1 e2
  refine mm_R.wpt (pc' := 16) (L' := [some ((.ref a0)), some (r1)]) (r := []) 0 rfl rfl (H.mono (fun hp6 H => ?_))
  obtain ⟨hn24, H⟩ := H
  refine mm_R.nwaK (pc' := 21) (L' := [some ((.ref a0)), some (r1)]) (r := [(.ref a0)]) (x := (4 : Int32)) 2 rfl rfl rfl hn24 (fun q7 hp8 e1 e2 => ?_)
  replace H := H _ _ e1 e2
  refine mm_R.wpt (pc' := 23) (L' := [some ((.ref a0)), some (r1)]) (r := []) 0 rfl rfl (H.mono (fun hp9 H => ?_))
  obtain ⟨hn23, H⟩ := H
  refine mm_R.nwaK (pc' := 28) (L' := [some ((.ref a0)), some (r1)]) (r := [(.ref a0)]) (x := (4 : Int32)) 2 rfl rfl rfl hn23 (fun q10 hp11 e1 e2 => ?_)
  replace H := H _ _ e1 e2
  refine mm_R.wpt (pc' := 30) (L' := [some ((.ref a0)), some (r1)]) (r := []) 0 rfl rfl (H.mono (fun hp12 H => ?_))
  obtain ⟨hn22, H⟩ := H
  refine mm_R.nwqK (pc' := 35) (L' := [some ((.ref a0)), some (r1)]) (r := [(.ref a0)]) (x := (4 : Int32)) 2 rfl rfl  hn22 (fun q13 hp14 e1 e2 => ?_)
  replace H := H _ _ e1 e2
  refine mm_R.wpt (pc' := 38) (L' := [some ((.ref a0)), some (r1)]) (r := []) 0 rfl rfl (H.mono (fun hp15 H => ?_))
  obtain ⟨hn21, H⟩ := H
  refine mm_R.nwqK (pc' := 43) (L' := [some ((.ref a0)), some (r1)]) (r := [(.ref a0)]) (x := (4 : Int32)) 2 rfl rfl  hn21 (fun q16 hp17 e1 e2 => ?_)
  replace H := H _ _ e1 e2
  refine mm_R.wpt (pc' := 46) (L' := [some ((.ref a0)), some (r1)]) (r := []) 0 rfl rfl (H.mono (fun hp18 H => ?_))
  obtain ⟨hr19, H⟩ := H
  refine mm_R.al (pc' := 50) (L' := [some ((.ref a0)), some (r1)]) (r := [(.ref a0)]) (v := r1) 1 rfl rfl rfl rfl hr19 ?_
  refine mm_R.wpt (pc' := 51) (L' := [some ((.ref a0)), some (r1)]) (r := []) 0 rfl rfl (H.mono (fun hp20 H => ?_))
  exact mm_R.rt (pc' := 54) (L' := [some ((.ref a0)), some (r1)]) (st1 := []) 0 rfl rfl rfl rfl rfl rfl H
-- StepRunner.link, from 0
set_option maxRecDepth 10000 in
theorem w22_0 {X : List Int32} {d : Nat} {a0 : Nat} {i1 : Int32} {i2 : Int32} {i3 : Int32} {hp : mm_H} {Q : Option Value → mm_H → Prop} (H : mw_rc (.ref a0) 23 hp ∧ mm_R X d 23 0 (mm_L0 23 [(.ref a0), .int i1]) [] hp (mw_rv (fun v3 hp2 => mm_isr v3 = true ∧ ((i3 < (0 : Int32) → mm_R X (d + 1) 22 21 [some ((.ref a0)), some (.int i1), some (.int i2), some (.int i3), some (v3), none, none] [.int (0 : Int32)] hp2 Q) ∧ (¬ i3 < (0 : Int32) → (((3 : Int32) ≤ i3 → mm_R X (d + 1) 22 21 [some ((.ref a0)), some (.int i1), some (.int i2), some (.int i3), some (v3), none, none] [.int (0 : Int32)] hp2 Q) ∧ (¬ (3 : Int32) ≤ i3 → mm_R X (d + 1) 22 21 [some ((.ref a0)), some (.int i1), some (.int i2), some (.int i3), some (v3), none, none] [.int (1 : Int32)] hp2 Q))))))) : mm_R X (d + 1) 22 0 (mm_L0 22 [(.ref a0), .int i1, .int i2, .int i3]) [] hp Q := by
  show mm_R X (d + 1) 22 0 [some ((.ref a0)), some (.int i1), some (.int i2), some (.int i3), none, none, none] [] hp Q
  obtain ⟨hc1, H⟩ := H
  refine mm_R.cV (pc' := 2) (L' := [some ((.ref a0)), some (.int i1), some (.int i2), some (.int i3), none, none, none]) (st1 := [.int i1, (.ref a0)]) (as := [.int i1]) (rest := []) 2 rfl rfl (mw_sp rfl rfl (Nat.le_of_ble_eq_true rfl) (mw_ac rfl (mw_ac rfl mw_an)) mw_an) rfl rfl hc1 (H.mono (fun o hp2 H => ?_))
  obtain ⟨v3, rfl, H⟩ := H
  obtain ⟨hr4, H⟩ := H
  refine mm_R.as (pc' := 5) (L' := [some ((.ref a0)), some (.int i1), some (.int i2), some (.int i3), none, none, none]) (r := []) (v := v3) 0 rfl rfl rfl rfl hr4 ?_
  refine mm_R.br (L' := [some ((.ref a0)), some (.int i1), some (.int i2), some (.int i3), some (v3), none, none]) (st' := []) (t := 20) (u := 11) (b := mm_cc .lt i3 (0 : Int32)) 2 rfl (fun c => ?_) (fun c => ?_)
  · replace H := H.1 (of_decide_eq_true c)
    exact mm_R.pn (pc' := 21) (L' := [some ((.ref a0)), some (.int i1), some (.int i2), some (.int i3), some (v3), none, none]) (st' := [.int (0 : Int32)]) 1 rfl H
  · replace H := H.2 (of_decide_eq_false c)
    refine mm_R.br (L' := [some ((.ref a0)), some (.int i1), some (.int i2), some (.int i3), some (v3), none, none]) (st' := []) (t := 20) (u := 16) (b := mm_cc .ge i3 (3 : Int32)) 3 rfl (fun c => ?_) (fun c => ?_)
    · replace H := H.1 (of_decide_eq_true c)
      exact mm_R.pn (pc' := 21) (L' := [some ((.ref a0)), some (.int i1), some (.int i2), some (.int i3), some (v3), none, none]) (st' := [.int (0 : Int32)]) 1 rfl H
    · replace H := H.2 (of_decide_eq_false c)
      exact mm_R.pn (pc' := 21) (L' := [some ((.ref a0)), some (.int i1), some (.int i2), some (.int i3), some (v3), none, none]) (st' := [.int (1 : Int32)]) 2 rfl H
-- StepRunner.link, from 21
set_option maxRecDepth 10000 in
theorem w22_21 {X : List Int32} {d : Nat} {a0 : Nat} {i1 : Int32} {i2 : Int32} {i3 : Int32} {r4 : Value} {o5 : Option Value} {o6 : Option Value} {s0 : Int32} {hp : mm_H} {Q : Option Value → mm_H → Prop} (H : ((i3 < (10 : Int32) → mm_R X (d + 1) 22 40 [some ((.ref a0)), some (.int i1), some (.int i2), some (.int i3), some (r4), some (.int s0), o6] [.int (0 : Int32)] hp Q) ∧ (¬ i3 < (10 : Int32) → (((16 : Int32) ≤ i3 → mm_R X (d + 1) 22 40 [some ((.ref a0)), some (.int i1), some (.int i2), some (.int i3), some (r4), some (.int s0), o6] [.int (0 : Int32)] hp Q) ∧ (¬ (16 : Int32) ≤ i3 → mm_R X (d + 1) 22 40 [some ((.ref a0)), some (.int i1), some (.int i2), some (.int i3), some (r4), some (.int s0), o6] [.int (1 : Int32)] hp Q))))) : mm_R X (d + 1) 22 21 [some ((.ref a0)), some (.int i1), some (.int i2), some (.int i3), some (r4), o5, o6] [.int s0] hp Q := by
  refine mm_R.br (L' := [some ((.ref a0)), some (.int i1), some (.int i2), some (.int i3), some (r4), some (.int s0), o6]) (st' := []) (t := 39) (u := 29) (b := mm_cc .lt i3 (10 : Int32)) 4 rfl (fun c => ?_) (fun c => ?_)
  · replace H := H.1 (of_decide_eq_true c)
    exact mm_R.pn (pc' := 40) (L' := [some ((.ref a0)), some (.int i1), some (.int i2), some (.int i3), some (r4), some (.int s0), o6]) (st' := [.int (0 : Int32)]) 1 rfl H
  · replace H := H.2 (of_decide_eq_false c)
    refine mm_R.br (L' := [some ((.ref a0)), some (.int i1), some (.int i2), some (.int i3), some (r4), some (.int s0), o6]) (st' := []) (t := 39) (u := 35) (b := mm_cc .ge i3 (16 : Int32)) 3 rfl (fun c => ?_) (fun c => ?_)
    · replace H := H.1 (of_decide_eq_true c)
      exact mm_R.pn (pc' := 40) (L' := [some ((.ref a0)), some (.int i1), some (.int i2), some (.int i3), some (r4), some (.int s0), o6]) (st' := [.int (0 : Int32)]) 1 rfl H
    · replace H := H.2 (of_decide_eq_false c)
      exact mm_R.pn (pc' := 40) (L' := [some ((.ref a0)), some (.int i1), some (.int i2), some (.int i3), some (r4), some (.int s0), o6]) (st' := [.int (1 : Int32)]) 2 rfl H
-- StepRunner.link, from 40
set_option maxRecDepth 10000 in
theorem w22_40 {X : List Int32} {d : Nat} {a0 : Nat} {i1 : Int32} {i2 : Int32} {i3 : Int32} {r4 : Value} {i5 : Int32} {o6 : Option Value} {s0 : Int32} {hp : mm_H} {Q : Option Value → mm_H → Prop} (H : mm_isr r4 = true ∧ mw_nl r4 (Q (some (.int (0 : Int32))) hp) (mm_R X d 24 0 (mm_L0 24 [.int i2]) [] hp (mw_ri (fun x3 hp2 => ((x3 = (0 : Int32) → Q (some (.int (0 : Int32))) hp2) ∧ (¬ x3 = (0 : Int32) → ((¬ i5 = (0 : Int32) → mw_rc r4 25 hp2 ∧ mm_R X d 25 0 (mm_L0 25 [r4, .int i2, .int i3]) [] hp2 (mw_ri (fun x6 hp5 => ((x6 = (0 : Int32) → Q (some (.int (0 : Int32))) hp5) ∧ (¬ x6 = (0 : Int32) → Q (some (.int (1 : Int32))) hp5))))) ∧ (i5 = (0 : Int32) → ((s0 = (0 : Int32) → Q (some (.int (0 : Int32))) hp2) ∧ (¬ s0 = (0 : Int32) → mw_rc r4 25 hp2 ∧ mm_R X d 25 0 (mm_L0 25 [r4, .int i2, .int i3]) [] hp2 (mw_ri (fun x9 hp8 => ((x9 = (0 : Int32) → Q (some (.int (0 : Int32))) hp8) ∧ (¬ x9 = (0 : Int32) → Q (some (.int (1 : Int32))) hp8)))))))))))))) : mm_R X (d + 1) 22 40 [some ((.ref a0)), some (.int i1), some (.int i2), some (.int i3), some (r4), some (.int i5), o6] [.int s0] hp Q := by
  obtain ⟨hr1, H⟩ := H
  refine mm_R.al (pc' := 42) (L' := [some ((.ref a0)), some (.int i1), some (.int i2), some (.int i3), some (r4), some (.int i5), some (.int s0)]) (r := []) (v := r4) 1 rfl rfl rfl rfl hr1 ?_
  refine mm_R.wnl (pc' := 44) (L' := [some ((.ref a0)), some (.int i1), some (.int i2), some (.int i3), some (r4), some (.int i5), some (.int s0)]) (r := []) (v := r4) (t := 78) (u := 47) 0 rfl rfl rfl (H.mono (fun H => ?_) (fun H => ?_))
  · exact mm_R.rt (pc' := 79) (L' := [some ((.ref a0)), some (.int i1), some (.int i2), some (.int i3), some (r4), some (.int i5), some (.int s0)]) (st1 := [.int (0 : Int32)]) 1 rfl rfl rfl rfl rfl rfl H
  · refine mm_R.cS (pc' := 48) (L' := [some ((.ref a0)), some (.int i1), some (.int i2), some (.int i3), some (r4), some (.int i5), some (.int s0)]) (st1 := [.int i2]) (as := [.int i2]) (rest := []) 1 rfl rfl (mw_sp rfl rfl (Nat.le_of_ble_eq_true rfl) (mw_ac rfl mw_an) mw_an) rfl rfl (H.mono (fun o hp2 H => ?_))
    obtain ⟨x3, rfl, H⟩ := H
    refine mm_R.br (L' := [some ((.ref a0)), some (.int i1), some (.int i2), some (.int i3), some (r4), some (.int i5), some (.int s0)]) (st' := []) (t := 78) (u := 54) (b := mm_cc .eq x3 (0 : Int32)) 1 rfl (fun c => ?_) (fun c => ?_)
    · replace H := H.1 (of_decide_eq_true c)
      exact mm_R.rt (pc' := 79) (L' := [some ((.ref a0)), some (.int i1), some (.int i2), some (.int i3), some (r4), some (.int i5), some (.int s0)]) (st1 := [.int (0 : Int32)]) 1 rfl rfl rfl rfl rfl rfl H
    · replace H := H.2 (of_decide_eq_false c)
      refine mm_R.br (L' := [some ((.ref a0)), some (.int i1), some (.int i2), some (.int i3), some (r4), some (.int i5), some (.int s0)]) (st' := []) (t := 64) (u := 59) (b := mm_cc .ne i5 (0 : Int32)) 2 rfl (fun c => ?_) (fun c => ?_)
      · replace H := H.1 (of_decide_eq_true c)
        refine mm_R.al (pc' := 64) (L' := [some ((.ref a0)), some (.int i1), some (.int i2), some (.int i3), some (r4), some (.int i5), some (.int s0)]) (r := []) (v := r4) 0 rfl rfl rfl rfl hr1 ?_
        obtain ⟨hc4, H⟩ := H
        refine mm_R.cV (pc' := 68) (L' := [some ((.ref a0)), some (.int i1), some (.int i2), some (.int i3), some (r4), some (.int i5), some (.int s0)]) (st1 := [.int i3, .int i2, r4]) (as := [.int i2, .int i3]) (rest := []) 2 rfl rfl (mw_sp rfl rfl (Nat.le_of_ble_eq_true rfl) (mw_ac (mw_c1 hc4.isr) (mw_ac rfl (mw_ac rfl mw_an))) mw_an) rfl rfl hc4 (H.mono (fun o hp5 H => ?_))
        obtain ⟨x6, rfl, H⟩ := H
        refine mm_R.br (L' := [some ((.ref a0)), some (.int i1), some (.int i2), some (.int i3), some (r4), some (.int i5), some (.int s0)]) (st' := []) (t := 78) (u := 74) (b := mm_cc .eq x6 (0 : Int32)) 1 rfl (fun c => ?_) (fun c => ?_)
        · replace H := H.1 (of_decide_eq_true c)
          exact mm_R.rt (pc' := 79) (L' := [some ((.ref a0)), some (.int i1), some (.int i2), some (.int i3), some (r4), some (.int i5), some (.int s0)]) (st1 := [.int (0 : Int32)]) 1 rfl rfl rfl rfl rfl rfl H
        · replace H := H.2 (of_decide_eq_false c)
          exact mm_R.rt (pc' := 79) (L' := [some ((.ref a0)), some (.int i1), some (.int i2), some (.int i3), some (r4), some (.int i5), some (.int s0)]) (st1 := [.int (1 : Int32)]) 2 rfl rfl rfl rfl rfl rfl H
      · replace H := H.2 (Decidable.of_not_not (of_decide_eq_false c))
        refine mm_R.br (L' := [some ((.ref a0)), some (.int i1), some (.int i2), some (.int i3), some (r4), some (.int i5), some (.int s0)]) (st' := []) (t := 78) (u := 64) (b := mm_cc .eq s0 (0 : Int32)) 2 rfl (fun c => ?_) (fun c => ?_)
        · replace H := H.1 (of_decide_eq_true c)
          exact mm_R.rt (pc' := 79) (L' := [some ((.ref a0)), some (.int i1), some (.int i2), some (.int i3), some (r4), some (.int i5), some (.int s0)]) (st1 := [.int (0 : Int32)]) 1 rfl rfl rfl rfl rfl rfl H
        · replace H := H.2 (of_decide_eq_false c)
          refine mm_R.al (pc' := 64) (L' := [some ((.ref a0)), some (.int i1), some (.int i2), some (.int i3), some (r4), some (.int i5), some (.int s0)]) (r := []) (v := r4) 0 rfl rfl rfl rfl hr1 ?_
          obtain ⟨hc7, H⟩ := H
          refine mm_R.cV (pc' := 68) (L' := [some ((.ref a0)), some (.int i1), some (.int i2), some (.int i3), some (r4), some (.int i5), some (.int s0)]) (st1 := [.int i3, .int i2, r4]) (as := [.int i2, .int i3]) (rest := []) 2 rfl rfl (mw_sp rfl rfl (Nat.le_of_ble_eq_true rfl) (mw_ac (mw_c1 hc7.isr) (mw_ac rfl (mw_ac rfl mw_an))) mw_an) rfl rfl hc7 (H.mono (fun o hp8 H => ?_))
          obtain ⟨x9, rfl, H⟩ := H
          refine mm_R.br (L' := [some ((.ref a0)), some (.int i1), some (.int i2), some (.int i3), some (r4), some (.int i5), some (.int s0)]) (st' := []) (t := 78) (u := 74) (b := mm_cc .eq x9 (0 : Int32)) 1 rfl (fun c => ?_) (fun c => ?_)
          · replace H := H.1 (of_decide_eq_true c)
            exact mm_R.rt (pc' := 79) (L' := [some ((.ref a0)), some (.int i1), some (.int i2), some (.int i3), some (r4), some (.int i5), some (.int s0)]) (st1 := [.int (0 : Int32)]) 1 rfl rfl rfl rfl rfl rfl H
          · replace H := H.2 (of_decide_eq_false c)
            exact mm_R.rt (pc' := 79) (L' := [some ((.ref a0)), some (.int i1), some (.int i2), some (.int i3), some (r4), some (.int i5), some (.int s0)]) (st1 := [.int (1 : Int32)]) 2 rfl rfl rfl rfl rfl rfl H
-- StepRunner.stepToBuild, from 0
set_option maxRecDepth 10000 in
theorem w23_0 {X : List Int32} {d : Nat} {a0 : Nat} {i1 : Int32} {hp : mm_H} {Q : Option Value → mm_H → Prop} (H : mw_gv 0 6 (.ref a0) hp (fun v1 => mw_rc v1 16 hp ∧ mm_R X d 16 0 (mm_L0 16 [v1]) [] hp (mw_ri (fun x4 hp3 => ((¬ x4 = (0 : Int32) → Q (some .null) hp3) ∧ (x4 = (0 : Int32) → ((i1 < (0 : Int32) → Q (some .null) hp3) ∧ (¬ i1 < (0 : Int32) → mw_gi 0 5 (.ref a0) hp3 (fun x5 => ((i1 < x5 → mw_gv 0 4 (.ref a0) hp3 (fun v6 => mw_av v6 i1 hp3 (fun v7 => mw_nr v7 ∧ Q (some v7) hp3))) ∧ (¬ i1 < x5 → Q (some .null) hp3))))))))))) : mm_R X (d + 1) 23 0 (mm_L0 23 [(.ref a0), .int i1]) [] hp Q := by
  show mm_R X (d + 1) 23 0 [some ((.ref a0)), some (.int i1)] [] hp Q
  refine mm_R.wgv (pc' := 1) (L' := [some ((.ref a0)), some (.int i1)]) (r := []) 1 rfl rfl (H.mono (fun v1 H => ?_))
  obtain ⟨hc2, H⟩ := H
  refine mm_R.cV (pc' := 4) (L' := [some ((.ref a0)), some (.int i1)]) (st1 := [v1]) (as := []) (rest := []) 0 rfl rfl (mw_sp rfl rfl (Nat.le_of_ble_eq_true rfl) (mw_ac (mw_c1 hc2.isr) mw_an) mw_an) rfl rfl hc2 (H.mono (fun o hp3 H => ?_))
  obtain ⟨x4, rfl, H⟩ := H
  refine mm_R.br (L' := [some ((.ref a0)), some (.int i1)]) (st' := []) (t := 22) (u := 10) (b := mm_cc .ne x4 (0 : Int32)) 1 rfl (fun c => ?_) (fun c => ?_)
  · replace H := H.1 (of_decide_eq_true c)
    exact mm_R.rt (pc' := 32) (L' := [some ((.ref a0)), some (.int i1)]) (st1 := [.null]) 2 rfl rfl rfl rfl rfl rfl H
  · replace H := H.2 (Decidable.of_not_not (of_decide_eq_false c))
    refine mm_R.br (L' := [some ((.ref a0)), some (.int i1)]) (st' := []) (t := 22) (u := 14) (b := mm_cc .lt i1 (0 : Int32)) 2 rfl (fun c => ?_) (fun c => ?_)
    · replace H := H.1 (of_decide_eq_true c)
      exact mm_R.rt (pc' := 32) (L' := [some ((.ref a0)), some (.int i1)]) (st1 := [.null]) 2 rfl rfl rfl rfl rfl rfl H
    · replace H := H.2 (of_decide_eq_false c)
      refine mm_R.wgi (pc' := 16) (L' := [some ((.ref a0)), some (.int i1)]) (r := [.int i1]) 2 rfl rfl (H.mono (fun x5 H => ?_))
      refine mm_R.br (L' := [some ((.ref a0)), some (.int i1)]) (st' := []) (t := 26) (u := 22) (b := mm_cc .lt i1 x5) 1 rfl (fun c => ?_) (fun c => ?_)
      · replace H := H.1 (of_decide_eq_true c)
        refine mm_R.wgv (pc' := 27) (L' := [some ((.ref a0)), some (.int i1)]) (r := []) 1 rfl rfl (H.mono (fun v6 H => ?_))
        refine mm_R.wav (pc' := 31) (L' := [some ((.ref a0)), some (.int i1)]) (r := []) 1 rfl rfl (H.mono (fun v7 H => ?_))
        exact mm_R.rt (pc' := 32) (L' := [some ((.ref a0)), some (.int i1)]) (st1 := [v7]) 0 rfl rfl rfl rfl rfl (mw_rva (ty := (.object "StepRunner$Step")) H.1 rfl) H.2
      · replace H := H.2 (of_decide_eq_false c)
        exact mm_R.rt (pc' := 32) (L' := [some ((.ref a0)), some (.int i1)]) (st1 := [.null]) 2 rfl rfl rfl rfl rfl rfl H
-- StepRunner.isPort, from 0
set_option maxRecDepth 10000 in
theorem w24_0 {X : List Int32} {d : Nat} {i0 : Int32} {hp : mm_H} {Q : Option Value → mm_H → Prop} (H : ((i0 < (0 : Int32) → Q (some (.int (0 : Int32))) hp) ∧ (¬ i0 < (0 : Int32) → (((4 : Int32) ≤ i0 → Q (some (.int (0 : Int32))) hp) ∧ (¬ (4 : Int32) ≤ i0 → Q (some (.int (1 : Int32))) hp))))) : mm_R X (d + 1) 24 0 (mm_L0 24 [.int i0]) [] hp Q := by
  show mm_R X (d + 1) 24 0 [some (.int i0)] [] hp Q
  refine mm_R.br (L' := [some (.int i0)]) (st' := []) (t := 13) (u := 4) (b := mm_cc .lt i0 (0 : Int32)) 2 rfl (fun c => ?_) (fun c => ?_)
  · replace H := H.1 (of_decide_eq_true c)
    exact mm_R.rt (pc' := 14) (L' := [some (.int i0)]) (st1 := [.int (0 : Int32)]) 1 rfl rfl rfl rfl rfl rfl H
  · replace H := H.2 (of_decide_eq_false c)
    refine mm_R.br (L' := [some (.int i0)]) (st' := []) (t := 13) (u := 9) (b := mm_cc .ge i0 (4 : Int32)) 3 rfl (fun c => ?_) (fun c => ?_)
    · replace H := H.1 (of_decide_eq_true c)
      exact mm_R.rt (pc' := 14) (L' := [some (.int i0)]) (st1 := [.int (0 : Int32)]) 1 rfl rfl rfl rfl rfl rfl H
    · replace H := H.2 (of_decide_eq_false c)
      exact mm_R.rt (pc' := 14) (L' := [some (.int i0)]) (st1 := [.int (1 : Int32)]) 2 rfl rfl rfl rfl rfl rfl H
-- StepRunner$Step.addSource, from 0
set_option maxRecDepth 10000 in
theorem w25_0 {X : List Int32} {d : Nat} {a0 : Nat} {i1 : Int32} {i2 : Int32} {hp : mm_H} {Q : Option Value → mm_H → Prop} (H : mm_R X d 24 0 (mm_L0 24 [.int i1]) [] hp (mw_ri (fun x2 hp1 => ((x2 = (0 : Int32) → Q (some (.int (0 : Int32))) hp1) ∧ (¬ x2 = (0 : Int32) → mw_gv 7 2 (.ref a0) hp1 (fun v3 => mw_ai 1000 v3 i1 hp1 (fun x4 => ((x4 < (3 : Int32) → mw_gv 7 1 (.ref a0) hp1 (fun v5 => mw_gv 7 2 (.ref a0) hp1 (fun v6 => mw_ai 1000 v6 i1 hp1 (fun x7 => mw_si 1000 .int v5 ((i1 * (3 : Int32)) + x7) i2 hp1 (fun hp8 => mw_gv 7 2 (.ref a0) hp8 (fun v9 => mm_isr v9 = true ∧ mw_ai 1000 v9 i1 hp8 (fun x11 => mw_si 1000 .int v9 i1 (x11 + (1 : Int32)) hp8 (fun hp12 => Q (some (.int (1 : Int32))) hp12)))))))) ∧ (¬ x4 < (3 : Int32) → Q (some (.int (0 : Int32))) hp1))))))))) : mm_R X (d + 1) 25 0 (mm_L0 25 [(.ref a0), .int i1, .int i2]) [] hp Q := by
  show mm_R X (d + 1) 25 0 [some ((.ref a0)), some (.int i1), some (.int i2)] [] hp Q
  refine mm_R.cS (pc' := 1) (L' := [some ((.ref a0)), some (.int i1), some (.int i2)]) (st1 := [.int i1]) (as := [.int i1]) (rest := []) 1 rfl rfl (mw_sp rfl rfl (Nat.le_of_ble_eq_true rfl) (mw_ac rfl mw_an) mw_an) rfl rfl (H.mono (fun o hp1 H => ?_))
  obtain ⟨x2, rfl, H⟩ := H
  refine mm_R.br (L' := [some ((.ref a0)), some (.int i1), some (.int i2)]) (st' := []) (t := 17) (u := 7) (b := mm_cc .eq x2 (0 : Int32)) 1 rfl (fun c => ?_) (fun c => ?_)
  · replace H := H.1 (of_decide_eq_true c)
    exact mm_R.rt (pc' := 18) (L' := [some ((.ref a0)), some (.int i1), some (.int i2)]) (st1 := [.int (0 : Int32)]) 1 rfl rfl rfl rfl rfl rfl H
  · replace H := H.2 (of_decide_eq_false c)
    refine mm_R.wgv (pc' := 8) (L' := [some ((.ref a0)), some (.int i1), some (.int i2)]) (r := []) 1 rfl rfl (H.mono (fun v3 H => ?_))
    refine mm_R.wai (pc' := 12) (L' := [some ((.ref a0)), some (.int i1), some (.int i2)]) (r := []) (t := 1000) 1 rfl rfl rfl rfl (H.mono (fun x4 H => ?_))
    refine mm_R.br (L' := [some ((.ref a0)), some (.int i1), some (.int i2)]) (st' := []) (t := 19) (u := 17) (b := mm_cc .lt x4 (3 : Int32)) 2 rfl (fun c => ?_) (fun c => ?_)
    · replace H := H.1 (of_decide_eq_true c)
      refine mm_R.wgv (pc' := 20) (L' := [some ((.ref a0)), some (.int i1), some (.int i2)]) (r := []) 1 rfl rfl (H.mono (fun v5 H => ?_))
      refine mm_R.wgv (pc' := 27) (L' := [some ((.ref a0)), some (.int i1), some (.int i2)]) (r := [.int (i1 * (3 : Int32)), v5]) 4 rfl rfl (H.mono (fun v6 H => ?_))
      refine mm_R.wai (pc' := 31) (L' := [some ((.ref a0)), some (.int i1), some (.int i2)]) (r := [.int (i1 * (3 : Int32)), v5]) (t := 1000) 1 rfl rfl rfl rfl (H.mono (fun x7 H => ?_))
      refine mm_R.wsi (pc' := 34) (L' := [some ((.ref a0)), some (.int i1), some (.int i2)]) (r := []) (t := 1000) (ty := .int) 2 rfl rfl rfl rfl (H.mono (fun hp8 H => ?_))
      refine mm_R.wgv (pc' := 36) (L' := [some ((.ref a0)), some (.int i1), some (.int i2)]) (r := []) 1 rfl rfl (H.mono (fun v9 H => ?_))
      obtain ⟨hr10, H⟩ := H
      refine mm_R.d2 (pc' := 40) (L' := [some ((.ref a0)), some (.int i1), some (.int i2)]) (r := []) (v := v9) (x := i1) 1 rfl rfl hr10 ?_
      refine mm_R.wai (pc' := 41) (L' := [some ((.ref a0)), some (.int i1), some (.int i2)]) (r := [.int i1, v9]) (t := 1000) 0 rfl rfl rfl rfl (H.mono (fun x11 H => ?_))
      refine mm_R.wsi (pc' := 44) (L' := [some ((.ref a0)), some (.int i1), some (.int i2)]) (r := []) (t := 1000) (ty := .int) 2 rfl rfl rfl rfl (H.mono (fun hp12 H => ?_))
      exact mm_R.rt (pc' := 46) (L' := [some ((.ref a0)), some (.int i1), some (.int i2)]) (st1 := [.int (1 : Int32)]) 1 rfl rfl rfl rfl rfl rfl H
    · replace H := H.2 (of_decide_eq_false c)
      exact mm_R.rt (pc' := 18) (L' := [some ((.ref a0)), some (.int i1), some (.int i2)]) (st1 := [.int (0 : Int32)]) 1 rfl rfl rfl rfl rfl rfl H
-- StepRunner.gather, from 0
set_option maxRecDepth 10000 in
theorem w26_0 {X : List Int32} {d : Nat} {a0 : Nat} {i1 : Int32} {i2 : Int32} {i3 : Int32} {i4 : Int32} {hp : mm_H} {Q : Option Value → mm_H → Prop} (H : mw_rc (.ref a0) 23 hp ∧ mm_R X d 23 0 (mm_L0 23 [(.ref a0), .int i1]) [] hp (mw_rv (fun v3 hp2 => mm_isr v3 = true ∧ ((i3 < (0 : Int32) → mm_R X (d + 1) 26 21 [some ((.ref a0)), some (.int i1), some (.int i2), some (.int i3), some (.int i4), some (v3), none, none] [.int (0 : Int32)] hp2 Q) ∧ (¬ i3 < (0 : Int32) → (((2 : Int32) < i3 → mm_R X (d + 1) 26 21 [some ((.ref a0)), some (.int i1), some (.int i2), some (.int i3), some (.int i4), some (v3), none, none] [.int (0 : Int32)] hp2 Q) ∧ (¬ (2 : Int32) < i3 → mm_R X (d + 1) 26 21 [some ((.ref a0)), some (.int i1), some (.int i2), some (.int i3), some (.int i4), some (v3), none, none] [.int (1 : Int32)] hp2 Q))))))) : mm_R X (d + 1) 26 0 (mm_L0 26 [(.ref a0), .int i1, .int i2, .int i3, .int i4]) [] hp Q := by
  show mm_R X (d + 1) 26 0 [some ((.ref a0)), some (.int i1), some (.int i2), some (.int i3), some (.int i4), none, none, none] [] hp Q
  obtain ⟨hc1, H⟩ := H
  refine mm_R.cV (pc' := 2) (L' := [some ((.ref a0)), some (.int i1), some (.int i2), some (.int i3), some (.int i4), none, none, none]) (st1 := [.int i1, (.ref a0)]) (as := [.int i1]) (rest := []) 2 rfl rfl (mw_sp rfl rfl (Nat.le_of_ble_eq_true rfl) (mw_ac rfl (mw_ac rfl mw_an)) mw_an) rfl rfl hc1 (H.mono (fun o hp2 H => ?_))
  obtain ⟨v3, rfl, H⟩ := H
  obtain ⟨hr4, H⟩ := H
  refine mm_R.as (pc' := 5) (L' := [some ((.ref a0)), some (.int i1), some (.int i2), some (.int i3), some (.int i4), none, none, none]) (r := []) (v := v3) 0 rfl rfl rfl rfl hr4 ?_
  refine mm_R.br (L' := [some ((.ref a0)), some (.int i1), some (.int i2), some (.int i3), some (.int i4), some (v3), none, none]) (st' := []) (t := 20) (u := 11) (b := mm_cc .lt i3 (0 : Int32)) 2 rfl (fun c => ?_) (fun c => ?_)
  · replace H := H.1 (of_decide_eq_true c)
    exact mm_R.pn (pc' := 21) (L' := [some ((.ref a0)), some (.int i1), some (.int i2), some (.int i3), some (.int i4), some (v3), none, none]) (st' := [.int (0 : Int32)]) 1 rfl H
  · replace H := H.2 (of_decide_eq_false c)
    refine mm_R.br (L' := [some ((.ref a0)), some (.int i1), some (.int i2), some (.int i3), some (.int i4), some (v3), none, none]) (st' := []) (t := 20) (u := 16) (b := mm_cc .gt i3 (2 : Int32)) 3 rfl (fun c => ?_) (fun c => ?_)
    · replace H := H.1 (of_decide_eq_true c)
      exact mm_R.pn (pc' := 21) (L' := [some ((.ref a0)), some (.int i1), some (.int i2), some (.int i3), some (.int i4), some (v3), none, none]) (st' := [.int (0 : Int32)]) 1 rfl H
    · replace H := H.2 (of_decide_eq_false c)
      exact mm_R.pn (pc' := 21) (L' := [some ((.ref a0)), some (.int i1), some (.int i2), some (.int i3), some (.int i4), some (v3), none, none]) (st' := [.int (1 : Int32)]) 2 rfl H
-- StepRunner.gather, from 21
set_option maxRecDepth 10000 in
theorem w26_21 {X : List Int32} {d : Nat} {a0 : Nat} {i1 : Int32} {i2 : Int32} {i3 : Int32} {i4 : Int32} {r5 : Value} {o6 : Option Value} {o7 : Option Value} {s0 : Int32} {hp : mm_H} {Q : Option Value → mm_H → Prop} (H : ((i4 < (0 : Int32) → mm_R X (d + 1) 26 39 [some ((.ref a0)), some (.int i1), some (.int i2), some (.int i3), some (.int i4), some (r5), some (.int s0), o7] [.int (0 : Int32)] hp Q) ∧ (¬ i4 < (0 : Int32) → (((3 : Int32) < i4 → mm_R X (d + 1) 26 39 [some ((.ref a0)), some (.int i1), some (.int i2), some (.int i3), some (.int i4), some (r5), some (.int s0), o7] [.int (0 : Int32)] hp Q) ∧ (¬ (3 : Int32) < i4 → mm_R X (d + 1) 26 39 [some ((.ref a0)), some (.int i1), some (.int i2), some (.int i3), some (.int i4), some (r5), some (.int s0), o7] [.int (1 : Int32)] hp Q))))) : mm_R X (d + 1) 26 21 [some ((.ref a0)), some (.int i1), some (.int i2), some (.int i3), some (.int i4), some (r5), o6, o7] [.int s0] hp Q := by
  refine mm_R.br (L' := [some ((.ref a0)), some (.int i1), some (.int i2), some (.int i3), some (.int i4), some (r5), some (.int s0), o7]) (st' := []) (t := 38) (u := 28) (b := mm_cc .lt i4 (0 : Int32)) 3 rfl (fun c => ?_) (fun c => ?_)
  · replace H := H.1 (of_decide_eq_true c)
    exact mm_R.pn (pc' := 39) (L' := [some ((.ref a0)), some (.int i1), some (.int i2), some (.int i3), some (.int i4), some (r5), some (.int s0), o7]) (st' := [.int (0 : Int32)]) 1 rfl H
  · replace H := H.2 (of_decide_eq_false c)
    refine mm_R.br (L' := [some ((.ref a0)), some (.int i1), some (.int i2), some (.int i3), some (.int i4), some (r5), some (.int s0), o7]) (st' := []) (t := 38) (u := 34) (b := mm_cc .gt i4 (3 : Int32)) 3 rfl (fun c => ?_) (fun c => ?_)
    · replace H := H.1 (of_decide_eq_true c)
      exact mm_R.pn (pc' := 39) (L' := [some ((.ref a0)), some (.int i1), some (.int i2), some (.int i3), some (.int i4), some (r5), some (.int s0), o7]) (st' := [.int (0 : Int32)]) 1 rfl H
    · replace H := H.2 (of_decide_eq_false c)
      exact mm_R.pn (pc' := 39) (L' := [some ((.ref a0)), some (.int i1), some (.int i2), some (.int i3), some (.int i4), some (r5), some (.int s0), o7]) (st' := [.int (1 : Int32)]) 2 rfl H
-- StepRunner.gather, from 39
set_option maxRecDepth 10000 in
theorem w26_39 {X : List Int32} {d : Nat} {a0 : Nat} {i1 : Int32} {i2 : Int32} {i3 : Int32} {i4 : Int32} {r5 : Value} {i6 : Int32} {o7 : Option Value} {s0 : Int32} {hp : mm_H} {Q : Option Value → mm_H → Prop} (H : mm_isr r5 = true ∧ mw_nl r5 (Q (some (.int (0 : Int32))) hp) (mm_R X d 24 0 (mm_L0 24 [.int i2]) [] hp (mw_ri (fun x3 hp2 => ((x3 = (0 : Int32) → Q (some (.int (0 : Int32))) hp2) ∧ (¬ x3 = (0 : Int32) → ((i6 = (0 : Int32) → Q (some (.int (0 : Int32))) hp2) ∧ (¬ i6 = (0 : Int32) → ((¬ s0 = (0 : Int32) → mw_gv 7 3 r5 hp2 (fun v4 => mw_si 1000 .int v4 i2 i3 hp2 (fun hp5 => mw_gv 7 4 r5 hp5 (fun v6 => mw_si 1000 .int v6 i2 i4 hp5 (fun hp7 => Q (some (.int (1 : Int32))) hp7))))) ∧ (s0 = (0 : Int32) → Q (some (.int (0 : Int32))) hp2)))))))))) : mm_R X (d + 1) 26 39 [some ((.ref a0)), some (.int i1), some (.int i2), some (.int i3), some (.int i4), some (r5), some (.int i6), o7] [.int s0] hp Q := by
  obtain ⟨hr1, H⟩ := H
  refine mm_R.al (pc' := 41) (L' := [some ((.ref a0)), some (.int i1), some (.int i2), some (.int i3), some (.int i4), some (r5), some (.int i6), some (.int s0)]) (r := []) (v := r5) 1 rfl rfl rfl rfl hr1 ?_
  refine mm_R.wnl (pc' := 43) (L' := [some ((.ref a0)), some (.int i1), some (.int i2), some (.int i3), some (.int i4), some (r5), some (.int i6), some (.int s0)]) (r := []) (v := r5) (t := 63) (u := 46) 0 rfl rfl rfl (H.mono (fun H => ?_) (fun H => ?_))
  · exact mm_R.rt (pc' := 64) (L' := [some ((.ref a0)), some (.int i1), some (.int i2), some (.int i3), some (.int i4), some (r5), some (.int i6), some (.int s0)]) (st1 := [.int (0 : Int32)]) 1 rfl rfl rfl rfl rfl rfl H
  · refine mm_R.cS (pc' := 47) (L' := [some ((.ref a0)), some (.int i1), some (.int i2), some (.int i3), some (.int i4), some (r5), some (.int i6), some (.int s0)]) (st1 := [.int i2]) (as := [.int i2]) (rest := []) 1 rfl rfl (mw_sp rfl rfl (Nat.le_of_ble_eq_true rfl) (mw_ac rfl mw_an) mw_an) rfl rfl (H.mono (fun o hp2 H => ?_))
    obtain ⟨x3, rfl, H⟩ := H
    refine mm_R.br (L' := [some ((.ref a0)), some (.int i1), some (.int i2), some (.int i3), some (.int i4), some (r5), some (.int i6), some (.int s0)]) (st' := []) (t := 63) (u := 53) (b := mm_cc .eq x3 (0 : Int32)) 1 rfl (fun c => ?_) (fun c => ?_)
    · replace H := H.1 (of_decide_eq_true c)
      exact mm_R.rt (pc' := 64) (L' := [some ((.ref a0)), some (.int i1), some (.int i2), some (.int i3), some (.int i4), some (r5), some (.int i6), some (.int s0)]) (st1 := [.int (0 : Int32)]) 1 rfl rfl rfl rfl rfl rfl H
    · replace H := H.2 (of_decide_eq_false c)
      refine mm_R.br (L' := [some ((.ref a0)), some (.int i1), some (.int i2), some (.int i3), some (.int i4), some (r5), some (.int i6), some (.int s0)]) (st' := []) (t := 63) (u := 58) (b := mm_cc .eq i6 (0 : Int32)) 2 rfl (fun c => ?_) (fun c => ?_)
      · replace H := H.1 (of_decide_eq_true c)
        exact mm_R.rt (pc' := 64) (L' := [some ((.ref a0)), some (.int i1), some (.int i2), some (.int i3), some (.int i4), some (r5), some (.int i6), some (.int s0)]) (st1 := [.int (0 : Int32)]) 1 rfl rfl rfl rfl rfl rfl H
      · replace H := H.2 (of_decide_eq_false c)
        refine mm_R.br (L' := [some ((.ref a0)), some (.int i1), some (.int i2), some (.int i3), some (.int i4), some (r5), some (.int i6), some (.int s0)]) (st' := []) (t := 65) (u := 63) (b := mm_cc .ne s0 (0 : Int32)) 2 rfl (fun c => ?_) (fun c => ?_)
        · replace H := H.1 (of_decide_eq_true c)
          refine mm_R.al (pc' := 65) (L' := [some ((.ref a0)), some (.int i1), some (.int i2), some (.int i3), some (.int i4), some (r5), some (.int i6), some (.int s0)]) (r := []) (v := r5) 0 rfl rfl rfl rfl hr1 ?_
          refine mm_R.wgv (pc' := 67) (L' := [some ((.ref a0)), some (.int i1), some (.int i2), some (.int i3), some (.int i4), some (r5), some (.int i6), some (.int s0)]) (r := []) 0 rfl rfl (H.mono (fun v4 H => ?_))
          refine mm_R.wsi (pc' := 72) (L' := [some ((.ref a0)), some (.int i1), some (.int i2), some (.int i3), some (.int i4), some (r5), some (.int i6), some (.int s0)]) (r := []) (t := 1000) (ty := .int) 2 rfl rfl rfl rfl (H.mono (fun hp5 H => ?_))
          refine mm_R.al (pc' := 73) (L' := [some ((.ref a0)), some (.int i1), some (.int i2), some (.int i3), some (.int i4), some (r5), some (.int i6), some (.int s0)]) (r := []) (v := r5) 0 rfl rfl rfl rfl hr1 ?_
          refine mm_R.wgv (pc' := 75) (L' := [some ((.ref a0)), some (.int i1), some (.int i2), some (.int i3), some (.int i4), some (r5), some (.int i6), some (.int s0)]) (r := []) 0 rfl rfl (H.mono (fun v6 H => ?_))
          refine mm_R.wsi (pc' := 81) (L' := [some ((.ref a0)), some (.int i1), some (.int i2), some (.int i3), some (.int i4), some (r5), some (.int i6), some (.int s0)]) (r := []) (t := 1000) (ty := .int) 2 rfl rfl rfl rfl (H.mono (fun hp7 H => ?_))
          exact mm_R.rt (pc' := 83) (L' := [some ((.ref a0)), some (.int i1), some (.int i2), some (.int i3), some (.int i4), some (r5), some (.int i6), some (.int s0)]) (st1 := [.int (1 : Int32)]) 1 rfl rfl rfl rfl rfl rfl H
        · replace H := H.2 (Decidable.of_not_not (of_decide_eq_false c))
          exact mm_R.rt (pc' := 64) (L' := [some ((.ref a0)), some (.int i1), some (.int i2), some (.int i3), some (.int i4), some (r5), some (.int i6), some (.int s0)]) (st1 := [.int (0 : Int32)]) 1 rfl rfl rfl rfl rfl rfl H
