-- StepRunnerModel.keepValue, from 0
set_option maxRecDepth 10000 in
theorem w134_0 {X : List Int32} {d : Nat} {a0 : Nat} {i1 : Int32} {i2 : Int32} {hp : mm_H} {Q : Option Value → mm_H → Prop} (H : ((i1 = (0 : Int32) → mm_R X (d + 1) 134 16 [some ((.ref a0)), some (.int i1), some (.int i2), none] [.int (0 : Int32)] hp Q) ∧ (¬ i1 = (0 : Int32) → mw_rc (.ref a0) 135 hp ∧ mm_R X d 135 0 (mm_L0 135 [(.ref a0)]) [] hp (mw_ri (fun x3 hp2 => ((x3 = (0 : Int32) → mm_R X (d + 1) 134 16 [some ((.ref a0)), some (.int i1), some (.int i2), none] [.int (0 : Int32)] hp2 Q) ∧ (¬ x3 = (0 : Int32) → mm_R X (d + 1) 134 16 [some ((.ref a0)), some (.int i1), some (.int i2), none] [.int (1 : Int32)] hp2 Q))))))) : mm_R X (d + 1) 134 0 (mm_L0 134 [(.ref a0), .int i1, .int i2]) [] hp Q := by
  show mm_R X (d + 1) 134 0 [some ((.ref a0)), some (.int i1), some (.int i2), none] [] hp Q
  refine mm_R.br (L' := [some ((.ref a0)), some (.int i1), some (.int i2), none]) (st' := []) (t := 15) (u := 4) (b := mm_cc .eq i1 (0 : Int32)) 2 rfl (fun c => ?_) (fun c => ?_)
  · replace H := H.1 (of_decide_eq_true c)
    exact mm_R.pn (pc' := 16) (L' := [some ((.ref a0)), some (.int i1), some (.int i2), none]) (st' := [.int (0 : Int32)]) 1 rfl H
  · replace H := H.2 (of_decide_eq_false c)
    obtain ⟨hc1, H⟩ := H
    refine mm_R.cV (pc' := 5) (L' := [some ((.ref a0)), some (.int i1), some (.int i2), none]) (st1 := [(.ref a0)]) (as := []) (rest := []) 1 rfl rfl (mw_sp rfl rfl (Nat.le_of_ble_eq_true rfl) (mw_ac rfl mw_an) mw_an) rfl rfl hc1 (H.mono (fun o hp2 H => ?_))
    obtain ⟨x3, rfl, H⟩ := H
    refine mm_R.br (L' := [some ((.ref a0)), some (.int i1), some (.int i2), none]) (st' := []) (t := 15) (u := 11) (b := mm_cc .eq x3 (0 : Int32)) 1 rfl (fun c => ?_) (fun c => ?_)
    · replace H := H.1 (of_decide_eq_true c)
      exact mm_R.pn (pc' := 16) (L' := [some ((.ref a0)), some (.int i1), some (.int i2), none]) (st' := [.int (0 : Int32)]) 1 rfl H
    · replace H := H.2 (of_decide_eq_false c)
      exact mm_R.pn (pc' := 16) (L' := [some ((.ref a0)), some (.int i1), some (.int i2), none]) (st' := [.int (1 : Int32)]) 2 rfl H
-- StepRunnerModel.keepValue, from 16
set_option maxRecDepth 10000 in
theorem w134_16 {X : List Int32} {d : Nat} {a0 : Nat} {i1 : Int32} {i2 : Int32} {o3 : Option Value} {s0 : Int32} {hp : mm_H} {Q : Option Value → mm_H → Prop} (H : ((s0 = (0 : Int32) → mw_pt 10 3 (.ref a0) (.int (0 : Int32)) hp (fun hp1 => mm_fv .boolean (.int s0) = true ∧ Q (some (.int s0)) hp1)) ∧ (¬ s0 = (0 : Int32) → mw_rc (.ref a0) 148 hp ∧ mm_R X d 148 0 (mm_L0 148 [(.ref a0), .int i2]) [] hp (mw_r0 (fun hp3 => mw_pt 10 3 (.ref a0) (.int (0 : Int32)) hp3 (fun hp4 => mm_fv .boolean (.int s0) = true ∧ Q (some (.int s0)) hp4)))))) : mm_R X (d + 1) 134 16 [some ((.ref a0)), some (.int i1), some (.int i2), o3] [.int s0] hp Q := by
  refine mm_R.br (L' := [some ((.ref a0)), some (.int i1), some (.int i2), some (.int s0)]) (st' := []) (t := 26) (u := 21) (b := mm_cc .eq s0 (0 : Int32)) 3 rfl (fun c => ?_) (fun c => ?_)
  · replace H := H.1 (of_decide_eq_true c)
    refine mm_R.wpt (pc' := 28) (L' := [some ((.ref a0)), some (.int i1), some (.int i2), some (.int s0)]) (r := []) 2 rfl rfl (H.mono (fun hp1 H => ?_))
    exact mm_R.rt (pc' := 32) (L' := [some ((.ref a0)), some (.int i1), some (.int i2), some (.int s0)]) (st1 := [.int s0]) 1 rfl rfl rfl rfl rfl (mw_rvi (ty := .boolean) H.1) H.2
  · replace H := H.2 (of_decide_eq_false c)
    obtain ⟨hc2, H⟩ := H
    refine mm_R.cV (pc' := 23) (L' := [some ((.ref a0)), some (.int i1), some (.int i2), some (.int s0)]) (st1 := [.int i2, (.ref a0)]) (as := [.int i2]) (rest := []) 2 rfl rfl (mw_sp rfl rfl (Nat.le_of_ble_eq_true rfl) (mw_ac rfl (mw_ac rfl mw_an)) mw_an) rfl rfl hc2 (H.mono (fun o hp3 H => ?_))
    obtain ⟨rfl, H⟩ := H
    refine mm_R.wpt (pc' := 28) (L' := [some ((.ref a0)), some (.int i1), some (.int i2), some (.int s0)]) (r := []) 2 rfl rfl (H.mono (fun hp4 H => ?_))
    exact mm_R.rt (pc' := 32) (L' := [some ((.ref a0)), some (.int i1), some (.int i2), some (.int s0)]) (st1 := [.int s0]) 1 rfl rfl rfl rfl rfl (mw_rvi (ty := .boolean) H.1) H.2
-- StepRunnerModel.isDraftValue, from 0
set_option maxRecDepth 10000 in
theorem w135_0 {X : List Int32} {d : Nat} {a0 : Nat} {hp : mm_H} {Q : Option Value → mm_H → Prop} (H : mw_rc (.ref a0) 121 hp ∧ mm_R X d 121 0 (mm_L0 121 [(.ref a0), .int (141 : Int32)]) [] hp (mw_r0 (fun hp2 => mm_R X (d + 1) 135 13 [some ((.ref a0)), some (.int (0 : Int32)), some (.int (0 : Int32)), some (.int (1 : Int32)), none, none] [] hp2 Q))) : mm_R X (d + 1) 135 0 (mm_L0 135 [(.ref a0)]) [] hp Q := by
  show mm_R X (d + 1) 135 0 [some ((.ref a0)), none, none, none, none, none] [] hp Q
  obtain ⟨hc1, H⟩ := H
  refine mm_R.cV (pc' := 4) (L' := [some ((.ref a0)), none, none, none, none, none]) (st1 := [.int (141 : Int32), (.ref a0)]) (as := [.int (141 : Int32)]) (rest := []) 2 rfl rfl (mw_sp rfl rfl (Nat.le_of_ble_eq_true rfl) (mw_ac rfl (mw_ac rfl mw_an)) mw_an) rfl rfl hc1 (H.mono (fun o hp2 H => ?_))
  obtain ⟨rfl, H⟩ := H
  exact mm_R.pn (pc' := 13) (L' := [some ((.ref a0)), some (.int (0 : Int32)), some (.int (0 : Int32)), some (.int (1 : Int32)), none, none]) (st' := []) 6 rfl H
-- StepRunnerModel.isDraftValue, from 13
set_option maxRecDepth 10000 in
theorem w135_13 {X : List Int32} {d : Nat} {a0 : Nat} {i1 : Int32} {i2 : Int32} {i3 : Int32} {o4 : Option Value} {o5 : Option Value} {hp : mm_H} {Q : Option Value → mm_H → Prop} (H : ((¬ i3 = (0 : Int32) → mm_R X (d + 1) 135 21 [some ((.ref a0)), some (.int i1), some (.int i2), some (.int i3), o4, o5] [] hp Q) ∧ (i3 = (0 : Int32) → ((i1 ≤ (0 : Int32) → mw_gi 10 3 (.ref a0) hp (fun x1 => ((¬ i2 = x1 → Q (some (.int (0 : Int32))) hp) ∧ (i2 = x1 → mw_rc (.ref a0) 142 hp ∧ mm_R X d 142 0 (mm_L0 142 [(.ref a0), .int (141 : Int32)]) [] hp (mw_ri (fun x4 hp3 => ((x4 = (0 : Int32) → Q (some (.int (0 : Int32))) hp3) ∧ (¬ x4 = (0 : Int32) → Q (some (.int (1 : Int32))) hp3)))))))) ∧ (¬ i1 ≤ (0 : Int32) → mm_R X (d + 1) 135 21 [some ((.ref a0)), some (.int i1), some (.int i2), some (.int i3), o4, o5] [] hp Q))))) : mm_R X (d + 1) 135 13 [some ((.ref a0)), some (.int i1), some (.int i2), some (.int i3), o4, o5] [] hp Q := by
  refine mm_R.br (L' := [some ((.ref a0)), some (.int i1), some (.int i2), some (.int i3), o4, o5]) (st' := []) (t := 21) (u := 17) (b := mm_cc .ne i3 (0 : Int32)) 2 rfl (fun c => ?_) (fun c => ?_)
  · replace H := H.1 (of_decide_eq_true c)
    exact H
  · replace H := H.2 (Decidable.of_not_not (of_decide_eq_false c))
    refine mm_R.br (L' := [some ((.ref a0)), some (.int i1), some (.int i2), some (.int i3), o4, o5]) (st' := []) (t := 152) (u := 21) (b := mm_cc .le i1 (0 : Int32)) 2 rfl (fun c => ?_) (fun c => ?_)
    · replace H := H.1 (of_decide_eq_true c)
      refine mm_R.wgi (pc' := 154) (L' := [some ((.ref a0)), some (.int i1), some (.int i2), some (.int i3), o4, o5]) (r := [.int i2]) 2 rfl rfl (H.mono (fun x1 H => ?_))
      refine mm_R.br (L' := [some ((.ref a0)), some (.int i1), some (.int i2), some (.int i3), o4, o5]) (st' := []) (t := 174) (u := 160) (b := mm_cc .ne i2 x1) 1 rfl (fun c => ?_) (fun c => ?_)
      · replace H := H.1 (of_decide_eq_true c)
        exact mm_R.rt (pc' := 175) (L' := [some ((.ref a0)), some (.int i1), some (.int i2), some (.int i3), o4, o5]) (st1 := [.int (0 : Int32)]) 1 rfl rfl rfl rfl rfl rfl H
      · replace H := H.2 (Decidable.of_not_not (of_decide_eq_false c))
        obtain ⟨hc2, H⟩ := H
        refine mm_R.cV (pc' := 164) (L' := [some ((.ref a0)), some (.int i1), some (.int i2), some (.int i3), o4, o5]) (st1 := [.int (141 : Int32), (.ref a0)]) (as := [.int (141 : Int32)]) (rest := []) 2 rfl rfl (mw_sp rfl rfl (Nat.le_of_ble_eq_true rfl) (mw_ac rfl (mw_ac rfl mw_an)) mw_an) rfl rfl hc2 (H.mono (fun o hp3 H => ?_))
        obtain ⟨x4, rfl, H⟩ := H
        refine mm_R.br (L' := [some ((.ref a0)), some (.int i1), some (.int i2), some (.int i3), o4, o5]) (st' := []) (t := 174) (u := 170) (b := mm_cc .eq x4 (0 : Int32)) 1 rfl (fun c => ?_) (fun c => ?_)
        · replace H := H.1 (of_decide_eq_true c)
          exact mm_R.rt (pc' := 175) (L' := [some ((.ref a0)), some (.int i1), some (.int i2), some (.int i3), o4, o5]) (st1 := [.int (0 : Int32)]) 1 rfl rfl rfl rfl rfl rfl H
        · replace H := H.2 (of_decide_eq_false c)
          exact mm_R.rt (pc' := 175) (L' := [some ((.ref a0)), some (.int i1), some (.int i2), some (.int i3), o4, o5]) (st1 := [.int (1 : Int32)]) 2 rfl rfl rfl rfl rfl rfl H
    · replace H := H.2 (of_decide_eq_false c)
      exact H
-- StepRunnerModel.isDraftValue, from 21
set_option maxRecDepth 10000 in
theorem w135_21 {X : List Int32} {d : Nat} {a0 : Nat} {i1 : Int32} {i2 : Int32} {i3 : Int32} {o4 : Option Value} {o5 : Option Value} {hp : mm_H} {Q : Option Value → mm_H → Prop} (H : mw_rc (.ref a0) 136 hp ∧ mm_R X d 136 0 (mm_L0 136 [(.ref a0), .int i2]) [] hp (mw_ri (fun x3 hp2 => ((i3 = (0 : Int32) → mm_R X (d + 1) 135 76 [some ((.ref a0)), some (.int i1), some (.int i2), some (.int i3), some (.int x3), o5] [] hp2 Q) ∧ (¬ i3 = (0 : Int32) → ((¬ x3 = (91 : Int32) → mm_R X (d + 1) 135 76 [some ((.ref a0)), some (.int i1), some (.int i2), some (.int i3), some (.int x3), o5] [] hp2 Q) ∧ (x3 = (91 : Int32) → mw_rc (.ref a0) 122 hp2 ∧ mm_R X d 122 0 (mm_L0 122 [(.ref a0), .int (141 : Int32), .int (3 : Int32), .int i1, .int (0 : Int32)]) [] hp2 (mw_r0 (fun hp5 => mw_rc (.ref a0) 136 hp5 ∧ mm_R X d 136 0 (mm_L0 136 [(.ref a0), .int (i2 + (1 : Int32))]) [] hp5 (mw_ri (fun x8 hp7 => ((¬ x8 = (93 : Int32) → mm_R X (d + 1) 135 13 [some ((.ref a0)), some (.int (i1 + (1 : Int32))), some (.int (i2 + (1 : Int32))), some (.int i3), some (.int x3), o5] [] hp7 Q) ∧ (x8 = (93 : Int32) → mm_R X (d + 1) 135 13 [some ((.ref a0)), some (.int ((i1 + (1 : Int32)) + (-1 : Int32))), some (.int ((i2 + (1 : Int32)) + (1 : Int32))), some (.int (0 : Int32)), some (.int x3), o5] [] hp7 Q))))))))))))) : mm_R X (d + 1) 135 21 [some ((.ref a0)), some (.int i1), some (.int i2), some (.int i3), o4, o5] [] hp Q := by
  obtain ⟨hc1, H⟩ := H
  refine mm_R.cV (pc' := 23) (L' := [some ((.ref a0)), some (.int i1), some (.int i2), some (.int i3), o4, o5]) (st1 := [.int i2, (.ref a0)]) (as := [.int i2]) (rest := []) 2 rfl rfl (mw_sp rfl rfl (Nat.le_of_ble_eq_true rfl) (mw_ac rfl (mw_ac rfl mw_an)) mw_an) rfl rfl hc1 (H.mono (fun o hp2 H => ?_))
  obtain ⟨x3, rfl, H⟩ := H
  refine mm_R.br (L' := [some ((.ref a0)), some (.int i1), some (.int i2), some (.int i3), some (.int x3), o5]) (st' := []) (t := 76) (u := 32) (b := mm_cc .eq i3 (0 : Int32)) 3 rfl (fun c => ?_) (fun c => ?_)
  · replace H := H.1 (of_decide_eq_true c)
    exact H
  · replace H := H.2 (of_decide_eq_false c)
    refine mm_R.br (L' := [some ((.ref a0)), some (.int i1), some (.int i2), some (.int i3), some (.int x3), o5]) (st' := []) (t := 76) (u := 39) (b := mm_cc .ne x3 (91 : Int32)) 3 rfl (fun c => ?_) (fun c => ?_)
    · replace H := H.1 (of_decide_eq_true c)
      exact H
    · replace H := H.2 (Decidable.of_not_not (of_decide_eq_false c))
      obtain ⟨hc4, H⟩ := H
      refine mm_R.cV (pc' := 46) (L' := [some ((.ref a0)), some (.int i1), some (.int i2), some (.int i3), some (.int x3), o5]) (st1 := [.int (0 : Int32), .int i1, .int (3 : Int32), .int (141 : Int32), (.ref a0)]) (as := [.int (141 : Int32), .int (3 : Int32), .int i1, .int (0 : Int32)]) (rest := []) 5 rfl rfl (mw_sp rfl rfl (Nat.le_of_ble_eq_true rfl) (mw_ac rfl (mw_ac rfl (mw_ac rfl (mw_ac rfl (mw_ac rfl mw_an))))) mw_an) rfl rfl hc4 (H.mono (fun o hp5 H => ?_))
      obtain ⟨rfl, H⟩ := H
      obtain ⟨hc6, H⟩ := H
      refine mm_R.cV (pc' := 57) (L' := [some ((.ref a0)), some (.int (i1 + (1 : Int32))), some (.int (i2 + (1 : Int32))), some (.int i3), some (.int x3), o5]) (st1 := [.int (i2 + (1 : Int32)), (.ref a0)]) (as := [.int (i2 + (1 : Int32))]) (rest := []) 4 rfl rfl (mw_sp rfl rfl (Nat.le_of_ble_eq_true rfl) (mw_ac rfl (mw_ac rfl mw_an)) mw_an) rfl rfl hc6 (H.mono (fun o hp7 H => ?_))
      obtain ⟨x8, rfl, H⟩ := H
      refine mm_R.br (L' := [some ((.ref a0)), some (.int (i1 + (1 : Int32))), some (.int (i2 + (1 : Int32))), some (.int i3), some (.int x3), o5]) (st' := []) (t := 149) (u := 65) (b := mm_cc .ne x8 (93 : Int32)) 2 rfl (fun c => ?_) (fun c => ?_)
      · replace H := H.1 (of_decide_eq_true c)
        exact mm_R.pn (pc' := 13) (L' := [some ((.ref a0)), some (.int (i1 + (1 : Int32))), some (.int (i2 + (1 : Int32))), some (.int i3), some (.int x3), o5]) (st' := []) 1 rfl H
      · replace H := H.2 (Decidable.of_not_not (of_decide_eq_false c))
        exact mm_R.pn (pc' := 13) (L' := [some ((.ref a0)), some (.int ((i1 + (1 : Int32)) + (-1 : Int32))), some (.int ((i2 + (1 : Int32)) + (1 : Int32))), some (.int (0 : Int32)), some (.int x3), o5]) (st' := []) 6 rfl H
-- StepRunnerModel.isDraftValue, from 76
set_option maxRecDepth 10000 in
theorem w135_76 {X : List Int32} {d : Nat} {a0 : Nat} {i1 : Int32} {i2 : Int32} {i3 : Int32} {i4 : Int32} {o5 : Option Value} {hp : mm_H} {Q : Option Value → mm_H → Prop} (H : ((i3 = (0 : Int32) → ((i4 = (44 : Int32) → ((¬ i4 = (44 : Int32) → mm_R X (d + 1) 135 133 [some ((.ref a0)), some (.int i1), some (.int i2), some (.int i3), some (.int i4), o5] [.int (0 : Int32)] hp Q) ∧ (i4 = (44 : Int32) → mm_R X (d + 1) 135 133 [some ((.ref a0)), some (.int i1), some (.int i2), some (.int i3), some (.int i4), o5] [.int (1 : Int32)] hp Q))) ∧ (¬ i4 = (44 : Int32) → ((i4 = (93 : Int32) → ((¬ i4 = (44 : Int32) → mm_R X (d + 1) 135 133 [some ((.ref a0)), some (.int i1), some (.int i2), some (.int i3), some (.int i4), o5] [.int (0 : Int32)] hp Q) ∧ (i4 = (44 : Int32) → mm_R X (d + 1) 135 133 [some ((.ref a0)), some (.int i1), some (.int i2), some (.int i3), some (.int i4), o5] [.int (1 : Int32)] hp Q))) ∧ (¬ i4 = (93 : Int32) → Q (some (.int (0 : Int32))) hp))))) ∧ (¬ i3 = (0 : Int32) → mw_rc (.ref a0) 137 hp ∧ mm_R X d 137 0 (mm_L0 137 [(.ref a0), .int i2, .int i1]) [] hp (mw_ri (fun x3 hp2 => ((¬ x3 = (0 : Int32) → mm_R X (d + 1) 135 13 [some ((.ref a0)), some (.int i1), some (.int (i2 + x3)), some (.int (0 : Int32)), some (.int i4), some (.int x3)] [] hp2 Q) ∧ (x3 = (0 : Int32) → Q (some (.int (0 : Int32))) hp2))))))) : mm_R X (d + 1) 135 76 [some ((.ref a0)), some (.int i1), some (.int i2), some (.int i3), some (.int i4), o5] [] hp Q := by
  refine mm_R.br (L' := [some ((.ref a0)), some (.int i1), some (.int i2), some (.int i3), some (.int i4), o5]) (st' := []) (t := 105) (u := 80) (b := mm_cc .eq i3 (0 : Int32)) 2 rfl (fun c => ?_) (fun c => ?_)
  · replace H := H.1 (of_decide_eq_true c)
    refine mm_R.br (L' := [some ((.ref a0)), some (.int i1), some (.int i2), some (.int i3), some (.int i4), o5]) (st' := []) (t := 121) (u := 112) (b := mm_cc .eq i4 (44 : Int32)) 3 rfl (fun c => ?_) (fun c => ?_)
    · replace H := H.1 (of_decide_eq_true c)
      refine mm_R.br (L' := [some ((.ref a0)), some (.int i1), some (.int i2), some (.int i3), some (.int i4), o5]) (st' := []) (t := 132) (u := 128) (b := mm_cc .ne i4 (44 : Int32)) 3 rfl (fun c => ?_) (fun c => ?_)
      · replace H := H.1 (of_decide_eq_true c)
        exact mm_R.pn (pc' := 133) (L' := [some ((.ref a0)), some (.int i1), some (.int i2), some (.int i3), some (.int i4), o5]) (st' := [.int (0 : Int32)]) 1 rfl H
      · replace H := H.2 (Decidable.of_not_not (of_decide_eq_false c))
        exact mm_R.pn (pc' := 133) (L' := [some ((.ref a0)), some (.int i1), some (.int i2), some (.int i3), some (.int i4), o5]) (st' := [.int (1 : Int32)]) 2 rfl H
    · replace H := H.2 (of_decide_eq_false c)
      refine mm_R.br (L' := [some ((.ref a0)), some (.int i1), some (.int i2), some (.int i3), some (.int i4), o5]) (st' := []) (t := 121) (u := 119) (b := mm_cc .eq i4 (93 : Int32)) 3 rfl (fun c => ?_) (fun c => ?_)
      · replace H := H.1 (of_decide_eq_true c)
        refine mm_R.br (L' := [some ((.ref a0)), some (.int i1), some (.int i2), some (.int i3), some (.int i4), o5]) (st' := []) (t := 132) (u := 128) (b := mm_cc .ne i4 (44 : Int32)) 3 rfl (fun c => ?_) (fun c => ?_)
        · replace H := H.1 (of_decide_eq_true c)
          exact mm_R.pn (pc' := 133) (L' := [some ((.ref a0)), some (.int i1), some (.int i2), some (.int i3), some (.int i4), o5]) (st' := [.int (0 : Int32)]) 1 rfl H
        · replace H := H.2 (Decidable.of_not_not (of_decide_eq_false c))
          exact mm_R.pn (pc' := 133) (L' := [some ((.ref a0)), some (.int i1), some (.int i2), some (.int i3), some (.int i4), o5]) (st' := [.int (1 : Int32)]) 2 rfl H
      · replace H := H.2 (of_decide_eq_false c)
        exact mm_R.rt (pc' := 120) (L' := [some ((.ref a0)), some (.int i1), some (.int i2), some (.int i3), some (.int i4), o5]) (st1 := [.int (0 : Int32)]) 1 rfl rfl rfl rfl rfl rfl H
  · replace H := H.2 (of_decide_eq_false c)
    obtain ⟨hc1, H⟩ := H
    refine mm_R.cV (pc' := 83) (L' := [some ((.ref a0)), some (.int i1), some (.int i2), some (.int i3), some (.int i4), o5]) (st1 := [.int i1, .int i2, (.ref a0)]) (as := [.int i2, .int i1]) (rest := []) 3 rfl rfl (mw_sp rfl rfl (Nat.le_of_ble_eq_true rfl) (mw_ac rfl (mw_ac rfl (mw_ac rfl mw_an))) mw_an) rfl rfl hc1 (H.mono (fun o hp2 H => ?_))
    obtain ⟨x3, rfl, H⟩ := H
    refine mm_R.br (L' := [some ((.ref a0)), some (.int i1), some (.int i2), some (.int i3), some (.int i4), some (.int x3)]) (st' := []) (t := 95) (u := 93) (b := mm_cc .ne x3 (0 : Int32)) 3 rfl (fun c => ?_) (fun c => ?_)
    · replace H := H.1 (of_decide_eq_true c)
      exact mm_R.pn (pc' := 13) (L' := [some ((.ref a0)), some (.int i1), some (.int (i2 + x3)), some (.int (0 : Int32)), some (.int i4), some (.int x3)]) (st' := []) 8 rfl H
    · replace H := H.2 (Decidable.of_not_not (of_decide_eq_false c))
      exact mm_R.rt (pc' := 94) (L' := [some ((.ref a0)), some (.int i1), some (.int i2), some (.int i3), some (.int i4), some (.int x3)]) (st1 := [.int (0 : Int32)]) 1 rfl rfl rfl rfl rfl rfl H
-- StepRunnerModel.isDraftValue, from 133
set_option maxRecDepth 10000 in
theorem w135_133 {X : List Int32} {d : Nat} {a0 : Nat} {i1 : Int32} {i2 : Int32} {i3 : Int32} {i4 : Int32} {o5 : Option Value} {s0 : Int32} {hp : mm_H} {Q : Option Value → mm_H → Prop} (H : ((s0 = (0 : Int32) → mm_R X (d + 1) 135 13 [some ((.ref a0)), some (.int (i1 - (1 : Int32))), some (.int (i2 + (1 : Int32))), some (.int s0), some (.int i4), o5] [] hp Q) ∧ (¬ s0 = (0 : Int32) → mm_R X (d + 1) 135 13 [some ((.ref a0)), some (.int i1), some (.int (i2 + (1 : Int32))), some (.int s0), some (.int i4), o5] [] hp Q))) : mm_R X (d + 1) 135 133 [some ((.ref a0)), some (.int i1), some (.int i2), some (.int i3), some (.int i4), o5] [.int s0] hp Q := by
  refine mm_R.br (L' := [some ((.ref a0)), some (.int i1), some (.int i2), some (.int s0), some (.int i4), o5]) (st' := []) (t := 142) (u := 138) (b := mm_cc .eq s0 (0 : Int32)) 3 rfl (fun c => ?_) (fun c => ?_)
  · replace H := H.1 (of_decide_eq_true c)
    exact mm_R.pn (pc' := 13) (L' := [some ((.ref a0)), some (.int (i1 - (1 : Int32))), some (.int (i2 + (1 : Int32))), some (.int s0), some (.int i4), o5]) (st' := []) 6 rfl H
  · replace H := H.2 (of_decide_eq_false c)
    exact mm_R.pn (pc' := 13) (L' := [some ((.ref a0)), some (.int i1), some (.int (i2 + (1 : Int32))), some (.int s0), some (.int i4), o5]) (st' := []) 5 rfl H
-- StepRunnerModel.seen, from 0
set_option maxRecDepth 10000 in
theorem w136_0 {X : List Int32} {d : Nat} {a0 : Nat} {i1 : Int32} {hp : mm_H} {Q : Option Value → mm_H → Prop} (H : mw_gi 10 3 (.ref a0) hp (fun x1 => ((x1 ≤ i1 → Q (some (.int (0 : Int32))) hp) ∧ (¬ x1 ≤ i1 → mw_gv 10 2 (.ref a0) hp (fun v2 => mw_ai 1001 v2 i1 hp (fun x3 => mm_fv .char (.int x3) = true ∧ Q (some (.int x3)) hp)))))) : mm_R X (d + 1) 136 0 (mm_L0 136 [(.ref a0), .int i1]) [] hp Q := by
  show mm_R X (d + 1) 136 0 [some ((.ref a0)), some (.int i1)] [] hp Q
  refine mm_R.wgi (pc' := 2) (L' := [some ((.ref a0)), some (.int i1)]) (r := [.int i1]) 2 rfl rfl (H.mono (fun x1 H => ?_))
  refine mm_R.br (L' := [some ((.ref a0)), some (.int i1)]) (st' := []) (t := 17) (u := 8) (b := mm_cc .ge i1 x1) 1 rfl (fun c => ?_) (fun c => ?_)
  · replace H := H.1 (of_decide_eq_true c)
    exact mm_R.rt (pc' := 18) (L' := [some ((.ref a0)), some (.int i1)]) (st1 := [.int (0 : Int32)]) 1 rfl rfl rfl rfl rfl rfl H
  · replace H := H.2 (of_decide_eq_false c)
    refine mm_R.wgv (pc' := 9) (L' := [some ((.ref a0)), some (.int i1)]) (r := []) 1 rfl rfl (H.mono (fun v2 H => ?_))
    refine mm_R.wai (pc' := 13) (L' := [some ((.ref a0)), some (.int i1)]) (r := []) (t := 1001) 1 rfl rfl rfl rfl (H.mono (fun x3 H => ?_))
    exact mm_R.rt (pc' := 18) (L' := [some ((.ref a0)), some (.int i1)]) (st1 := [.int x3]) 1 rfl rfl rfl rfl rfl (mw_rvi (ty := .char) H.1) H.2
-- StepRunnerModel.scalar, from 0
set_option maxRecDepth 10000 in
theorem w137_0 {X : List Int32} {d : Nat} {a0 : Nat} {i1 : Int32} {i2 : Int32} {hp : mm_H} {Q : Option Value → mm_H → Prop} (H : mw_rc (.ref a0) 136 hp ∧ mm_R X d 136 0 (mm_L0 136 [(.ref a0), .int i1]) [] hp (mw_ri (fun x3 hp2 => ((¬ x3 = (110 : Int32) → mw_rc (.ref a0) 136 hp2 ∧ mm_R X d 136 0 (mm_L0 136 [(.ref a0), .int i1]) [] hp2 (mw_ri (fun x6 hp5 => ((¬ x6 = (34 : Int32) → mw_rc (.ref a0) 136 hp5 ∧ mm_R X d 136 0 (mm_L0 136 [(.ref a0), .int i1]) [] hp5 (mw_ri (fun x9 hp8 => ((¬ x9 = (45 : Int32) → mm_R X (d + 1) 137 212 [some ((.ref a0)), some (.int i1), some (.int i2), some (.int i1), some (.int (0 : Int32)), some (.int (0 : Int32))] [] hp8 Q) ∧ (x9 = (45 : Int32) → mm_R X (d + 1) 137 212 [some ((.ref a0)), some (.int i1), some (.int i2), some (.int (i1 + (1 : Int32))), some (.int (0 : Int32)), some (.int (0 : Int32))] [] hp8 Q))))) ∧ (x6 = (34 : Int32) → mm_R X (d + 1) 137 74 [some ((.ref a0)), some (.int i1), some (.int i2), some (.int (0 : Int32)), none, none] [] hp5 Q))))) ∧ (x3 = (110 : Int32) → mw_rc (.ref a0) 122 hp2 ∧ mm_R X d 122 0 (mm_L0 122 [(.ref a0), .int (141 : Int32), .int (0 : Int32), .int i2, .int (0 : Int32)]) [] hp2 (mw_r0 (fun hp11 => mw_rc (.ref a0) 136 hp11 ∧ mm_R X d 136 0 (mm_L0 136 [(.ref a0), .int (i1 + (1 : Int32))]) [] hp11 (mw_ri (fun x14 hp13 => ((¬ x14 = (117 : Int32) → Q (some (.int (0 : Int32))) hp13) ∧ (x14 = (117 : Int32) → mw_rc (.ref a0) 136 hp13 ∧ mm_R X d 136 0 (mm_L0 136 [(.ref a0), .int (i1 + (2 : Int32))]) [] hp13 (mw_ri (fun x17 hp16 => ((¬ x17 = (108 : Int32) → Q (some (.int (0 : Int32))) hp16) ∧ (x17 = (108 : Int32) → mw_rc (.ref a0) 136 hp16 ∧ mm_R X d 136 0 (mm_L0 136 [(.ref a0), .int (i1 + (3 : Int32))]) [] hp16 (mw_ri (fun x20 hp19 => ((¬ x20 = (108 : Int32) → Q (some (.int (0 : Int32))) hp19) ∧ (x20 = (108 : Int32) → Q (some (.int (4 : Int32))) hp19))))))))))))))))))) : mm_R X (d + 1) 137 0 (mm_L0 137 [(.ref a0), .int i1, .int i2]) [] hp Q := by
  show mm_R X (d + 1) 137 0 [some ((.ref a0)), some (.int i1), some (.int i2), none, none, none] [] hp Q
  obtain ⟨hc1, H⟩ := H
  refine mm_R.cV (pc' := 2) (L' := [some ((.ref a0)), some (.int i1), some (.int i2), none, none, none]) (st1 := [.int i1, (.ref a0)]) (as := [.int i1]) (rest := []) 2 rfl rfl (mw_sp rfl rfl (Nat.le_of_ble_eq_true rfl) (mw_ac rfl (mw_ac rfl mw_an)) mw_an) rfl rfl hc1 (H.mono (fun o hp2 H => ?_))
  obtain ⟨x3, rfl, H⟩ := H
  refine mm_R.br (L' := [some ((.ref a0)), some (.int i1), some (.int i2), none, none, none]) (st' := []) (t := 62) (u := 10) (b := mm_cc .ne x3 (110 : Int32)) 2 rfl (fun c => ?_) (fun c => ?_)
  · replace H := H.1 (of_decide_eq_true c)
    obtain ⟨hc4, H⟩ := H
    refine mm_R.cV (pc' := 64) (L' := [some ((.ref a0)), some (.int i1), some (.int i2), none, none, none]) (st1 := [.int i1, (.ref a0)]) (as := [.int i1]) (rest := []) 2 rfl rfl (mw_sp rfl rfl (Nat.le_of_ble_eq_true rfl) (mw_ac rfl (mw_ac rfl mw_an)) mw_an) rfl rfl hc4 (H.mono (fun o hp5 H => ?_))
    obtain ⟨x6, rfl, H⟩ := H
    refine mm_R.br (L' := [some ((.ref a0)), some (.int i1), some (.int i2), none, none, none]) (st' := []) (t := 188) (u := 72) (b := mm_cc .ne x6 (34 : Int32)) 2 rfl (fun c => ?_) (fun c => ?_)
    · replace H := H.1 (of_decide_eq_true c)
      obtain ⟨hc7, H⟩ := H
      refine mm_R.cV (pc' := 190) (L' := [some ((.ref a0)), some (.int i1), some (.int i2), none, none, none]) (st1 := [.int i1, (.ref a0)]) (as := [.int i1]) (rest := []) 2 rfl rfl (mw_sp rfl rfl (Nat.le_of_ble_eq_true rfl) (mw_ac rfl (mw_ac rfl mw_an)) mw_an) rfl rfl hc7 (H.mono (fun o hp8 H => ?_))
      obtain ⟨x9, rfl, H⟩ := H
      refine mm_R.br (L' := [some ((.ref a0)), some (.int i1), some (.int i2), none, none, none]) (st' := []) (t := 204) (u := 198) (b := mm_cc .ne x9 (45 : Int32)) 2 rfl (fun c => ?_) (fun c => ?_)
      · replace H := H.1 (of_decide_eq_true c)
        exact mm_R.pn (pc' := 212) (L' := [some ((.ref a0)), some (.int i1), some (.int i2), some (.int i1), some (.int (0 : Int32)), some (.int (0 : Int32))]) (st' := []) 6 rfl H
      · replace H := H.2 (Decidable.of_not_not (of_decide_eq_false c))
        exact mm_R.pn (pc' := 212) (L' := [some ((.ref a0)), some (.int i1), some (.int i2), some (.int (i1 + (1 : Int32))), some (.int (0 : Int32)), some (.int (0 : Int32))]) (st' := []) 9 rfl H
    · replace H := H.2 (Decidable.of_not_not (of_decide_eq_false c))
      exact mm_R.pn (pc' := 74) (L' := [some ((.ref a0)), some (.int i1), some (.int i2), some (.int (0 : Int32)), none, none]) (st' := []) 2 rfl H
  · replace H := H.2 (Decidable.of_not_not (of_decide_eq_false c))
    obtain ⟨hc10, H⟩ := H
    refine mm_R.cV (pc' := 17) (L' := [some ((.ref a0)), some (.int i1), some (.int i2), none, none, none]) (st1 := [.int (0 : Int32), .int i2, .int (0 : Int32), .int (141 : Int32), (.ref a0)]) (as := [.int (141 : Int32), .int (0 : Int32), .int i2, .int (0 : Int32)]) (rest := []) 5 rfl rfl (mw_sp rfl rfl (Nat.le_of_ble_eq_true rfl) (mw_ac rfl (mw_ac rfl (mw_ac rfl (mw_ac rfl (mw_ac rfl mw_an))))) mw_an) rfl rfl hc10 (H.mono (fun o hp11 H => ?_))
    obtain ⟨rfl, H⟩ := H
    obtain ⟨hc12, H⟩ := H
    refine mm_R.cV (pc' := 24) (L' := [some ((.ref a0)), some (.int i1), some (.int i2), none, none, none]) (st1 := [.int (i1 + (1 : Int32)), (.ref a0)]) (as := [.int (i1 + (1 : Int32))]) (rest := []) 4 rfl rfl (mw_sp rfl rfl (Nat.le_of_ble_eq_true rfl) (mw_ac rfl (mw_ac rfl mw_an)) mw_an) rfl rfl hc12 (H.mono (fun o hp13 H => ?_))
    obtain ⟨x14, rfl, H⟩ := H
    refine mm_R.br (L' := [some ((.ref a0)), some (.int i1), some (.int i2), none, none, none]) (st' := []) (t := 60) (u := 32) (b := mm_cc .ne x14 (117 : Int32)) 2 rfl (fun c => ?_) (fun c => ?_)
    · replace H := H.1 (of_decide_eq_true c)
      exact mm_R.rt (pc' := 61) (L' := [some ((.ref a0)), some (.int i1), some (.int i2), none, none, none]) (st1 := [.int (0 : Int32)]) 1 rfl rfl rfl rfl rfl rfl H
    · replace H := H.2 (Decidable.of_not_not (of_decide_eq_false c))
      obtain ⟨hc15, H⟩ := H
      refine mm_R.cV (pc' := 36) (L' := [some ((.ref a0)), some (.int i1), some (.int i2), none, none, none]) (st1 := [.int (i1 + (2 : Int32)), (.ref a0)]) (as := [.int (i1 + (2 : Int32))]) (rest := []) 4 rfl rfl (mw_sp rfl rfl (Nat.le_of_ble_eq_true rfl) (mw_ac rfl (mw_ac rfl mw_an)) mw_an) rfl rfl hc15 (H.mono (fun o hp16 H => ?_))
      obtain ⟨x17, rfl, H⟩ := H
      refine mm_R.br (L' := [some ((.ref a0)), some (.int i1), some (.int i2), none, none, none]) (st' := []) (t := 60) (u := 44) (b := mm_cc .ne x17 (108 : Int32)) 2 rfl (fun c => ?_) (fun c => ?_)
      · replace H := H.1 (of_decide_eq_true c)
        exact mm_R.rt (pc' := 61) (L' := [some ((.ref a0)), some (.int i1), some (.int i2), none, none, none]) (st1 := [.int (0 : Int32)]) 1 rfl rfl rfl rfl rfl rfl H
      · replace H := H.2 (Decidable.of_not_not (of_decide_eq_false c))
        obtain ⟨hc18, H⟩ := H
        refine mm_R.cV (pc' := 48) (L' := [some ((.ref a0)), some (.int i1), some (.int i2), none, none, none]) (st1 := [.int (i1 + (3 : Int32)), (.ref a0)]) (as := [.int (i1 + (3 : Int32))]) (rest := []) 4 rfl rfl (mw_sp rfl rfl (Nat.le_of_ble_eq_true rfl) (mw_ac rfl (mw_ac rfl mw_an)) mw_an) rfl rfl hc18 (H.mono (fun o hp19 H => ?_))
        obtain ⟨x20, rfl, H⟩ := H
        refine mm_R.br (L' := [some ((.ref a0)), some (.int i1), some (.int i2), none, none, none]) (st' := []) (t := 60) (u := 56) (b := mm_cc .ne x20 (108 : Int32)) 2 rfl (fun c => ?_) (fun c => ?_)
        · replace H := H.1 (of_decide_eq_true c)
          exact mm_R.rt (pc' := 61) (L' := [some ((.ref a0)), some (.int i1), some (.int i2), none, none, none]) (st1 := [.int (0 : Int32)]) 1 rfl rfl rfl rfl rfl rfl H
        · replace H := H.2 (Decidable.of_not_not (of_decide_eq_false c))
          exact mm_R.rt (pc' := 61) (L' := [some ((.ref a0)), some (.int i1), some (.int i2), none, none, none]) (st1 := [.int (4 : Int32)]) 2 rfl rfl rfl rfl rfl rfl H
-- StepRunnerModel.scalar, from 74
set_option maxRecDepth 10000 in
theorem w137_74 {X : List Int32} {d : Nat} {a0 : Nat} {i1 : Int32} {i2 : Int32} {i3 : Int32} {o4 : Option Value} {o5 : Option Value} {hp : mm_H} {Q : Option Value → mm_H → Prop} (H : mw_gi 10 3 (.ref a0) hp (fun x1 => ((x1 ≤ ((i1 + (1 : Int32)) + i3) → mm_R X (d + 1) 137 144 [some ((.ref a0)), some (.int i1), some (.int i2), some (.int i3), o4, o5] [] hp Q) ∧ (¬ x1 ≤ ((i1 + (1 : Int32)) + i3) → mw_rc (.ref a0) 136 hp ∧ mm_R X d 136 0 (mm_L0 136 [(.ref a0), .int ((i1 + (1 : Int32)) + i3)]) [] hp (mw_ri (fun x4 hp3 => ((x4 = (34 : Int32) → mm_R X (d + 1) 137 144 [some ((.ref a0)), some (.int i1), some (.int i2), some (.int i3), o4, o5] [] hp3 Q) ∧ (¬ x4 = (34 : Int32) → mw_rc (.ref a0) 136 hp3 ∧ mm_R X d 136 0 (mm_L0 136 [(.ref a0), .int ((i1 + (1 : Int32)) + i3)]) [] hp3 (mw_ri (fun x7 hp6 => ((¬ x7 = (92 : Int32) → mw_rc (.ref a0) 136 hp6 ∧ mm_R X d 136 0 (mm_L0 136 [(.ref a0), .int ((i1 + (1 : Int32)) + i3)]) [] hp6 (mw_ri (fun x10 hp9 => mw_rc (.ref a0) 138 hp9 ∧ mm_R X d 138 0 (mm_L0 138 [(.ref a0), .int ((((19128 : Int32) + i1) + (1 : Int32)) + i3), .int x10]) [] hp9 (mw_r0 (fun hp12 => mm_R X (d + 1) 137 74 [some ((.ref a0)), some (.int i1), some (.int i2), some (.int (i3 + (1 : Int32))), o4, o5] [] hp12 Q))))) ∧ (x7 = (92 : Int32) → Q (some (.int (0 : Int32))) hp6)))))))))))) : mm_R X (d + 1) 137 74 [some ((.ref a0)), some (.int i1), some (.int i2), some (.int i3), o4, o5] [] hp Q := by
  refine mm_R.wgi (pc' := 80) (L' := [some ((.ref a0)), some (.int i1), some (.int i2), some (.int i3), o4, o5]) (r := [.int ((i1 + (1 : Int32)) + i3)]) 6 rfl rfl (H.mono (fun x1 H => ?_))
  refine mm_R.br (L' := [some ((.ref a0)), some (.int i1), some (.int i2), some (.int i3), o4, o5]) (st' := []) (t := 144) (u := 86) (b := mm_cc .ge ((i1 + (1 : Int32)) + i3) x1) 1 rfl (fun c => ?_) (fun c => ?_)
  · replace H := H.1 (of_decide_eq_true c)
    exact H
  · replace H := H.2 (of_decide_eq_false c)
    obtain ⟨hc2, H⟩ := H
    refine mm_R.cV (pc' := 92) (L' := [some ((.ref a0)), some (.int i1), some (.int i2), some (.int i3), o4, o5]) (st1 := [.int ((i1 + (1 : Int32)) + i3), (.ref a0)]) (as := [.int ((i1 + (1 : Int32)) + i3)]) (rest := []) 6 rfl rfl (mw_sp rfl rfl (Nat.le_of_ble_eq_true rfl) (mw_ac rfl (mw_ac rfl mw_an)) mw_an) rfl rfl hc2 (H.mono (fun o hp3 H => ?_))
    obtain ⟨x4, rfl, H⟩ := H
    refine mm_R.br (L' := [some ((.ref a0)), some (.int i1), some (.int i2), some (.int i3), o4, o5]) (st' := []) (t := 144) (u := 100) (b := mm_cc .eq x4 (34 : Int32)) 2 rfl (fun c => ?_) (fun c => ?_)
    · replace H := H.1 (of_decide_eq_true c)
      exact H
    · replace H := H.2 (of_decide_eq_false c)
      obtain ⟨hc5, H⟩ := H
      refine mm_R.cV (pc' := 106) (L' := [some ((.ref a0)), some (.int i1), some (.int i2), some (.int i3), o4, o5]) (st1 := [.int ((i1 + (1 : Int32)) + i3), (.ref a0)]) (as := [.int ((i1 + (1 : Int32)) + i3)]) (rest := []) 6 rfl rfl (mw_sp rfl rfl (Nat.le_of_ble_eq_true rfl) (mw_ac rfl (mw_ac rfl mw_an)) mw_an) rfl rfl hc5 (H.mono (fun o hp6 H => ?_))
      obtain ⟨x7, rfl, H⟩ := H
      refine mm_R.br (L' := [some ((.ref a0)), some (.int i1), some (.int i2), some (.int i3), o4, o5]) (st' := []) (t := 116) (u := 114) (b := mm_cc .ne x7 (92 : Int32)) 2 rfl (fun c => ?_) (fun c => ?_)
      · replace H := H.1 (of_decide_eq_true c)
        obtain ⟨hc8, H⟩ := H
        refine mm_R.cV (pc' := 132) (L' := [some ((.ref a0)), some (.int i1), some (.int i2), some (.int i3), o4, o5]) (st1 := [.int ((i1 + (1 : Int32)) + i3), (.ref a0), .int ((((19128 : Int32) + i1) + (1 : Int32)) + i3), (.ref a0)]) (as := [.int ((i1 + (1 : Int32)) + i3)]) (rest := [.int ((((19128 : Int32) + i1) + (1 : Int32)) + i3), (.ref a0)]) 14 rfl rfl (mw_sp rfl rfl (Nat.le_of_ble_eq_true rfl) (mw_ac rfl (mw_ac rfl mw_an)) (mw_ac rfl (mw_ac rfl mw_an))) rfl rfl hc8 (H.mono (fun o hp9 H => ?_))
        obtain ⟨x10, rfl, H⟩ := H
        obtain ⟨hc11, H⟩ := H
        refine mm_R.cV (pc' := 135) (L' := [some ((.ref a0)), some (.int i1), some (.int i2), some (.int i3), o4, o5]) (st1 := [.int x10, .int ((((19128 : Int32) + i1) + (1 : Int32)) + i3), (.ref a0)]) (as := [.int ((((19128 : Int32) + i1) + (1 : Int32)) + i3), .int x10]) (rest := []) 0 rfl rfl (mw_sp rfl rfl (Nat.le_of_ble_eq_true rfl) (mw_ac rfl (mw_ac rfl (mw_ac rfl mw_an))) mw_an) rfl rfl hc11 (H.mono (fun o hp12 H => ?_))
        obtain ⟨rfl, H⟩ := H
        exact mm_R.pn (pc' := 74) (L' := [some ((.ref a0)), some (.int i1), some (.int i2), some (.int (i3 + (1 : Int32))), o4, o5]) (st' := []) 2 rfl H
      · replace H := H.2 (Decidable.of_not_not (of_decide_eq_false c))
        exact mm_R.rt (pc' := 115) (L' := [some ((.ref a0)), some (.int i1), some (.int i2), some (.int i3), o4, o5]) (st1 := [.int (0 : Int32)]) 1 rfl rfl rfl rfl rfl rfl H
-- StepRunnerModel.scalar, from 144
set_option maxRecDepth 10000 in
theorem w137_144 {X : List Int32} {d : Nat} {a0 : Nat} {i1 : Int32} {i2 : Int32} {i3 : Int32} {o4 : Option Value} {o5 : Option Value} {hp : mm_H} {Q : Option Value → mm_H → Prop} (H : mw_rc (.ref a0) 139 hp ∧ mm_R X d 139 0 (mm_L0 139 [(.ref a0), .int (141 : Int32), .int i2, .int (((19128 : Int32) + i1) + (1 : Int32)), .int i3]) [] hp (mw_r0 (fun hp2 => (((24 : Int32) < i3 → Q (some (.int (0 : Int32))) hp2) ∧ (¬ (24 : Int32) < i3 → mw_rc (.ref a0) 136 hp2 ∧ mm_R X d 136 0 (mm_L0 136 [(.ref a0), .int ((i1 + (1 : Int32)) + i3)]) [] hp2 (mw_ri (fun x5 hp4 => ((¬ x5 = (34 : Int32) → Q (some (.int (0 : Int32))) hp4) ∧ (x5 = (34 : Int32) → Q (some (.int (i3 + (2 : Int32)))) hp4))))))))) : mm_R X (d + 1) 137 144 [some ((.ref a0)), some (.int i1), some (.int i2), some (.int i3), o4, o5] [] hp Q := by
  obtain ⟨hc1, H⟩ := H
  refine mm_R.cV (pc' := 157) (L' := [some ((.ref a0)), some (.int i1), some (.int i2), some (.int i3), o4, o5]) (st1 := [.int i3, .int (((19128 : Int32) + i1) + (1 : Int32)), .int i2, .int (141 : Int32), (.ref a0)]) (as := [.int (141 : Int32), .int i2, .int (((19128 : Int32) + i1) + (1 : Int32)), .int i3]) (rest := []) 9 rfl rfl (mw_sp rfl rfl (Nat.le_of_ble_eq_true rfl) (mw_ac rfl (mw_ac rfl (mw_ac rfl (mw_ac rfl (mw_ac rfl mw_an))))) mw_an) rfl rfl hc1 (H.mono (fun o hp2 H => ?_))
  obtain ⟨rfl, H⟩ := H
  refine mm_R.br (L' := [some ((.ref a0)), some (.int i1), some (.int i2), some (.int i3), o4, o5]) (st' := []) (t := 186) (u := 166) (b := mm_cc .gt i3 (24 : Int32)) 3 rfl (fun c => ?_) (fun c => ?_)
  · replace H := H.1 (of_decide_eq_true c)
    exact mm_R.rt (pc' := 187) (L' := [some ((.ref a0)), some (.int i1), some (.int i2), some (.int i3), o4, o5]) (st1 := [.int (0 : Int32)]) 1 rfl rfl rfl rfl rfl rfl H
  · replace H := H.2 (of_decide_eq_false c)
    obtain ⟨hc3, H⟩ := H
    refine mm_R.cV (pc' := 172) (L' := [some ((.ref a0)), some (.int i1), some (.int i2), some (.int i3), o4, o5]) (st1 := [.int ((i1 + (1 : Int32)) + i3), (.ref a0)]) (as := [.int ((i1 + (1 : Int32)) + i3)]) (rest := []) 6 rfl rfl (mw_sp rfl rfl (Nat.le_of_ble_eq_true rfl) (mw_ac rfl (mw_ac rfl mw_an)) mw_an) rfl rfl hc3 (H.mono (fun o hp4 H => ?_))
    obtain ⟨x5, rfl, H⟩ := H
    refine mm_R.br (L' := [some ((.ref a0)), some (.int i1), some (.int i2), some (.int i3), o4, o5]) (st' := []) (t := 186) (u := 180) (b := mm_cc .ne x5 (34 : Int32)) 2 rfl (fun c => ?_) (fun c => ?_)
    · replace H := H.1 (of_decide_eq_true c)
      exact mm_R.rt (pc' := 187) (L' := [some ((.ref a0)), some (.int i1), some (.int i2), some (.int i3), o4, o5]) (st1 := [.int (0 : Int32)]) 1 rfl rfl rfl rfl rfl rfl H
    · replace H := H.2 (Decidable.of_not_not (of_decide_eq_false c))
      exact mm_R.rt (pc' := 187) (L' := [some ((.ref a0)), some (.int i1), some (.int i2), some (.int i3), o4, o5]) (st1 := [.int (i3 + (2 : Int32))]) 4 rfl rfl rfl rfl rfl rfl H
-- StepRunnerModel.scalar, from 212
set_option maxRecDepth 10000 in
theorem w137_212 {X : List Int32} {d : Nat} {a0 : Nat} {i1 : Int32} {i2 : Int32} {i3 : Int32} {i4 : Int32} {i5 : Int32} {hp : mm_H} {Q : Option Value → mm_H → Prop} (H : mw_rc (.ref a0) 136 hp ∧ mm_R X d 136 0 (mm_L0 136 [(.ref a0), .int (i3 + i4)]) [] hp (mw_ri (fun x3 hp2 => mm_R X d 141 0 (mm_L0 141 [.int x3]) [] hp2 (mw_ri (fun x5 hp4 => ((x5 = (0 : Int32) → mm_R X (d + 1) 137 258 [some ((.ref a0)), some (.int i1), some (.int i2), some (.int i3), some (.int i4), some (.int i5)] [] hp4 Q) ∧ (¬ x5 = (0 : Int32) → (((7 : Int32) ≤ i4 → mm_R X (d + 1) 137 258 [some ((.ref a0)), some (.int i1), some (.int i2), some (.int i3), some (.int i4), some (.int i5)] [] hp4 Q) ∧ (¬ (7 : Int32) ≤ i4 → mw_rc (.ref a0) 136 hp4 ∧ mm_R X d 136 0 (mm_L0 136 [(.ref a0), .int (i3 + i4)]) [] hp4 (mw_ri (fun x8 hp7 => mm_R X (d + 1) 137 212 [some ((.ref a0)), some (.int i1), some (.int i2), some (.int i3), some (.int (i4 + (1 : Int32))), some (.int ((((10 : Int32) * i5) + x8) - (48 : Int32)))] [] hp7 Q))))))))))) : mm_R X (d + 1) 137 212 [some ((.ref a0)), some (.int i1), some (.int i2), some (.int i3), some (.int i4), some (.int i5)] [] hp Q := by
  obtain ⟨hc1, H⟩ := H
  refine mm_R.cV (pc' := 217) (L' := [some ((.ref a0)), some (.int i1), some (.int i2), some (.int i3), some (.int i4), some (.int i5)]) (st1 := [.int (i3 + i4), (.ref a0)]) (as := [.int (i3 + i4)]) (rest := []) 4 rfl rfl (mw_sp rfl rfl (Nat.le_of_ble_eq_true rfl) (mw_ac rfl (mw_ac rfl mw_an)) mw_an) rfl rfl hc1 (H.mono (fun o hp2 H => ?_))
  obtain ⟨x3, rfl, H⟩ := H
  refine mm_R.cS (pc' := 220) (L' := [some ((.ref a0)), some (.int i1), some (.int i2), some (.int i3), some (.int i4), some (.int i5)]) (st1 := [.int x3]) (as := [.int x3]) (rest := []) 0 rfl rfl (mw_sp rfl rfl (Nat.le_of_ble_eq_true rfl) (mw_ac rfl mw_an) mw_an) rfl rfl (H.mono (fun o hp4 H => ?_))
  obtain ⟨x5, rfl, H⟩ := H
  refine mm_R.br (L' := [some ((.ref a0)), some (.int i1), some (.int i2), some (.int i3), some (.int i4), some (.int i5)]) (st' := []) (t := 258) (u := 226) (b := mm_cc .eq x5 (0 : Int32)) 1 rfl (fun c => ?_) (fun c => ?_)
  · replace H := H.1 (of_decide_eq_true c)
    exact H
  · replace H := H.2 (of_decide_eq_false c)
    refine mm_R.br (L' := [some ((.ref a0)), some (.int i1), some (.int i2), some (.int i3), some (.int i4), some (.int i5)]) (st' := []) (t := 258) (u := 233) (b := mm_cc .ge i4 (7 : Int32)) 3 rfl (fun c => ?_) (fun c => ?_)
    · replace H := H.1 (of_decide_eq_true c)
      exact H
    · replace H := H.2 (of_decide_eq_false c)
      obtain ⟨hc6, H⟩ := H
      refine mm_R.cV (pc' := 243) (L' := [some ((.ref a0)), some (.int i1), some (.int i2), some (.int i3), some (.int i4), some (.int i5)]) (st1 := [.int (i3 + i4), (.ref a0), .int ((10 : Int32) * i5)]) (as := [.int (i3 + i4)]) (rest := [.int ((10 : Int32) * i5)]) 7 rfl rfl (mw_sp rfl rfl (Nat.le_of_ble_eq_true rfl) (mw_ac rfl (mw_ac rfl mw_an)) (mw_ac rfl mw_an)) rfl rfl hc6 (H.mono (fun o hp7 H => ?_))
      obtain ⟨x8, rfl, H⟩ := H
      exact mm_R.pn (pc' := 212) (L' := [some ((.ref a0)), some (.int i1), some (.int i2), some (.int i3), some (.int (i4 + (1 : Int32))), some (.int ((((10 : Int32) * i5) + x8) - (48 : Int32)))]) (st' := []) 6 rfl H
-- StepRunnerModel.scalar, from 258
set_option maxRecDepth 10000 in
theorem w137_258 {X : List Int32} {d : Nat} {a0 : Nat} {i1 : Int32} {i2 : Int32} {i3 : Int32} {i4 : Int32} {i5 : Int32} {hp : mm_H} {Q : Option Value → mm_H → Prop} (H : ((i4 < (1 : Int32) → Q (some (.int (0 : Int32))) hp) ∧ (¬ i4 < (1 : Int32) → (((6 : Int32) < i4 → Q (some (.int (0 : Int32))) hp) ∧ (¬ (6 : Int32) < i4 → mw_rc (.ref a0) 136 hp ∧ mm_R X d 136 0 (mm_L0 136 [(.ref a0), .int i3]) [] hp (mw_ri (fun x3 hp2 => ((¬ x3 = (48 : Int32) → mm_R X (d + 1) 137 294 [some ((.ref a0)), some (.int i1), some (.int i2), some (.int i3), some (.int i4), some (.int i5)] [] hp2 Q) ∧ (x3 = (48 : Int32) → (((1 : Int32) < i4 → Q (some (.int (0 : Int32))) hp2) ∧ (¬ (1 : Int32) < i4 → ((i3 ≤ i1 → mm_R X (d + 1) 137 294 [some ((.ref a0)), some (.int i1), some (.int i2), some (.int i3), some (.int i4), some (.int i5)] [] hp2 Q) ∧ (¬ i3 ≤ i1 → Q (some (.int (0 : Int32))) hp2))))))))))))) : mm_R X (d + 1) 137 258 [some ((.ref a0)), some (.int i1), some (.int i2), some (.int i3), some (.int i4), some (.int i5)] [] hp Q := by
  refine mm_R.br (L' := [some ((.ref a0)), some (.int i1), some (.int i2), some (.int i3), some (.int i4), some (.int i5)]) (st' := []) (t := 292) (u := 264) (b := mm_cc .lt i4 (1 : Int32)) 3 rfl (fun c => ?_) (fun c => ?_)
  · replace H := H.1 (of_decide_eq_true c)
    exact mm_R.rt (pc' := 293) (L' := [some ((.ref a0)), some (.int i1), some (.int i2), some (.int i3), some (.int i4), some (.int i5)]) (st1 := [.int (0 : Int32)]) 1 rfl rfl rfl rfl rfl rfl H
  · replace H := H.2 (of_decide_eq_false c)
    refine mm_R.br (L' := [some ((.ref a0)), some (.int i1), some (.int i2), some (.int i3), some (.int i4), some (.int i5)]) (st' := []) (t := 292) (u := 271) (b := mm_cc .gt i4 (6 : Int32)) 3 rfl (fun c => ?_) (fun c => ?_)
    · replace H := H.1 (of_decide_eq_true c)
      exact mm_R.rt (pc' := 293) (L' := [some ((.ref a0)), some (.int i1), some (.int i2), some (.int i3), some (.int i4), some (.int i5)]) (st1 := [.int (0 : Int32)]) 1 rfl rfl rfl rfl rfl rfl H
    · replace H := H.2 (of_decide_eq_false c)
      obtain ⟨hc1, H⟩ := H
      refine mm_R.cV (pc' := 273) (L' := [some ((.ref a0)), some (.int i1), some (.int i2), some (.int i3), some (.int i4), some (.int i5)]) (st1 := [.int i3, (.ref a0)]) (as := [.int i3]) (rest := []) 2 rfl rfl (mw_sp rfl rfl (Nat.le_of_ble_eq_true rfl) (mw_ac rfl (mw_ac rfl mw_an)) mw_an) rfl rfl hc1 (H.mono (fun o hp2 H => ?_))
      obtain ⟨x3, rfl, H⟩ := H
      refine mm_R.br (L' := [some ((.ref a0)), some (.int i1), some (.int i2), some (.int i3), some (.int i4), some (.int i5)]) (st' := []) (t := 294) (u := 281) (b := mm_cc .ne x3 (48 : Int32)) 2 rfl (fun c => ?_) (fun c => ?_)
      · replace H := H.1 (of_decide_eq_true c)
        exact H
      · replace H := H.2 (Decidable.of_not_not (of_decide_eq_false c))
        refine mm_R.br (L' := [some ((.ref a0)), some (.int i1), some (.int i2), some (.int i3), some (.int i4), some (.int i5)]) (st' := []) (t := 292) (u := 287) (b := mm_cc .gt i4 (1 : Int32)) 3 rfl (fun c => ?_) (fun c => ?_)
        · replace H := H.1 (of_decide_eq_true c)
          exact mm_R.rt (pc' := 293) (L' := [some ((.ref a0)), some (.int i1), some (.int i2), some (.int i3), some (.int i4), some (.int i5)]) (st1 := [.int (0 : Int32)]) 1 rfl rfl rfl rfl rfl rfl H
        · replace H := H.2 (of_decide_eq_false c)
          refine mm_R.br (L' := [some ((.ref a0)), some (.int i1), some (.int i2), some (.int i3), some (.int i4), some (.int i5)]) (st' := []) (t := 294) (u := 292) (b := mm_cc .le i3 i1) 3 rfl (fun c => ?_) (fun c => ?_)
          · replace H := H.1 (of_decide_eq_true c)
            exact H
          · replace H := H.2 (of_decide_eq_false c)
            exact mm_R.rt (pc' := 293) (L' := [some ((.ref a0)), some (.int i1), some (.int i2), some (.int i3), some (.int i4), some (.int i5)]) (st1 := [.int (0 : Int32)]) 1 rfl rfl rfl rfl rfl rfl H
-- StepRunnerModel.scalar, from 294
set_option maxRecDepth 10000 in
theorem w137_294 {X : List Int32} {d : Nat} {a0 : Nat} {i1 : Int32} {i2 : Int32} {i3 : Int32} {i4 : Int32} {i5 : Int32} {hp : mm_H} {Q : Option Value → mm_H → Prop} (H : ((i3 ≤ i1 → mw_rc (.ref a0) 122 hp ∧ mm_R X d 122 0 (mm_L0 122 [(.ref a0), .int (141 : Int32), .int (1 : Int32), .int i2, .int i5]) [] hp (mw_r0 (fun hp2 => Q (some (.int ((i3 + i4) - i1))) hp2))) ∧ (¬ i3 ≤ i1 → mw_rc (.ref a0) 122 hp ∧ mm_R X d 122 0 (mm_L0 122 [(.ref a0), .int (141 : Int32), .int (1 : Int32), .int i2, .int (-i5)]) [] hp (mw_r0 (fun hp4 => Q (some (.int ((i3 + i4) - i1))) hp4))))) : mm_R X (d + 1) 137 294 [some ((.ref a0)), some (.int i1), some (.int i2), some (.int i3), some (.int i4), some (.int i5)] [] hp Q := by
  refine mm_R.br (L' := [some ((.ref a0)), some (.int i1), some (.int i2), some (.int i3), some (.int i4), some (.int i5)]) (st' := [.int i2, .int (1 : Int32), .int (141 : Int32), (.ref a0)]) (t := 311) (u := 305) (b := mm_cc .le i3 i1) 7 rfl (fun c => ?_) (fun c => ?_)
  · replace H := H.1 (of_decide_eq_true c)
    obtain ⟨hc1, H⟩ := H
    refine mm_R.cV (pc' := 313) (L' := [some ((.ref a0)), some (.int i1), some (.int i2), some (.int i3), some (.int i4), some (.int i5)]) (st1 := [.int i5, .int i2, .int (1 : Int32), .int (141 : Int32), (.ref a0)]) (as := [.int (141 : Int32), .int (1 : Int32), .int i2, .int i5]) (rest := []) 1 rfl rfl (mw_sp rfl rfl (Nat.le_of_ble_eq_true rfl) (mw_ac rfl (mw_ac rfl (mw_ac rfl (mw_ac rfl (mw_ac rfl mw_an))))) mw_an) rfl rfl hc1 (H.mono (fun o hp2 H => ?_))
    obtain ⟨rfl, H⟩ := H
    exact mm_R.rt (pc' := 322) (L' := [some ((.ref a0)), some (.int i1), some (.int i2), some (.int i3), some (.int i4), some (.int i5)]) (st1 := [.int ((i3 + i4) - i1)]) 5 rfl rfl rfl rfl rfl rfl H
  · replace H := H.2 (of_decide_eq_false c)
    obtain ⟨hc3, H⟩ := H
    refine mm_R.cV (pc' := 313) (L' := [some ((.ref a0)), some (.int i1), some (.int i2), some (.int i3), some (.int i4), some (.int i5)]) (st1 := [.int (-i5), .int i2, .int (1 : Int32), .int (141 : Int32), (.ref a0)]) (as := [.int (141 : Int32), .int (1 : Int32), .int i2, .int (-i5)]) (rest := []) 3 rfl rfl (mw_sp rfl rfl (Nat.le_of_ble_eq_true rfl) (mw_ac rfl (mw_ac rfl (mw_ac rfl (mw_ac rfl (mw_ac rfl mw_an))))) mw_an) rfl rfl hc3 (H.mono (fun o hp4 H => ?_))
    obtain ⟨rfl, H⟩ := H
    exact mm_R.rt (pc' := 322) (L' := [some ((.ref a0)), some (.int i1), some (.int i2), some (.int i3), some (.int i4), some (.int i5)]) (st1 := [.int ((i3 + i4) - i1)]) 5 rfl rfl rfl rfl rfl rfl H
-- StepRunnerModel.setSign, from 0
set_option maxRecDepth 10000 in
theorem w138_0 {X : List Int32} {d : Nat} {a0 : Nat} {i1 : Int32} {i2 : Int32} {hp : mm_H} {Q : Option Value → mm_H → Prop} (H : mw_gv 10 0 (.ref a0) hp (fun v1 => mw_gv 10 0 (.ref a0) hp (fun v2 => mw_al 1004 v2 (i1 / (8 : Int32)) hp (fun x3 => mw_sl v1 (i1 / (8 : Int32)) ((x3 &&& (((255 : Int64) <<< (Int32.toInt64 ((8 : Int32) * (i1 - i1 / (8 : Int32) * (8 : Int32))) &&& 63)) ^^^ (-1 : Int64))) ||| ((Int32.toInt64 i2) <<< (Int32.toInt64 ((8 : Int32) * (i1 - i1 / (8 : Int32) * (8 : Int32))) &&& 63))) hp (fun hp4 => Q none hp4))))) : mm_R X (d + 1) 138 0 (mm_L0 138 [(.ref a0), .int i1, .int i2]) [] hp Q := by
  show mm_R X (d + 1) 138 0 [some ((.ref a0)), some (.int i1), some (.int i2)] [] hp Q
  refine mm_R.wgv (pc' := 1) (L' := [some ((.ref a0)), some (.int i1), some (.int i2)]) (r := []) 1 rfl rfl (H.mono (fun v1 H => ?_))
  refine mm_R.wgv (pc' := 9) (L' := [some ((.ref a0)), some (.int i1), some (.int i2)]) (r := [.int (i1 / (8 : Int32)), v1]) 4 rfl rfl (H.mono (fun v2 H => ?_))
  refine mm_R.wal (pc' := 16) (L' := [some ((.ref a0)), some (.int i1), some (.int i2)]) (r := [.int (i1 / (8 : Int32)), v1]) (t := 1004) 3 rfl rfl rfl rfl (H.mono (fun x3 H => ?_))
  refine mm_R.wsl (pc' := 44) (L' := [some ((.ref a0)), some (.int i1), some (.int i2)]) (r := []) 19 rfl rfl (H.mono (fun hp4 H => ?_))
  exact mm_R.rt (pc' := 45) (L' := [some ((.ref a0)), some (.int i1), some (.int i2)]) (st1 := []) 0 rfl rfl rfl rfl rfl rfl H
-- StepRunnerModel.addText, from 0
set_option maxRecDepth 10000 in
theorem w139_0 {X : List Int32} {d : Nat} {a0 : Nat} {i1 : Int32} {i2 : Int32} {i3 : Int32} {i4 : Int32} {hp : mm_H} {Q : Option Value → mm_H → Prop} (H : mw_rc (.ref a0) 122 hp ∧ mm_R X d 122 0 (mm_L0 122 [(.ref a0), .int i1, .int (2 : Int32), .int i2, .int (0 : Int32)]) [] hp (mw_r0 (fun hp2 => mm_R X d 123 0 (mm_L0 123 [.int i1]) [] hp2 (mw_ri (fun x4 hp3 => mw_gv 10 5 (.ref a0) hp3 (fun v5 => mw_ai 1000 v5 i1 hp3 (fun x6 => mw_rc (.ref a0) 140 hp3 ∧ mm_R X d 140 0 (mm_L0 140 [(.ref a0), .int ((x4 + x6) - (1 : Int32)), .int i3, .int i4]) [] hp3 (mw_r0 (fun hp8 => Q none hp8))))))))) : mm_R X (d + 1) 139 0 (mm_L0 139 [(.ref a0), .int i1, .int i2, .int i3, .int i4]) [] hp Q := by
  show mm_R X (d + 1) 139 0 [some ((.ref a0)), some (.int i1), some (.int i2), some (.int i3), some (.int i4)] [] hp Q
  obtain ⟨hc1, H⟩ := H
  refine mm_R.cV (pc' := 5) (L' := [some ((.ref a0)), some (.int i1), some (.int i2), some (.int i3), some (.int i4)]) (st1 := [.int (0 : Int32), .int i2, .int (2 : Int32), .int i1, (.ref a0)]) (as := [.int i1, .int (2 : Int32), .int i2, .int (0 : Int32)]) (rest := []) 5 rfl rfl (mw_sp rfl rfl (Nat.le_of_ble_eq_true rfl) (mw_ac rfl (mw_ac rfl (mw_ac rfl (mw_ac rfl (mw_ac rfl mw_an))))) mw_an) rfl rfl hc1 (H.mono (fun o hp2 H => ?_))
  obtain ⟨rfl, H⟩ := H
  refine mm_R.cS (pc' := 10) (L' := [some ((.ref a0)), some (.int i1), some (.int i2), some (.int i3), some (.int i4)]) (st1 := [.int i1, (.ref a0)]) (as := [.int i1]) (rest := [(.ref a0)]) 2 rfl rfl (mw_sp rfl rfl (Nat.le_of_ble_eq_true rfl) (mw_ac rfl mw_an) (mw_ac rfl mw_an)) rfl rfl (H.mono (fun o hp3 H => ?_))
  obtain ⟨x4, rfl, H⟩ := H
  refine mm_R.wgv (pc' := 14) (L' := [some ((.ref a0)), some (.int i1), some (.int i2), some (.int i3), some (.int i4)]) (r := [.int x4, (.ref a0)]) 1 rfl rfl (H.mono (fun v5 H => ?_))
  refine mm_R.wai (pc' := 18) (L' := [some ((.ref a0)), some (.int i1), some (.int i2), some (.int i3), some (.int i4)]) (r := [.int x4, (.ref a0)]) (t := 1000) 1 rfl rfl rfl rfl (H.mono (fun x6 H => ?_))
  obtain ⟨hc7, H⟩ := H
  refine mm_R.cV (pc' := 25) (L' := [some ((.ref a0)), some (.int i1), some (.int i2), some (.int i3), some (.int i4)]) (st1 := [.int i4, .int i3, .int ((x4 + x6) - (1 : Int32)), (.ref a0)]) (as := [.int ((x4 + x6) - (1 : Int32)), .int i3, .int i4]) (rest := []) 5 rfl rfl (mw_sp rfl rfl (Nat.le_of_ble_eq_true rfl) (mw_ac rfl (mw_ac rfl (mw_ac rfl (mw_ac rfl mw_an)))) mw_an) rfl rfl hc7 (H.mono (fun o hp8 H => ?_))
  obtain ⟨rfl, H⟩ := H
  exact mm_R.rt (pc' := 28) (L' := [some ((.ref a0)), some (.int i1), some (.int i2), some (.int i3), some (.int i4)]) (st1 := []) 0 rfl rfl rfl rfl rfl rfl H
-- StepRunnerModel.setText, from 0
set_option maxRecDepth 10000 in
theorem w140_0 {X : List Int32} {d : Nat} {a0 : Nat} {i1 : Int32} {i2 : Int32} {i3 : Int32} {hp : mm_H} {Q : Option Value → mm_H → Prop} (H : mw_gv 10 4 (.ref a0) hp (fun v1 => mw_gv 10 4 (.ref a0) hp (fun v2 => mw_al 1004 v2 i1 hp (fun x3 => mw_sl v1 i1 ((x3 &&& (-536870657 : Int64)) ||| (Int32.toInt64 ((i3 <<< ((8 : Int32) &&& 31)) ||| (i2 <<< ((14 : Int32) &&& 31))))) hp (fun hp4 => Q none hp4))))) : mm_R X (d + 1) 140 0 (mm_L0 140 [(.ref a0), .int i1, .int i2, .int i3]) [] hp Q := by
  show mm_R X (d + 1) 140 0 [some ((.ref a0)), some (.int i1), some (.int i2), some (.int i3)] [] hp Q
  refine mm_R.wgv (pc' := 1) (L' := [some ((.ref a0)), some (.int i1), some (.int i2), some (.int i3)]) (r := []) 1 rfl rfl (H.mono (fun v1 H => ?_))
  refine mm_R.wgv (pc' := 6) (L' := [some ((.ref a0)), some (.int i1), some (.int i2), some (.int i3)]) (r := [.int i1, v1]) 2 rfl rfl (H.mono (fun v2 H => ?_))
  refine mm_R.wal (pc' := 10) (L' := [some ((.ref a0)), some (.int i1), some (.int i2), some (.int i3)]) (r := [.int i1, v1]) (t := 1004) 1 rfl rfl rfl rfl (H.mono (fun x3 H => ?_))
  refine mm_R.wsl (pc' := 26) (L' := [some ((.ref a0)), some (.int i1), some (.int i2), some (.int i3)]) (r := []) 11 rfl rfl (H.mono (fun hp4 H => ?_))
  exact mm_R.rt (pc' := 27) (L' := [some ((.ref a0)), some (.int i1), some (.int i2), some (.int i3)]) (st1 := []) 0 rfl rfl rfl rfl rfl rfl H
-- StepRunnerModel.isDigit, from 0
set_option maxRecDepth 10000 in
theorem w141_0 {X : List Int32} {d : Nat} {i0 : Int32} {hp : mm_H} {Q : Option Value → mm_H → Prop} (H : ((i0 < (48 : Int32) → Q (some (.int (0 : Int32))) hp) ∧ (¬ i0 < (48 : Int32) → (((57 : Int32) < i0 → Q (some (.int (0 : Int32))) hp) ∧ (¬ (57 : Int32) < i0 → Q (some (.int (1 : Int32))) hp))))) : mm_R X (d + 1) 141 0 (mm_L0 141 [.int i0]) [] hp Q := by
  show mm_R X (d + 1) 141 0 [some (.int i0)] [] hp Q
  refine mm_R.br (L' := [some (.int i0)]) (st' := []) (t := 16) (u := 6) (b := mm_cc .lt i0 (48 : Int32)) 3 rfl (fun c => ?_) (fun c => ?_)
  · replace H := H.1 (of_decide_eq_true c)
    exact mm_R.rt (pc' := 17) (L' := [some (.int i0)]) (st1 := [.int (0 : Int32)]) 1 rfl rfl rfl rfl rfl rfl H
  · replace H := H.2 (of_decide_eq_false c)
    refine mm_R.br (L' := [some (.int i0)]) (st' := []) (t := 16) (u := 12) (b := mm_cc .gt i0 (57 : Int32)) 3 rfl (fun c => ?_) (fun c => ?_)
    · replace H := H.1 (of_decide_eq_true c)
      exact mm_R.rt (pc' := 17) (L' := [some (.int i0)]) (st1 := [.int (0 : Int32)]) 1 rfl rfl rfl rfl rfl rfl H
    · replace H := H.2 (of_decide_eq_false c)
      exact mm_R.rt (pc' := 17) (L' := [some (.int i0)]) (st1 := [.int (1 : Int32)]) 2 rfl rfl rfl rfl rfl rfl H
-- StepRunnerModel.isValue, from 0
set_option maxRecDepth 10000 in
theorem w142_0 {X : List Int32} {d : Nat} {a0 : Nat} {i1 : Int32} {hp : mm_H} {Q : Option Value → mm_H → Prop} (H : mw_rc (.ref a0) 143 hp ∧ mm_R X d 143 0 (mm_L0 143 [(.ref a0), .int i1]) [] hp (mw_ri (fun x3 hp2 => mm_R X d 123 0 (mm_L0 123 [.int i1]) [] hp2 (mw_ri (fun x5 hp4 => mm_R X (d + 1) 142 11 [some ((.ref a0)), some (.int i1), some (.int x3), some (.int x5)] [] hp4 Q))))) : mm_R X (d + 1) 142 0 (mm_L0 142 [(.ref a0), .int i1]) [] hp Q := by
  show mm_R X (d + 1) 142 0 [some ((.ref a0)), some (.int i1), none, none] [] hp Q
  obtain ⟨hc1, H⟩ := H
  refine mm_R.cV (pc' := 2) (L' := [some ((.ref a0)), some (.int i1), none, none]) (st1 := [.int i1, (.ref a0)]) (as := [.int i1]) (rest := []) 2 rfl rfl (mw_sp rfl rfl (Nat.le_of_ble_eq_true rfl) (mw_ac rfl (mw_ac rfl mw_an)) mw_an) rfl rfl hc1 (H.mono (fun o hp2 H => ?_))
  obtain ⟨x3, rfl, H⟩ := H
  refine mm_R.cS (pc' := 7) (L' := [some ((.ref a0)), some (.int i1), some (.int x3), none]) (st1 := [.int i1]) (as := [.int i1]) (rest := []) 2 rfl rfl (mw_sp rfl rfl (Nat.le_of_ble_eq_true rfl) (mw_ac rfl mw_an) mw_an) rfl rfl (H.mono (fun o hp4 H => ?_))
  obtain ⟨x5, rfl, H⟩ := H
  exact mm_R.pn (pc' := 11) (L' := [some ((.ref a0)), some (.int i1), some (.int x3), some (.int x5)]) (st' := []) 1 rfl H
-- StepRunnerModel.isValue, from 11
set_option maxRecDepth 10000 in
theorem w142_11 {X : List Int32} {d : Nat} {a0 : Nat} {i1 : Int32} {i2 : Int32} {i3 : Int32} {hp : mm_H} {Q : Option Value → mm_H → Prop} (H : ((i2 ≤ i3 → Q (some (.int (1 : Int32))) hp) ∧ (¬ i2 ≤ i3 → mw_rc (.ref a0) 144 hp ∧ mm_R X d 144 0 (mm_L0 144 [(.ref a0), .int i3]) [] hp (mw_ri (fun x3 hp2 => ((¬ x3 = (3 : Int32) → mm_R X (d + 1) 142 11 [some ((.ref a0)), some (.int i1), some (.int i2), some (.int (i3 + (1 : Int32)))] [] hp2 Q) ∧ (x3 = (3 : Int32) → mw_rc (.ref a0) 145 hp2 ∧ mm_R X d 145 0 (mm_L0 145 [(.ref a0), .int i3]) [] hp2 (mw_ri (fun x6 hp5 => (((3 : Int32) ≤ x6 → Q (some (.int (0 : Int32))) hp5) ∧ (¬ (3 : Int32) ≤ x6 → mw_rc (.ref a0) 146 hp5 ∧ mm_R X d 146 0 (mm_L0 146 [(.ref a0), .int i3, .int i2]) [] hp5 (mw_ri (fun x9 hp8 => ((x9 ≤ (8 : Int32) → mm_R X (d + 1) 142 11 [some ((.ref a0)), some (.int i1), some (.int i2), some (.int (i3 + (1 : Int32)))] [] hp8 Q) ∧ (¬ x9 ≤ (8 : Int32) → Q (some (.int (0 : Int32))) hp8))))))))))))))) : mm_R X (d + 1) 142 11 [some ((.ref a0)), some (.int i1), some (.int i2), some (.int i3)] [] hp Q := by
  refine mm_R.br (L' := [some ((.ref a0)), some (.int i1), some (.int i2), some (.int i3)]) (st' := []) (t := 53) (u := 16) (b := mm_cc .ge i3 i2) 3 rfl (fun c => ?_) (fun c => ?_)
  · replace H := H.1 (of_decide_eq_true c)
    exact mm_R.rt (pc' := 54) (L' := [some ((.ref a0)), some (.int i1), some (.int i2), some (.int i3)]) (st1 := [.int (1 : Int32)]) 1 rfl rfl rfl rfl rfl rfl H
  · replace H := H.2 (of_decide_eq_false c)
    obtain ⟨hc1, H⟩ := H
    refine mm_R.cV (pc' := 18) (L' := [some ((.ref a0)), some (.int i1), some (.int i2), some (.int i3)]) (st1 := [.int i3, (.ref a0)]) (as := [.int i3]) (rest := []) 2 rfl rfl (mw_sp rfl rfl (Nat.le_of_ble_eq_true rfl) (mw_ac rfl (mw_ac rfl mw_an)) mw_an) rfl rfl hc1 (H.mono (fun o hp2 H => ?_))
    obtain ⟨x3, rfl, H⟩ := H
    refine mm_R.br (L' := [some ((.ref a0)), some (.int i1), some (.int i2), some (.int i3)]) (st' := []) (t := 47) (u := 25) (b := mm_cc .ne x3 (3 : Int32)) 2 rfl (fun c => ?_) (fun c => ?_)
    · replace H := H.1 (of_decide_eq_true c)
      exact mm_R.pn (pc' := 11) (L' := [some ((.ref a0)), some (.int i1), some (.int i2), some (.int (i3 + (1 : Int32)))]) (st' := []) 2 rfl H
    · replace H := H.2 (Decidable.of_not_not (of_decide_eq_false c))
      obtain ⟨hc4, H⟩ := H
      refine mm_R.cV (pc' := 27) (L' := [some ((.ref a0)), some (.int i1), some (.int i2), some (.int i3)]) (st1 := [.int i3, (.ref a0)]) (as := [.int i3]) (rest := []) 2 rfl rfl (mw_sp rfl rfl (Nat.le_of_ble_eq_true rfl) (mw_ac rfl (mw_ac rfl mw_an)) mw_an) rfl rfl hc4 (H.mono (fun o hp5 H => ?_))
      obtain ⟨x6, rfl, H⟩ := H
      refine mm_R.br (L' := [some ((.ref a0)), some (.int i1), some (.int i2), some (.int i3)]) (st' := []) (t := 45) (u := 34) (b := mm_cc .ge x6 (3 : Int32)) 2 rfl (fun c => ?_) (fun c => ?_)
      · replace H := H.1 (of_decide_eq_true c)
        exact mm_R.rt (pc' := 46) (L' := [some ((.ref a0)), some (.int i1), some (.int i2), some (.int i3)]) (st1 := [.int (0 : Int32)]) 1 rfl rfl rfl rfl rfl rfl H
      · replace H := H.2 (of_decide_eq_false c)
        obtain ⟨hc7, H⟩ := H
        refine mm_R.cV (pc' := 37) (L' := [some ((.ref a0)), some (.int i1), some (.int i2), some (.int i3)]) (st1 := [.int i2, .int i3, (.ref a0)]) (as := [.int i3, .int i2]) (rest := []) 3 rfl rfl (mw_sp rfl rfl (Nat.le_of_ble_eq_true rfl) (mw_ac rfl (mw_ac rfl (mw_ac rfl mw_an))) mw_an) rfl rfl hc7 (H.mono (fun o hp8 H => ?_))
        obtain ⟨x9, rfl, H⟩ := H
        refine mm_R.br (L' := [some ((.ref a0)), some (.int i1), some (.int i2), some (.int i3)]) (st' := []) (t := 47) (u := 45) (b := mm_cc .le x9 (8 : Int32)) 2 rfl (fun c => ?_) (fun c => ?_)
        · replace H := H.1 (of_decide_eq_true c)
          exact mm_R.pn (pc' := 11) (L' := [some ((.ref a0)), some (.int i1), some (.int i2), some (.int (i3 + (1 : Int32)))]) (st' := []) 2 rfl H
        · replace H := H.2 (of_decide_eq_false c)
          exact mm_R.rt (pc' := 46) (L' := [some ((.ref a0)), some (.int i1), some (.int i2), some (.int i3)]) (st1 := [.int (0 : Int32)]) 1 rfl rfl rfl rfl rfl rfl H
-- StepRunnerModel.endOf, from 0
set_option maxRecDepth 10000 in
theorem w143_0 {X : List Int32} {d : Nat} {a0 : Nat} {i1 : Int32} {hp : mm_H} {Q : Option Value → mm_H → Prop} (H : mm_R X d 123 0 (mm_L0 123 [.int i1]) [] hp (mw_ri (fun x2 hp1 => mw_gv 10 5 (.ref a0) hp1 (fun v3 => mw_ai 1000 v3 i1 hp1 (fun x4 => Q (some (.int (x2 + x4))) hp1))))) : mm_R X (d + 1) 143 0 (mm_L0 143 [(.ref a0), .int i1]) [] hp Q := by
  show mm_R X (d + 1) 143 0 [some ((.ref a0)), some (.int i1)] [] hp Q
  refine mm_R.cS (pc' := 1) (L' := [some ((.ref a0)), some (.int i1)]) (st1 := [.int i1]) (as := [.int i1]) (rest := []) 1 rfl rfl (mw_sp rfl rfl (Nat.le_of_ble_eq_true rfl) (mw_ac rfl mw_an) mw_an) rfl rfl (H.mono (fun o hp1 H => ?_))
  obtain ⟨x2, rfl, H⟩ := H
  refine mm_R.wgv (pc' := 5) (L' := [some ((.ref a0)), some (.int i1)]) (r := [.int x2]) 1 rfl rfl (H.mono (fun v3 H => ?_))
  refine mm_R.wai (pc' := 9) (L' := [some ((.ref a0)), some (.int i1)]) (r := [.int x2]) (t := 1000) 1 rfl rfl rfl rfl (H.mono (fun x4 H => ?_))
  exact mm_R.rt (pc' := 11) (L' := [some ((.ref a0)), some (.int i1)]) (st1 := [.int (x2 + x4)]) 1 rfl rfl rfl rfl rfl rfl H
-- StepRunnerModel.kind, from 0
set_option maxRecDepth 10000 in
theorem w144_0 {X : List Int32} {d : Nat} {a0 : Nat} {i1 : Int32} {hp : mm_H} {Q : Option Value → mm_H → Prop} (H : mw_gv 10 4 (.ref a0) hp (fun v1 => mw_al 1004 v1 i1 hp (fun x2 => Q (some (.int (Int64.toInt32 (x2 &&& (3 : Int64))))) hp))) : mm_R X (d + 1) 144 0 (mm_L0 144 [(.ref a0), .int i1]) [] hp Q := by
  show mm_R X (d + 1) 144 0 [some ((.ref a0)), some (.int i1)] [] hp Q
  refine mm_R.wgv (pc' := 1) (L' := [some ((.ref a0)), some (.int i1)]) (r := []) 1 rfl rfl (H.mono (fun v1 H => ?_))
  refine mm_R.wal (pc' := 5) (L' := [some ((.ref a0)), some (.int i1)]) (r := []) (t := 1004) 1 rfl rfl rfl rfl (H.mono (fun x2 H => ?_))
  exact mm_R.rt (pc' := 11) (L' := [some ((.ref a0)), some (.int i1)]) (st1 := [.int (Int64.toInt32 (x2 &&& (3 : Int64)))]) 3 rfl rfl rfl rfl rfl rfl H
