-- StepRunner.scatter, from 0
set_option maxRecDepth 10000 in
theorem w51_0 {X : List Int32} {d : Nat} {a0 : Nat} {i1 : Int32} {i2 : Int32} {i3 : Int32} {hp : mm_H} {Q : Option Value → mm_H → Prop} (H : mw_rc (.ref a0) 23 hp ∧ mm_R X d 23 0 (mm_L0 23 [(.ref a0), .int i1]) [] hp (mw_rv (fun v3 hp2 => mm_isr v3 = true ∧ ((i3 < (0 : Int32) → mm_R X (d + 1) 51 21 [some ((.ref a0)), some (.int i1), some (.int i2), some (.int i3), some (v3), none] [.int (0 : Int32)] hp2 Q) ∧ (¬ i3 < (0 : Int32) → (((2 : Int32) < i3 → mm_R X (d + 1) 51 21 [some ((.ref a0)), some (.int i1), some (.int i2), some (.int i3), some (v3), none] [.int (0 : Int32)] hp2 Q) ∧ (¬ (2 : Int32) < i3 → mm_R X (d + 1) 51 21 [some ((.ref a0)), some (.int i1), some (.int i2), some (.int i3), some (v3), none] [.int (1 : Int32)] hp2 Q))))))) : mm_R X (d + 1) 51 0 (mm_L0 51 [(.ref a0), .int i1, .int i2, .int i3]) [] hp Q := by
  show mm_R X (d + 1) 51 0 [some ((.ref a0)), some (.int i1), some (.int i2), some (.int i3), none, none] [] hp Q
  obtain ⟨hc1, H⟩ := H
  refine mm_R.cV (pc' := 2) (L' := [some ((.ref a0)), some (.int i1), some (.int i2), some (.int i3), none, none]) (st1 := [.int i1, (.ref a0)]) (as := [.int i1]) (rest := []) 2 rfl rfl (mw_sp rfl rfl (Nat.le_of_ble_eq_true rfl) (mw_ac rfl (mw_ac rfl mw_an)) mw_an) rfl rfl hc1 (H.mono (fun o hp2 H => ?_))
  obtain ⟨v3, rfl, H⟩ := H
  obtain ⟨hr4, H⟩ := H
  refine mm_R.as (pc' := 5) (L' := [some ((.ref a0)), some (.int i1), some (.int i2), some (.int i3), none, none]) (r := []) (v := v3) 0 rfl rfl rfl rfl hr4 ?_
  refine mm_R.br (L' := [some ((.ref a0)), some (.int i1), some (.int i2), some (.int i3), some (v3), none]) (st' := []) (t := 20) (u := 11) (b := mm_cc .lt i3 (0 : Int32)) 2 rfl (fun c => ?_) (fun c => ?_)
  · replace H := H.1 (of_decide_eq_true c)
    exact mm_R.pn (pc' := 21) (L' := [some ((.ref a0)), some (.int i1), some (.int i2), some (.int i3), some (v3), none]) (st' := [.int (0 : Int32)]) 1 rfl H
  · replace H := H.2 (of_decide_eq_false c)
    refine mm_R.br (L' := [some ((.ref a0)), some (.int i1), some (.int i2), some (.int i3), some (v3), none]) (st' := []) (t := 20) (u := 16) (b := mm_cc .gt i3 (2 : Int32)) 3 rfl (fun c => ?_) (fun c => ?_)
    · replace H := H.1 (of_decide_eq_true c)
      exact mm_R.pn (pc' := 21) (L' := [some ((.ref a0)), some (.int i1), some (.int i2), some (.int i3), some (v3), none]) (st' := [.int (0 : Int32)]) 1 rfl H
    · replace H := H.2 (of_decide_eq_false c)
      exact mm_R.pn (pc' := 21) (L' := [some ((.ref a0)), some (.int i1), some (.int i2), some (.int i3), some (v3), none]) (st' := [.int (1 : Int32)]) 2 rfl H
-- StepRunner.scatter, from 21
set_option maxRecDepth 10000 in
theorem w51_21 {X : List Int32} {d : Nat} {a0 : Nat} {i1 : Int32} {i2 : Int32} {i3 : Int32} {r4 : Value} {o5 : Option Value} {s0 : Int32} {hp : mm_H} {Q : Option Value → mm_H → Prop} (H : mm_isr r4 = true ∧ mw_nl r4 (Q (some (.int (0 : Int32))) hp) (((i2 < (0 : Int32) → Q (some (.int (0 : Int32))) hp) ∧ (¬ i2 < (0 : Int32) → (((15 : Int32) < i2 → Q (some (.int (0 : Int32))) hp) ∧ (¬ (15 : Int32) < i2 → ((¬ s0 = (0 : Int32) → mw_pt 7 8 r4 (.int i2) hp (fun hp2 => mw_pt 7 9 r4 (.int i3) hp2 (fun hp3 => Q (some (.int (1 : Int32))) hp3))) ∧ (s0 = (0 : Int32) → Q (some (.int (0 : Int32))) hp)))))))) : mm_R X (d + 1) 51 21 [some ((.ref a0)), some (.int i1), some (.int i2), some (.int i3), some (r4), o5] [.int s0] hp Q := by
  obtain ⟨hr1, H⟩ := H
  refine mm_R.al (pc' := 23) (L' := [some ((.ref a0)), some (.int i1), some (.int i2), some (.int i3), some (r4), some (.int s0)]) (r := []) (v := r4) 1 rfl rfl rfl rfl hr1 ?_
  refine mm_R.wnl (pc' := 25) (L' := [some ((.ref a0)), some (.int i1), some (.int i2), some (.int i3), some (r4), some (.int s0)]) (r := []) (v := r4) (t := 43) (u := 28) 0 rfl rfl rfl (H.mono (fun H => ?_) (fun H => ?_))
  · exact mm_R.rt (pc' := 44) (L' := [some ((.ref a0)), some (.int i1), some (.int i2), some (.int i3), some (r4), some (.int s0)]) (st1 := [.int (0 : Int32)]) 1 rfl rfl rfl rfl rfl rfl H
  · refine mm_R.br (L' := [some ((.ref a0)), some (.int i1), some (.int i2), some (.int i3), some (r4), some (.int s0)]) (st' := []) (t := 43) (u := 32) (b := mm_cc .lt i2 (0 : Int32)) 2 rfl (fun c => ?_) (fun c => ?_)
    · replace H := H.1 (of_decide_eq_true c)
      exact mm_R.rt (pc' := 44) (L' := [some ((.ref a0)), some (.int i1), some (.int i2), some (.int i3), some (r4), some (.int s0)]) (st1 := [.int (0 : Int32)]) 1 rfl rfl rfl rfl rfl rfl H
    · replace H := H.2 (of_decide_eq_false c)
      refine mm_R.br (L' := [some ((.ref a0)), some (.int i1), some (.int i2), some (.int i3), some (r4), some (.int s0)]) (st' := []) (t := 43) (u := 38) (b := mm_cc .gt i2 (15 : Int32)) 3 rfl (fun c => ?_) (fun c => ?_)
      · replace H := H.1 (of_decide_eq_true c)
        exact mm_R.rt (pc' := 44) (L' := [some ((.ref a0)), some (.int i1), some (.int i2), some (.int i3), some (r4), some (.int s0)]) (st1 := [.int (0 : Int32)]) 1 rfl rfl rfl rfl rfl rfl H
      · replace H := H.2 (of_decide_eq_false c)
        refine mm_R.br (L' := [some ((.ref a0)), some (.int i1), some (.int i2), some (.int i3), some (r4), some (.int s0)]) (st' := []) (t := 45) (u := 43) (b := mm_cc .ne s0 (0 : Int32)) 2 rfl (fun c => ?_) (fun c => ?_)
        · replace H := H.1 (of_decide_eq_true c)
          refine mm_R.al (pc' := 45) (L' := [some ((.ref a0)), some (.int i1), some (.int i2), some (.int i3), some (r4), some (.int s0)]) (r := []) (v := r4) 0 rfl rfl rfl rfl hr1 ?_
          refine mm_R.wpt (pc' := 48) (L' := [some ((.ref a0)), some (.int i1), some (.int i2), some (.int i3), some (r4), some (.int s0)]) (r := []) 1 rfl rfl (H.mono (fun hp2 H => ?_))
          refine mm_R.al (pc' := 51) (L' := [some ((.ref a0)), some (.int i1), some (.int i2), some (.int i3), some (r4), some (.int s0)]) (r := []) (v := r4) 0 rfl rfl rfl rfl hr1 ?_
          refine mm_R.wpt (pc' := 54) (L' := [some ((.ref a0)), some (.int i1), some (.int i2), some (.int i3), some (r4), some (.int s0)]) (r := []) 1 rfl rfl (H.mono (fun hp3 H => ?_))
          exact mm_R.rt (pc' := 58) (L' := [some ((.ref a0)), some (.int i1), some (.int i2), some (.int i3), some (r4), some (.int s0)]) (st1 := [.int (1 : Int32)]) 1 rfl rfl rfl rfl rfl rfl H
        · replace H := H.2 (Decidable.of_not_not (of_decide_eq_false c))
          exact mm_R.rt (pc' := 44) (L' := [some ((.ref a0)), some (.int i1), some (.int i2), some (.int i3), some (r4), some (.int s0)]) (st1 := [.int (0 : Int32)]) 1 rfl rfl rfl rfl rfl rfl H
-- StepRunner.input, from 0
set_option maxRecDepth 10000 in
theorem w52_0 {X : List Int32} {d : Nat} {a0 : Nat} {i1 : Int32} {hp : mm_H} {Q : Option Value → mm_H → Prop} (H : mw_gv 0 0 (.ref a0) hp (fun v1 => mw_rc v1 28 hp ∧ mm_R X d 28 0 (mm_L0 28 [v1]) [] hp (mw_rv (fun v4 hp3 => mm_isr v4 = true ∧ mw_nl v4 (Q (some (.int (0 : Int32))) hp3) (mw_gv 0 6 (.ref a0) hp3 (fun v6 => mw_rc v6 16 hp3 ∧ mm_R X d 16 0 (mm_L0 16 [v6]) [] hp3 (mw_ri (fun x9 hp8 => ((¬ x9 = (0 : Int32) → Q (some (.int (0 : Int32))) hp8) ∧ (x9 = (0 : Int32) → ((i1 < (0 : Int32) → Q (some (.int (0 : Int32))) hp8) ∧ (¬ i1 < (0 : Int32) → ((i1 < (3 : Int32) → mw_gv 0 1 (.ref a0) hp8 (fun v10 => mw_sv v10 i1 v4 hp8 (fun hp11 => Q (some (.int (1 : Int32))) hp11))) ∧ (¬ i1 < (3 : Int32) → Q (some (.int (0 : Int32))) hp8)))))))))))))) : mm_R X (d + 1) 52 0 (mm_L0 52 [(.ref a0), .int i1]) [] hp Q := by
  show mm_R X (d + 1) 52 0 [some ((.ref a0)), some (.int i1), none] [] hp Q
  refine mm_R.wgv (pc' := 1) (L' := [some ((.ref a0)), some (.int i1), none]) (r := []) 1 rfl rfl (H.mono (fun v1 H => ?_))
  obtain ⟨hc2, H⟩ := H
  refine mm_R.cV (pc' := 4) (L' := [some ((.ref a0)), some (.int i1), none]) (st1 := [v1]) (as := []) (rest := []) 0 rfl rfl (mw_sp rfl rfl (Nat.le_of_ble_eq_true rfl) (mw_ac (mw_c1 hc2.isr) mw_an) mw_an) rfl rfl hc2 (H.mono (fun o hp3 H => ?_))
  obtain ⟨v4, rfl, H⟩ := H
  obtain ⟨hr5, H⟩ := H
  refine mm_R.as (pc' := 7) (L' := [some ((.ref a0)), some (.int i1), none]) (r := []) (v := v4) 0 rfl rfl rfl rfl hr5 ?_
  refine mm_R.al (pc' := 8) (L' := [some ((.ref a0)), some (.int i1), some (v4)]) (r := []) (v := v4) 0 rfl rfl rfl rfl hr5 ?_
  refine mm_R.wnl (pc' := 9) (L' := [some ((.ref a0)), some (.int i1), some (v4)]) (r := []) (v := v4) (t := 31) (u := 12) 0 rfl rfl rfl (H.mono (fun H => ?_) (fun H => ?_))
  · exact mm_R.rt (pc' := 32) (L' := [some ((.ref a0)), some (.int i1), some (v4)]) (st1 := [.int (0 : Int32)]) 1 rfl rfl rfl rfl rfl rfl H
  · refine mm_R.wgv (pc' := 13) (L' := [some ((.ref a0)), some (.int i1), some (v4)]) (r := []) 1 rfl rfl (H.mono (fun v6 H => ?_))
    obtain ⟨hc7, H⟩ := H
    refine mm_R.cV (pc' := 16) (L' := [some ((.ref a0)), some (.int i1), some (v4)]) (st1 := [v6]) (as := []) (rest := []) 0 rfl rfl (mw_sp rfl rfl (Nat.le_of_ble_eq_true rfl) (mw_ac (mw_c1 hc7.isr) mw_an) mw_an) rfl rfl hc7 (H.mono (fun o hp8 H => ?_))
    obtain ⟨x9, rfl, H⟩ := H
    refine mm_R.br (L' := [some ((.ref a0)), some (.int i1), some (v4)]) (st' := []) (t := 31) (u := 22) (b := mm_cc .ne x9 (0 : Int32)) 1 rfl (fun c => ?_) (fun c => ?_)
    · replace H := H.1 (of_decide_eq_true c)
      exact mm_R.rt (pc' := 32) (L' := [some ((.ref a0)), some (.int i1), some (v4)]) (st1 := [.int (0 : Int32)]) 1 rfl rfl rfl rfl rfl rfl H
    · replace H := H.2 (Decidable.of_not_not (of_decide_eq_false c))
      refine mm_R.br (L' := [some ((.ref a0)), some (.int i1), some (v4)]) (st' := []) (t := 31) (u := 26) (b := mm_cc .lt i1 (0 : Int32)) 2 rfl (fun c => ?_) (fun c => ?_)
      · replace H := H.1 (of_decide_eq_true c)
        exact mm_R.rt (pc' := 32) (L' := [some ((.ref a0)), some (.int i1), some (v4)]) (st1 := [.int (0 : Int32)]) 1 rfl rfl rfl rfl rfl rfl H
      · replace H := H.2 (of_decide_eq_false c)
        refine mm_R.br (L' := [some ((.ref a0)), some (.int i1), some (v4)]) (st' := []) (t := 33) (u := 31) (b := mm_cc .lt i1 (3 : Int32)) 3 rfl (fun c => ?_) (fun c => ?_)
        · replace H := H.1 (of_decide_eq_true c)
          refine mm_R.wgv (pc' := 34) (L' := [some ((.ref a0)), some (.int i1), some (v4)]) (r := []) 1 rfl rfl (H.mono (fun v10 H => ?_))
          refine mm_R.al (pc' := 38) (L' := [some ((.ref a0)), some (.int i1), some (v4)]) (r := [.int i1, v10]) (v := v4) 1 rfl rfl rfl rfl hr5 ?_
          refine mm_R.wsv (pc' := 39) (L' := [some ((.ref a0)), some (.int i1), some (v4)]) (r := []) 0 rfl rfl (H.mono (fun hp11 H => ?_))
          exact mm_R.rt (pc' := 41) (L' := [some ((.ref a0)), some (.int i1), some (v4)]) (st1 := [.int (1 : Int32)]) 1 rfl rfl rfl rfl rfl rfl H
        · replace H := H.2 (of_decide_eq_false c)
          exact mm_R.rt (pc' := 32) (L' := [some ((.ref a0)), some (.int i1), some (v4)]) (st1 := [.int (0 : Int32)]) 1 rfl rfl rfl rfl rfl rfl H
-- StepRunner.start, from 0
set_option maxRecDepth 10000 in
theorem w53_0 {X : List Int32} {d : Nat} {a0 : Nat} {i1 : Int32} {hp : mm_H} {Q : Option Value → mm_H → Prop} (H : mw_gv 0 6 (.ref a0) hp (fun v1 => mw_rc v1 16 hp ∧ mm_R X d 16 0 (mm_L0 16 [v1]) [] hp (mw_ri (fun x4 hp3 => ((¬ x4 = (0 : Int32) → Q (some (.int (-1 : Int32))) hp3) ∧ (x4 = (0 : Int32) → ((i1 < (1 : Int32) → Q (some (.int (-1 : Int32))) hp3) ∧ (¬ i1 < (1 : Int32) → ((i1 ≤ (3 : Int32) → mw_rc (.ref a0) 54 hp3 ∧ mm_R X d 54 0 (mm_L0 54 [(.ref a0)]) [] hp3 (mw_ri (fun x7 hp6 => ((x7 = (0 : Int32) → mw_rc (.ref a0) 56 hp6 ∧ mm_R X d 56 0 (mm_L0 56 [(.ref a0)]) [] hp6 (mw_ri (fun x10 hp9 => ((x10 = (0 : Int32) → mw_gv 0 6 (.ref a0) hp9 (fun v11 => mw_gv 0 4 (.ref a0) hp9 (fun v12 => mw_gi 0 5 (.ref a0) hp9 (fun x13 => mw_gv 0 1 (.ref a0) hp9 (fun v14 => mw_rc v11 57 hp9 ∧ mm_isr v12 = true ∧ mm_isr v14 = true ∧ mm_R X d 57 0 (mm_L0 57 [v11, v12, .int x13, v14, .int i1]) [] hp9 (mw_r0 (fun hp18 => mw_gv 0 6 (.ref a0) hp18 (fun v19 => mw_rc v19 59 hp18 ∧ mm_R X d 59 0 (mm_L0 59 [v19]) [] hp18 (mw_r0 (fun hp21 => Q (some (.int (0 : Int32))) hp21)))))))))) ∧ (¬ x10 = (0 : Int32) → Q (some (.int (2 : Int32))) hp9))))) ∧ (¬ x7 = (0 : Int32) → Q (some (.int (1 : Int32))) hp6))))) ∧ (¬ i1 ≤ (3 : Int32) → Q (some (.int (-1 : Int32))) hp3)))))))))) : mm_R X (d + 1) 53 0 (mm_L0 53 [(.ref a0), .int i1]) [] hp Q := by
  show mm_R X (d + 1) 53 0 [some ((.ref a0)), some (.int i1)] [] hp Q
  refine mm_R.wgv (pc' := 1) (L' := [some ((.ref a0)), some (.int i1)]) (r := []) 1 rfl rfl (H.mono (fun v1 H => ?_))
  obtain ⟨hc2, H⟩ := H
  refine mm_R.cV (pc' := 4) (L' := [some ((.ref a0)), some (.int i1)]) (st1 := [v1]) (as := []) (rest := []) 0 rfl rfl (mw_sp rfl rfl (Nat.le_of_ble_eq_true rfl) (mw_ac (mw_c1 hc2.isr) mw_an) mw_an) rfl rfl hc2 (H.mono (fun o hp3 H => ?_))
  obtain ⟨x4, rfl, H⟩ := H
  refine mm_R.br (L' := [some ((.ref a0)), some (.int i1)]) (st' := []) (t := 20) (u := 10) (b := mm_cc .ne x4 (0 : Int32)) 1 rfl (fun c => ?_) (fun c => ?_)
  · replace H := H.1 (of_decide_eq_true c)
    exact mm_R.rt (pc' := 21) (L' := [some ((.ref a0)), some (.int i1)]) (st1 := [.int (-1 : Int32)]) 1 rfl rfl rfl rfl rfl rfl H
  · replace H := H.2 (Decidable.of_not_not (of_decide_eq_false c))
    refine mm_R.br (L' := [some ((.ref a0)), some (.int i1)]) (st' := []) (t := 20) (u := 15) (b := mm_cc .lt i1 (1 : Int32)) 3 rfl (fun c => ?_) (fun c => ?_)
    · replace H := H.1 (of_decide_eq_true c)
      exact mm_R.rt (pc' := 21) (L' := [some ((.ref a0)), some (.int i1)]) (st1 := [.int (-1 : Int32)]) 1 rfl rfl rfl rfl rfl rfl H
    · replace H := H.2 (of_decide_eq_false c)
      refine mm_R.br (L' := [some ((.ref a0)), some (.int i1)]) (st' := []) (t := 22) (u := 20) (b := mm_cc .le i1 (3 : Int32)) 3 rfl (fun c => ?_) (fun c => ?_)
      · replace H := H.1 (of_decide_eq_true c)
        obtain ⟨hc5, H⟩ := H
        refine mm_R.cV (pc' := 23) (L' := [some ((.ref a0)), some (.int i1)]) (st1 := [(.ref a0)]) (as := []) (rest := []) 1 rfl rfl (mw_sp rfl rfl (Nat.le_of_ble_eq_true rfl) (mw_ac rfl mw_an) mw_an) rfl rfl hc5 (H.mono (fun o hp6 H => ?_))
        obtain ⟨x7, rfl, H⟩ := H
        refine mm_R.br (L' := [some ((.ref a0)), some (.int i1)]) (st' := []) (t := 31) (u := 29) (b := mm_cc .eq x7 (0 : Int32)) 1 rfl (fun c => ?_) (fun c => ?_)
        · replace H := H.1 (of_decide_eq_true c)
          obtain ⟨hc8, H⟩ := H
          refine mm_R.cV (pc' := 32) (L' := [some ((.ref a0)), some (.int i1)]) (st1 := [(.ref a0)]) (as := []) (rest := []) 1 rfl rfl (mw_sp rfl rfl (Nat.le_of_ble_eq_true rfl) (mw_ac rfl mw_an) mw_an) rfl rfl hc8 (H.mono (fun o hp9 H => ?_))
          obtain ⟨x10, rfl, H⟩ := H
          refine mm_R.br (L' := [some ((.ref a0)), some (.int i1)]) (st' := []) (t := 40) (u := 38) (b := mm_cc .eq x10 (0 : Int32)) 1 rfl (fun c => ?_) (fun c => ?_)
          · replace H := H.1 (of_decide_eq_true c)
            refine mm_R.wgv (pc' := 41) (L' := [some ((.ref a0)), some (.int i1)]) (r := []) 1 rfl rfl (H.mono (fun v11 H => ?_))
            refine mm_R.wgv (pc' := 45) (L' := [some ((.ref a0)), some (.int i1)]) (r := [v11]) 1 rfl rfl (H.mono (fun v12 H => ?_))
            refine mm_R.wgi (pc' := 49) (L' := [some ((.ref a0)), some (.int i1)]) (r := [v12, v11]) 1 rfl rfl (H.mono (fun x13 H => ?_))
            refine mm_R.wgv (pc' := 53) (L' := [some ((.ref a0)), some (.int i1)]) (r := [.int x13, v12, v11]) 1 rfl rfl (H.mono (fun v14 H => ?_))
            obtain ⟨hc15, H⟩ := H
            obtain ⟨hr16, H⟩ := H
            obtain ⟨hr17, H⟩ := H
            refine mm_R.cV (pc' := 57) (L' := [some ((.ref a0)), some (.int i1)]) (st1 := [.int i1, v14, .int x13, v12, v11]) (as := [v12, .int x13, v14, .int i1]) (rest := []) 1 rfl rfl (mw_sp rfl rfl (Nat.le_of_ble_eq_true rfl) (mw_ac (mw_c1 hc15.isr) (mw_ac (mw_c1 hr16) (mw_ac rfl (mw_ac (mw_c1 hr17) (mw_ac rfl mw_an))))) mw_an) rfl rfl hc15 (H.mono (fun o hp18 H => ?_))
            obtain ⟨rfl, H⟩ := H
            refine mm_R.wgv (pc' := 61) (L' := [some ((.ref a0)), some (.int i1)]) (r := []) 1 rfl rfl (H.mono (fun v19 H => ?_))
            obtain ⟨hc20, H⟩ := H
            refine mm_R.cV (pc' := 64) (L' := [some ((.ref a0)), some (.int i1)]) (st1 := [v19]) (as := []) (rest := []) 0 rfl rfl (mw_sp rfl rfl (Nat.le_of_ble_eq_true rfl) (mw_ac (mw_c1 hc20.isr) mw_an) mw_an) rfl rfl hc20 (H.mono (fun o hp21 H => ?_))
            obtain ⟨rfl, H⟩ := H
            exact mm_R.rt (pc' := 68) (L' := [some ((.ref a0)), some (.int i1)]) (st1 := [.int (0 : Int32)]) 1 rfl rfl rfl rfl rfl rfl H
          · replace H := H.2 (of_decide_eq_false c)
            exact mm_R.rt (pc' := 39) (L' := [some ((.ref a0)), some (.int i1)]) (st1 := [.int (2 : Int32)]) 1 rfl rfl rfl rfl rfl rfl H
        · replace H := H.2 (of_decide_eq_false c)
          exact mm_R.rt (pc' := 30) (L' := [some ((.ref a0)), some (.int i1)]) (st1 := [.int (1 : Int32)]) 1 rfl rfl rfl rfl rfl rfl H
      · replace H := H.2 (of_decide_eq_false c)
        exact mm_R.rt (pc' := 21) (L' := [some ((.ref a0)), some (.int i1)]) (st1 := [.int (-1 : Int32)]) 1 rfl rfl rfl rfl rfl rfl H
-- StepRunner.missesSteps, from 0
set_option maxRecDepth 10000 in
theorem w54_0 {X : List Int32} {d : Nat} {a0 : Nat} {hp : mm_H} {Q : Option Value → mm_H → Prop} (H : mw_gi 0 5 (.ref a0) hp (fun x1 => mm_R X (d + 1) 54 11 [some ((.ref a0)), some (.int (((1 : Int32) <<< (x1 &&& 31)) - (1 : Int32))), some (.int (0 : Int32)), none] [] hp Q)) : mm_R X (d + 1) 54 0 (mm_L0 54 [(.ref a0)]) [] hp Q := by
  show mm_R X (d + 1) 54 0 [some ((.ref a0)), none, none, none] [] hp Q
  refine mm_R.wgi (pc' := 2) (L' := [some ((.ref a0)), none, none, none]) (r := [.int (1 : Int32)]) 2 rfl rfl (H.mono (fun x1 H => ?_))
  exact mm_R.pn (pc' := 11) (L' := [some ((.ref a0)), some (.int (((1 : Int32) <<< (x1 &&& 31)) - (1 : Int32))), some (.int (0 : Int32)), none]) (st' := []) 6 rfl H
-- StepRunner.missesSteps, from 11
set_option maxRecDepth 10000 in
theorem w54_11 {X : List Int32} {d : Nat} {a0 : Nat} {i1 : Int32} {i2 : Int32} {o3 : Option Value} {hp : mm_H} {Q : Option Value → mm_H → Prop} (H : mw_gi 0 5 (.ref a0) hp (fun x1 => ((x1 ≤ i2 → Q (some (.int (0 : Int32))) hp) ∧ (¬ x1 ≤ i2 → mw_gv 0 4 (.ref a0) hp (fun v2 => mw_av v2 i2 hp (fun v3 => mm_isr v3 = true ∧ mw_nl v3 (mm_R X (d + 1) 54 11 [some ((.ref a0)), some (.int i1), some (.int (i2 + (1 : Int32))), some (v3)] [] hp Q) (mw_rc v3 55 hp ∧ mm_R X d 55 0 (mm_L0 55 [v3]) [] hp (mw_ri (fun x7 hp6 => (((x7 &&& (i1 ^^^ (-1 : Int32))) = (0 : Int32) → mm_R X (d + 1) 54 11 [some ((.ref a0)), some (.int i1), some (.int (i2 + (1 : Int32))), some (v3)] [] hp6 Q) ∧ (¬ (x7 &&& (i1 ^^^ (-1 : Int32))) = (0 : Int32) → Q (some (.int (1 : Int32))) hp6))))))))))) : mm_R X (d + 1) 54 11 [some ((.ref a0)), some (.int i1), some (.int i2), o3] [] hp Q := by
  refine mm_R.wgi (pc' := 13) (L' := [some ((.ref a0)), some (.int i1), some (.int i2), o3]) (r := [.int i2]) 2 rfl rfl (H.mono (fun x1 H => ?_))
  refine mm_R.br (L' := [some ((.ref a0)), some (.int i1), some (.int i2), o3]) (st' := []) (t := 49) (u := 19) (b := mm_cc .ge i2 x1) 1 rfl (fun c => ?_) (fun c => ?_)
  · replace H := H.1 (of_decide_eq_true c)
    exact mm_R.rt (pc' := 50) (L' := [some ((.ref a0)), some (.int i1), some (.int i2), o3]) (st1 := [.int (0 : Int32)]) 1 rfl rfl rfl rfl rfl rfl H
  · replace H := H.2 (of_decide_eq_false c)
    refine mm_R.wgv (pc' := 20) (L' := [some ((.ref a0)), some (.int i1), some (.int i2), o3]) (r := []) 1 rfl rfl (H.mono (fun v2 H => ?_))
    refine mm_R.wav (pc' := 24) (L' := [some ((.ref a0)), some (.int i1), some (.int i2), o3]) (r := []) 1 rfl rfl (H.mono (fun v3 H => ?_))
    obtain ⟨hr4, H⟩ := H
    refine mm_R.as (pc' := 25) (L' := [some ((.ref a0)), some (.int i1), some (.int i2), o3]) (r := []) (v := v3) 0 rfl rfl rfl rfl hr4 ?_
    refine mm_R.al (pc' := 26) (L' := [some ((.ref a0)), some (.int i1), some (.int i2), some (v3)]) (r := []) (v := v3) 0 rfl rfl rfl rfl hr4 ?_
    refine mm_R.wnl (pc' := 27) (L' := [some ((.ref a0)), some (.int i1), some (.int i2), some (v3)]) (r := []) (v := v3) (t := 43) (u := 30) 0 rfl rfl rfl (H.mono (fun H => ?_) (fun H => ?_))
    · exact mm_R.pn (pc' := 11) (L' := [some ((.ref a0)), some (.int i1), some (.int (i2 + (1 : Int32))), some (v3)]) (st' := []) 2 rfl H
    · refine mm_R.al (pc' := 30) (L' := [some ((.ref a0)), some (.int i1), some (.int i2), some (v3)]) (r := []) (v := v3) 0 rfl rfl rfl rfl hr4 ?_
      obtain ⟨hc5, H⟩ := H
      refine mm_R.cV (pc' := 31) (L' := [some ((.ref a0)), some (.int i1), some (.int i2), some (v3)]) (st1 := [v3]) (as := []) (rest := []) 0 rfl rfl (mw_sp rfl rfl (Nat.le_of_ble_eq_true rfl) (mw_ac (mw_c1 hc5.isr) mw_an) mw_an) rfl rfl hc5 (H.mono (fun o hp6 H => ?_))
      obtain ⟨x7, rfl, H⟩ := H
      refine mm_R.br (L' := [some ((.ref a0)), some (.int i1), some (.int i2), some (v3)]) (st' := []) (t := 43) (u := 41) (b := mm_cc .eq (x7 &&& (i1 ^^^ (-1 : Int32))) (0 : Int32)) 5 rfl (fun c => ?_) (fun c => ?_)
      · replace H := H.1 (of_decide_eq_true c)
        exact mm_R.pn (pc' := 11) (L' := [some ((.ref a0)), some (.int i1), some (.int (i2 + (1 : Int32))), some (v3)]) (st' := []) 2 rfl H
      · replace H := H.2 (of_decide_eq_false c)
        exact mm_R.rt (pc' := 42) (L' := [some ((.ref a0)), some (.int i1), some (.int i2), some (v3)]) (st1 := [.int (1 : Int32)]) 1 rfl rfl rfl rfl rfl rfl H
-- StepRunner$Step.neededSteps, from 0
set_option maxRecDepth 10000 in
theorem w55_0 {X : List Int32} {d : Nat} {a0 : Nat} {hp : mm_H} {Q : Option Value → mm_H → Prop} (H : mm_R X (d + 1) 55 4 [some ((.ref a0)), some (.int (0 : Int32)), some (.int (0 : Int32)), none, none] [] hp Q) : mm_R X (d + 1) 55 0 (mm_L0 55 [(.ref a0)]) [] hp Q := by
  show mm_R X (d + 1) 55 0 [some ((.ref a0)), none, none, none, none] [] hp Q
  exact mm_R.pn (pc' := 4) (L' := [some ((.ref a0)), some (.int (0 : Int32)), some (.int (0 : Int32)), none, none]) (st' := []) 4 rfl H
-- StepRunner$Step.neededSteps, from 4
set_option maxRecDepth 10000 in
theorem w55_4 {X : List Int32} {d : Nat} {a0 : Nat} {i1 : Int32} {i2 : Int32} {o3 : Option Value} {o4 : Option Value} {hp : mm_H} {Q : Option Value → mm_H → Prop} (H : mw_gv 7 0 (.ref a0) hp (fun v1 => mw_gi 6 5 v1 hp (fun x2 => ((x2 ≤ i2 → Q (some (.int i1)) hp) ∧ (¬ x2 ≤ i2 → (((4 : Int32) ≤ i2 → Q (some (.int i1)) hp) ∧ (¬ (4 : Int32) ≤ i2 → mm_R X (d + 1) 55 22 [some ((.ref a0)), some (.int i1), some (.int i2), some (.int (0 : Int32)), o4] [] hp Q))))))) : mm_R X (d + 1) 55 4 [some ((.ref a0)), some (.int i1), some (.int i2), o3, o4] [] hp Q := by
  refine mm_R.wgv (pc' := 6) (L' := [some ((.ref a0)), some (.int i1), some (.int i2), o3, o4]) (r := [.int i2]) 2 rfl rfl (H.mono (fun v1 H => ?_))
  refine mm_R.wgi (pc' := 9) (L' := [some ((.ref a0)), some (.int i1), some (.int i2), o3, o4]) (r := [.int i2]) 0 rfl rfl (H.mono (fun x2 H => ?_))
  refine mm_R.br (L' := [some ((.ref a0)), some (.int i1), some (.int i2), o3, o4]) (st' := []) (t := 78) (u := 15) (b := mm_cc .ge i2 x2) 1 rfl (fun c => ?_) (fun c => ?_)
  · replace H := H.1 (of_decide_eq_true c)
    exact mm_R.rt (pc' := 79) (L' := [some ((.ref a0)), some (.int i1), some (.int i2), o3, o4]) (st1 := [.int i1]) 1 rfl rfl rfl rfl rfl rfl H
  · replace H := H.2 (of_decide_eq_false c)
    refine mm_R.br (L' := [some ((.ref a0)), some (.int i1), some (.int i2), o3, o4]) (st' := []) (t := 78) (u := 20) (b := mm_cc .ge i2 (4 : Int32)) 3 rfl (fun c => ?_) (fun c => ?_)
    · replace H := H.1 (of_decide_eq_true c)
      exact mm_R.rt (pc' := 79) (L' := [some ((.ref a0)), some (.int i1), some (.int i2), o3, o4]) (st1 := [.int i1]) 1 rfl rfl rfl rfl rfl rfl H
    · replace H := H.2 (of_decide_eq_false c)
      exact mm_R.pn (pc' := 22) (L' := [some ((.ref a0)), some (.int i1), some (.int i2), some (.int (0 : Int32)), o4]) (st' := []) 2 rfl H
-- StepRunner$Step.neededSteps, from 22
set_option maxRecDepth 10000 in
theorem w55_22 {X : List Int32} {d : Nat} {a0 : Nat} {i1 : Int32} {i2 : Int32} {i3 : Int32} {o4 : Option Value} {hp : mm_H} {Q : Option Value → mm_H → Prop} (H : mw_gv 7 2 (.ref a0) hp (fun v1 => mw_ai 1000 v1 i2 hp (fun x2 => ((x2 ≤ i3 → mm_R X (d + 1) 55 4 [some ((.ref a0)), some (.int i1), some (.int (i2 + (1 : Int32))), some (.int i3), o4] [] hp Q) ∧ (¬ x2 ≤ i3 → (((3 : Int32) ≤ i3 → mm_R X (d + 1) 55 4 [some ((.ref a0)), some (.int i1), some (.int (i2 + (1 : Int32))), some (.int i3), o4] [] hp Q) ∧ (¬ (3 : Int32) ≤ i3 → mw_gv 7 1 (.ref a0) hp (fun v3 => mw_ai 1000 v3 ((i2 * (3 : Int32)) + i3) hp (fun x4 => ((x4 < (10 : Int32) → mm_R X (d + 1) 55 22 [some ((.ref a0)), some (.int i1), some (.int i2), some (.int (i3 + (1 : Int32))), some (.int x4)] [] hp Q) ∧ (¬ x4 < (10 : Int32) → mm_R X (d + 1) 55 22 [some ((.ref a0)), some (.int (i1 ||| ((1 : Int32) <<< ((x4 - (10 : Int32)) &&& 31)))), some (.int i2), some (.int (i3 + (1 : Int32))), some (.int x4)] [] hp Q))))))))))) : mm_R X (d + 1) 55 22 [some ((.ref a0)), some (.int i1), some (.int i2), some (.int i3), o4] [] hp Q := by
  refine mm_R.wgv (pc' := 24) (L' := [some ((.ref a0)), some (.int i1), some (.int i2), some (.int i3), o4]) (r := [.int i3]) 2 rfl rfl (H.mono (fun v1 H => ?_))
  refine mm_R.wai (pc' := 28) (L' := [some ((.ref a0)), some (.int i1), some (.int i2), some (.int i3), o4]) (r := [.int i3]) (t := 1000) 1 rfl rfl rfl rfl (H.mono (fun x2 H => ?_))
  refine mm_R.br (L' := [some ((.ref a0)), some (.int i1), some (.int i2), some (.int i3), o4]) (st' := []) (t := 72) (u := 32) (b := mm_cc .ge i3 x2) 1 rfl (fun c => ?_) (fun c => ?_)
  · replace H := H.1 (of_decide_eq_true c)
    exact mm_R.pn (pc' := 4) (L' := [some ((.ref a0)), some (.int i1), some (.int (i2 + (1 : Int32))), some (.int i3), o4]) (st' := []) 2 rfl H
  · replace H := H.2 (of_decide_eq_false c)
    refine mm_R.br (L' := [some ((.ref a0)), some (.int i1), some (.int i2), some (.int i3), o4]) (st' := []) (t := 72) (u := 37) (b := mm_cc .ge i3 (3 : Int32)) 3 rfl (fun c => ?_) (fun c => ?_)
    · replace H := H.1 (of_decide_eq_true c)
      exact mm_R.pn (pc' := 4) (L' := [some ((.ref a0)), some (.int i1), some (.int (i2 + (1 : Int32))), some (.int i3), o4]) (st' := []) 2 rfl H
    · replace H := H.2 (of_decide_eq_false c)
      refine mm_R.wgv (pc' := 38) (L' := [some ((.ref a0)), some (.int i1), some (.int i2), some (.int i3), o4]) (r := []) 1 rfl rfl (H.mono (fun v3 H => ?_))
      refine mm_R.wai (pc' := 46) (L' := [some ((.ref a0)), some (.int i1), some (.int i2), some (.int i3), o4]) (r := []) (t := 1000) 5 rfl rfl rfl rfl (H.mono (fun x4 H => ?_))
      refine mm_R.br (L' := [some ((.ref a0)), some (.int i1), some (.int i2), some (.int i3), some (.int x4)]) (st' := []) (t := 66) (u := 56) (b := mm_cc .lt x4 (10 : Int32)) 4 rfl (fun c => ?_) (fun c => ?_)
      · replace H := H.1 (of_decide_eq_true c)
        exact mm_R.pn (pc' := 22) (L' := [some ((.ref a0)), some (.int i1), some (.int i2), some (.int (i3 + (1 : Int32))), some (.int x4)]) (st' := []) 2 rfl H
      · replace H := H.2 (of_decide_eq_false c)
        exact mm_R.pn (pc' := 22) (L' := [some ((.ref a0)), some (.int (i1 ||| ((1 : Int32) <<< ((x4 - (10 : Int32)) &&& 31)))), some (.int i2), some (.int (i3 + (1 : Int32))), some (.int x4)]) (st' := []) 10 rfl H
-- StepRunner.goesRound, from 0
set_option maxRecDepth 10000 in
theorem w56_0 {X : List Int32} {d : Nat} {a0 : Nat} {hp : mm_H} {Q : Option Value → mm_H → Prop} (H : mm_R X (d + 1) 56 4 [some ((.ref a0)), some (.int (0 : Int32)), some (.int (0 : Int32)), none, none] [] hp Q) : mm_R X (d + 1) 56 0 (mm_L0 56 [(.ref a0)]) [] hp Q := by
  show mm_R X (d + 1) 56 0 [some ((.ref a0)), none, none, none, none] [] hp Q
  exact mm_R.pn (pc' := 4) (L' := [some ((.ref a0)), some (.int (0 : Int32)), some (.int (0 : Int32)), none, none]) (st' := []) 4 rfl H
-- StepRunner.goesRound, from 4
set_option maxRecDepth 10000 in
theorem w56_4 {X : List Int32} {d : Nat} {a0 : Nat} {i1 : Int32} {i2 : Int32} {o3 : Option Value} {o4 : Option Value} {hp : mm_H} {Q : Option Value → mm_H → Prop} (H : mw_gi 0 5 (.ref a0) hp (fun x1 => ((x1 ≤ i2 → mw_gi 0 5 (.ref a0) hp (fun x2 => ((i1 = (((1 : Int32) <<< (x2 &&& 31)) - (1 : Int32)) → Q (some (.int (0 : Int32))) hp) ∧ (¬ i1 = (((1 : Int32) <<< (x2 &&& 31)) - (1 : Int32)) → Q (some (.int (1 : Int32))) hp)))) ∧ (¬ x1 ≤ i2 → mm_R X (d + 1) 56 14 [some ((.ref a0)), some (.int i1), some (.int i2), some (.int (0 : Int32)), o4] [] hp Q)))) : mm_R X (d + 1) 56 4 [some ((.ref a0)), some (.int i1), some (.int i2), o3, o4] [] hp Q := by
  refine mm_R.wgi (pc' := 6) (L' := [some ((.ref a0)), some (.int i1), some (.int i2), o3, o4]) (r := [.int i2]) 2 rfl rfl (H.mono (fun x1 H => ?_))
  refine mm_R.br (L' := [some ((.ref a0)), some (.int i1), some (.int i2), o3, o4]) (st' := []) (t := 65) (u := 12) (b := mm_cc .ge i2 x1) 1 rfl (fun c => ?_) (fun c => ?_)
  · replace H := H.1 (of_decide_eq_true c)
    refine mm_R.wgi (pc' := 68) (L' := [some ((.ref a0)), some (.int i1), some (.int i2), o3, o4]) (r := [.int (1 : Int32), .int i1]) 3 rfl rfl (H.mono (fun x2 H => ?_))
    refine mm_R.br (L' := [some ((.ref a0)), some (.int i1), some (.int i2), o3, o4]) (st' := []) (t := 81) (u := 77) (b := mm_cc .eq i1 (((1 : Int32) <<< (x2 &&& 31)) - (1 : Int32))) 4 rfl (fun c => ?_) (fun c => ?_)
    · replace H := H.1 (of_decide_eq_true c)
      exact mm_R.rt (pc' := 82) (L' := [some ((.ref a0)), some (.int i1), some (.int i2), o3, o4]) (st1 := [.int (0 : Int32)]) 1 rfl rfl rfl rfl rfl rfl H
    · replace H := H.2 (of_decide_eq_false c)
      exact mm_R.rt (pc' := 82) (L' := [some ((.ref a0)), some (.int i1), some (.int i2), o3, o4]) (st1 := [.int (1 : Int32)]) 2 rfl rfl rfl rfl rfl rfl H
  · replace H := H.2 (of_decide_eq_false c)
    exact mm_R.pn (pc' := 14) (L' := [some ((.ref a0)), some (.int i1), some (.int i2), some (.int (0 : Int32)), o4]) (st' := []) 2 rfl H
-- StepRunner.goesRound, from 14
set_option maxRecDepth 10000 in
theorem w56_14 {X : List Int32} {d : Nat} {a0 : Nat} {i1 : Int32} {i2 : Int32} {i3 : Int32} {o4 : Option Value} {hp : mm_H} {Q : Option Value → mm_H → Prop} (H : mw_gi 0 5 (.ref a0) hp (fun x1 => ((x1 ≤ i3 → mm_R X (d + 1) 56 4 [some ((.ref a0)), some (.int i1), some (.int (i2 + (1 : Int32))), some (.int i3), o4] [] hp Q) ∧ (¬ x1 ≤ i3 → mw_gv 0 4 (.ref a0) hp (fun v2 => mw_av v2 i3 hp (fun v3 => mm_isr v3 = true ∧ mw_nl v3 (mm_R X (d + 1) 56 14 [some ((.ref a0)), some (.int i1), some (.int i2), some (.int (i3 + (1 : Int32))), some (v3)] [] hp Q) (mw_rc v3 55 hp ∧ mm_R X d 55 0 (mm_L0 55 [v3]) [] hp (mw_ri (fun x7 hp6 => ((¬ (x7 &&& (i1 ^^^ (-1 : Int32))) = (0 : Int32) → mm_R X (d + 1) 56 14 [some ((.ref a0)), some (.int i1), some (.int i2), some (.int (i3 + (1 : Int32))), some (v3)] [] hp6 Q) ∧ ((x7 &&& (i1 ^^^ (-1 : Int32))) = (0 : Int32) → mm_R X (d + 1) 56 14 [some ((.ref a0)), some (.int (i1 ||| ((1 : Int32) <<< (i3 &&& 31)))), some (.int i2), some (.int (i3 + (1 : Int32))), some (v3)] [] hp6 Q))))))))))) : mm_R X (d + 1) 56 14 [some ((.ref a0)), some (.int i1), some (.int i2), some (.int i3), o4] [] hp Q := by
  refine mm_R.wgi (pc' := 16) (L' := [some ((.ref a0)), some (.int i1), some (.int i2), some (.int i3), o4]) (r := [.int i3]) 2 rfl rfl (H.mono (fun x1 H => ?_))
  refine mm_R.br (L' := [some ((.ref a0)), some (.int i1), some (.int i2), some (.int i3), o4]) (st' := []) (t := 59) (u := 22) (b := mm_cc .ge i3 x1) 1 rfl (fun c => ?_) (fun c => ?_)
  · replace H := H.1 (of_decide_eq_true c)
    exact mm_R.pn (pc' := 4) (L' := [some ((.ref a0)), some (.int i1), some (.int (i2 + (1 : Int32))), some (.int i3), o4]) (st' := []) 2 rfl H
  · replace H := H.2 (of_decide_eq_false c)
    refine mm_R.wgv (pc' := 23) (L' := [some ((.ref a0)), some (.int i1), some (.int i2), some (.int i3), o4]) (r := []) 1 rfl rfl (H.mono (fun v2 H => ?_))
    refine mm_R.wav (pc' := 27) (L' := [some ((.ref a0)), some (.int i1), some (.int i2), some (.int i3), o4]) (r := []) 1 rfl rfl (H.mono (fun v3 H => ?_))
    obtain ⟨hr4, H⟩ := H
    refine mm_R.as (pc' := 28) (L' := [some ((.ref a0)), some (.int i1), some (.int i2), some (.int i3), o4]) (r := []) (v := v3) 0 rfl rfl rfl rfl hr4 ?_
    refine mm_R.al (pc' := 30) (L' := [some ((.ref a0)), some (.int i1), some (.int i2), some (.int i3), some (v3)]) (r := []) (v := v3) 0 rfl rfl rfl rfl hr4 ?_
    refine mm_R.wnl (pc' := 32) (L' := [some ((.ref a0)), some (.int i1), some (.int i2), some (.int i3), some (v3)]) (r := []) (v := v3) (t := 53) (u := 35) 0 rfl rfl rfl (H.mono (fun H => ?_) (fun H => ?_))
    · exact mm_R.pn (pc' := 14) (L' := [some ((.ref a0)), some (.int i1), some (.int i2), some (.int (i3 + (1 : Int32))), some (v3)]) (st' := []) 2 rfl H
    · refine mm_R.al (pc' := 35) (L' := [some ((.ref a0)), some (.int i1), some (.int i2), some (.int i3), some (v3)]) (r := []) (v := v3) 0 rfl rfl rfl rfl hr4 ?_
      obtain ⟨hc5, H⟩ := H
      refine mm_R.cV (pc' := 37) (L' := [some ((.ref a0)), some (.int i1), some (.int i2), some (.int i3), some (v3)]) (st1 := [v3]) (as := []) (rest := []) 0 rfl rfl (mw_sp rfl rfl (Nat.le_of_ble_eq_true rfl) (mw_ac (mw_c1 hc5.isr) mw_an) mw_an) rfl rfl hc5 (H.mono (fun o hp6 H => ?_))
      obtain ⟨x7, rfl, H⟩ := H
      refine mm_R.br (L' := [some ((.ref a0)), some (.int i1), some (.int i2), some (.int i3), some (v3)]) (st' := []) (t := 53) (u := 47) (b := mm_cc .ne (x7 &&& (i1 ^^^ (-1 : Int32))) (0 : Int32)) 5 rfl (fun c => ?_) (fun c => ?_)
      · replace H := H.1 (of_decide_eq_true c)
        exact mm_R.pn (pc' := 14) (L' := [some ((.ref a0)), some (.int i1), some (.int i2), some (.int (i3 + (1 : Int32))), some (v3)]) (st' := []) 2 rfl H
      · replace H := H.2 (Decidable.of_not_not (of_decide_eq_false c))
        exact mm_R.pn (pc' := 14) (L' := [some ((.ref a0)), some (.int (i1 ||| ((1 : Int32) <<< (i3 &&& 31)))), some (.int i2), some (.int (i3 + (1 : Int32))), some (v3)]) (st' := []) 8 rfl H
-- StepRunner$Run.begin, from 0
set_option maxRecDepth 10000 in
theorem w57_0 {X : List Int32} {d : Nat} {a0 : Nat} {r1 : Value} {i2 : Int32} {r3 : Value} {i4 : Int32} {hp : mm_H} {Q : Option Value → mm_H → Prop} (H : mm_isr r1 = true ∧ mw_pt 3 5 (.ref a0) (r1) hp (fun hp2 => mw_ln r1 hp2 (fun x3 => mw_pt 3 7 (.ref a0) (.int (if (if (6 : Int32) < x3 then (6 : Int32) else x3) < i2 then (if (6 : Int32) < x3 then (6 : Int32) else x3) else i2)) hp2 (fun hp4 => mm_isr r3 = true ∧ mw_pt 3 6 (.ref a0) (r3) hp4 (fun hp6 => mw_pt 3 8 (.ref a0) (.int (if (3 : Int32) < i4 then (3 : Int32) else i4)) hp6 (fun hp7 => mw_pt 3 3 (.ref a0) (.int (0 : Int32)) hp7 (fun hp8 => mw_pt 3 4 (.ref a0) (.int (0 : Int32)) hp8 (fun hp9 => mw_pt 3 9 (.ref a0) (.int (0 : Int32)) hp9 (fun hp10 => mw_pt 3 10 (.ref a0) (.int (1 : Int32)) hp10 (fun hp11 => mm_R X (d + 1) 57 58 [some ((.ref a0)), some (r1), some (.int i2), some (r3), some (.int i4), some (.int (0 : Int32))] [] hp11 Q)))))))))) : mm_R X (d + 1) 57 0 (mm_L0 57 [(.ref a0), r1, .int i2, r3, .int i4]) [] hp Q := by
  show mm_R X (d + 1) 57 0 [some ((.ref a0)), some (r1), some (.int i2), some (r3), some (.int i4), none] [] hp Q
  obtain ⟨hr1, H⟩ := H
  refine mm_R.al (pc' := 1) (L' := [some ((.ref a0)), some (r1), some (.int i2), some (r3), some (.int i4), none]) (r := [(.ref a0)]) (v := r1) 1 rfl rfl rfl rfl hr1 ?_
  refine mm_R.wpt (pc' := 2) (L' := [some ((.ref a0)), some (r1), some (.int i2), some (r3), some (.int i4), none]) (r := []) 0 rfl rfl (H.mono (fun hp2 H => ?_))
  refine mm_R.al (pc' := 7) (L' := [some ((.ref a0)), some (r1), some (.int i2), some (r3), some (.int i4), none]) (r := [.int i2, (.ref a0)]) (v := r1) 2 rfl rfl rfl rfl hr1 ?_
  refine mm_R.wln (pc' := 8) (L' := [some ((.ref a0)), some (r1), some (.int i2), some (r3), some (.int i4), none]) (r := [.int i2, (.ref a0)]) 0 rfl rfl (H.mono (fun x3 H => ?_))
  refine mm_R.cP (pc' := 11) (L' := [some ((.ref a0)), some (r1), some (.int i2), some (r3), some (.int i4), none]) (st1 := [.int (6 : Int32), .int x3, .int i2, (.ref a0)]) (as := [.int x3, .int (6 : Int32)]) (rest := [.int i2, (.ref a0)]) (o := some (.int (if (6 : Int32) < x3 then (6 : Int32) else x3))) 1 rfl rfl rfl rfl rfl (mw_sp rfl rfl (Nat.le_of_ble_eq_true rfl) (mw_ac rfl (mw_ac rfl mw_an)) (mw_ac rfl (mw_ac rfl mw_an))) rfl rfl ?_
  refine mm_R.cP (pc' := 14) (L' := [some ((.ref a0)), some (r1), some (.int i2), some (r3), some (.int i4), none]) (st1 := [.int (if (6 : Int32) < x3 then (6 : Int32) else x3), .int i2, (.ref a0)]) (as := [.int i2, .int (if (6 : Int32) < x3 then (6 : Int32) else x3)]) (rest := [(.ref a0)]) (o := some (.int (if (if (6 : Int32) < x3 then (6 : Int32) else x3) < i2 then (if (6 : Int32) < x3 then (6 : Int32) else x3) else i2))) 0 rfl rfl rfl rfl rfl (mw_sp rfl rfl (Nat.le_of_ble_eq_true rfl) (mw_ac rfl (mw_ac rfl mw_an)) (mw_ac rfl mw_an)) rfl rfl ?_
  refine mm_R.wpt (pc' := 17) (L' := [some ((.ref a0)), some (r1), some (.int i2), some (r3), some (.int i4), none]) (r := []) 0 rfl rfl (H.mono (fun hp4 H => ?_))
  obtain ⟨hr5, H⟩ := H
  refine mm_R.al (pc' := 21) (L' := [some ((.ref a0)), some (r1), some (.int i2), some (r3), some (.int i4), none]) (r := [(.ref a0)]) (v := r3) 1 rfl rfl rfl rfl hr5 ?_
  refine mm_R.wpt (pc' := 22) (L' := [some ((.ref a0)), some (r1), some (.int i2), some (r3), some (.int i4), none]) (r := []) 0 rfl rfl (H.mono (fun hp6 H => ?_))
  refine mm_R.cP (pc' := 29) (L' := [some ((.ref a0)), some (r1), some (.int i2), some (r3), some (.int i4), none]) (st1 := [.int (3 : Int32), .int i4, (.ref a0)]) (as := [.int i4, .int (3 : Int32)]) (rest := [(.ref a0)]) (o := some (.int (if (3 : Int32) < i4 then (3 : Int32) else i4))) 3 rfl rfl rfl rfl rfl (mw_sp rfl rfl (Nat.le_of_ble_eq_true rfl) (mw_ac rfl (mw_ac rfl mw_an)) (mw_ac rfl mw_an)) rfl rfl ?_
  refine mm_R.wpt (pc' := 32) (L' := [some ((.ref a0)), some (r1), some (.int i2), some (r3), some (.int i4), none]) (r := []) 0 rfl rfl (H.mono (fun hp7 H => ?_))
  refine mm_R.wpt (pc' := 37) (L' := [some ((.ref a0)), some (r1), some (.int i2), some (r3), some (.int i4), none]) (r := []) 2 rfl rfl (H.mono (fun hp8 H => ?_))
  refine mm_R.wpt (pc' := 42) (L' := [some ((.ref a0)), some (r1), some (.int i2), some (r3), some (.int i4), none]) (r := []) 2 rfl rfl (H.mono (fun hp9 H => ?_))
  refine mm_R.wpt (pc' := 47) (L' := [some ((.ref a0)), some (r1), some (.int i2), some (r3), some (.int i4), none]) (r := []) 2 rfl rfl (H.mono (fun hp10 H => ?_))
  refine mm_R.wpt (pc' := 52) (L' := [some ((.ref a0)), some (r1), some (.int i2), some (r3), some (.int i4), none]) (r := []) 2 rfl rfl (H.mono (fun hp11 H => ?_))
  exact mm_R.pn (pc' := 58) (L' := [some ((.ref a0)), some (r1), some (.int i2), some (r3), some (.int i4), some (.int (0 : Int32))]) (st' := []) 2 rfl H
-- StepRunner$Run.begin, from 58
set_option maxRecDepth 10000 in
theorem w57_58 {X : List Int32} {d : Nat} {a0 : Nat} {r1 : Value} {i2 : Int32} {r3 : Value} {i4 : Int32} {i5 : Int32} {hp : mm_H} {Q : Option Value → mm_H → Prop} (H : (((6 : Int32) ≤ i5 → Q none hp) ∧ (¬ (6 : Int32) ≤ i5 → mw_gv 3 1 (.ref a0) hp (fun v1 => mw_av v1 i5 hp (fun v2 => mw_rc v2 58 hp ∧ mm_R X d 58 0 (mm_L0 58 [v2]) [] hp (mw_r0 (fun hp4 => mm_R X (d + 1) 57 58 [some ((.ref a0)), some (r1), some (.int i2), some (r3), some (.int i4), some (.int (i5 + (1 : Int32)))] [] hp4 Q))))))) : mm_R X (d + 1) 57 58 [some ((.ref a0)), some (r1), some (.int i2), some (r3), some (.int i4), some (.int i5)] [] hp Q := by
  refine mm_R.br (L' := [some ((.ref a0)), some (r1), some (.int i2), some (r3), some (.int i4), some (.int i5)]) (st' := []) (t := 81) (u := 65) (b := mm_cc .ge i5 (6 : Int32)) 3 rfl (fun c => ?_) (fun c => ?_)
  · replace H := H.1 (of_decide_eq_true c)
    exact mm_R.rt (pc' := 81) (L' := [some ((.ref a0)), some (r1), some (.int i2), some (r3), some (.int i4), some (.int i5)]) (st1 := []) 0 rfl rfl rfl rfl rfl rfl H
  · replace H := H.2 (of_decide_eq_false c)
    refine mm_R.wgv (pc' := 66) (L' := [some ((.ref a0)), some (r1), some (.int i2), some (r3), some (.int i4), some (.int i5)]) (r := []) 1 rfl rfl (H.mono (fun v1 H => ?_))
    refine mm_R.wav (pc' := 71) (L' := [some ((.ref a0)), some (r1), some (.int i2), some (r3), some (.int i4), some (.int i5)]) (r := []) 1 rfl rfl (H.mono (fun v2 H => ?_))
    obtain ⟨hc3, H⟩ := H
    refine mm_R.cV (pc' := 72) (L' := [some ((.ref a0)), some (r1), some (.int i2), some (r3), some (.int i4), some (.int i5)]) (st1 := [v2]) (as := []) (rest := []) 0 rfl rfl (mw_sp rfl rfl (Nat.le_of_ble_eq_true rfl) (mw_ac (mw_c1 hc3.isr) mw_an) mw_an) rfl rfl hc3 (H.mono (fun o hp4 H => ?_))
    obtain ⟨rfl, H⟩ := H
    exact mm_R.pn (pc' := 58) (L' := [some ((.ref a0)), some (r1), some (.int i2), some (r3), some (.int i4), some (.int (i5 + (1 : Int32)))]) (st' := []) 2 rfl H
-- StepRunner$Progress.clear, from 0
set_option maxRecDepth 10000 in
theorem w58_0 {X : List Int32} {d : Nat} {a0 : Nat} {hp : mm_H} {Q : Option Value → mm_H → Prop} (H : mm_R X (d + 1) 58 2 [some ((.ref a0)), some (.int (0 : Int32))] [] hp Q) : mm_R X (d + 1) 58 0 (mm_L0 58 [(.ref a0)]) [] hp Q := by
  show mm_R X (d + 1) 58 0 [some ((.ref a0)), none] [] hp Q
  exact mm_R.pn (pc' := 2) (L' := [some ((.ref a0)), some (.int (0 : Int32))]) (st' := []) 2 rfl H
-- StepRunner$Progress.clear, from 2
set_option maxRecDepth 10000 in
theorem w58_2 {X : List Int32} {d : Nat} {a0 : Nat} {i1 : Int32} {hp : mm_H} {Q : Option Value → mm_H → Prop} (H : (((16 : Int32) ≤ i1 → mw_pt 5 5 (.ref a0) (.int (0 : Int32)) hp (fun hp1 => mw_pt 5 6 (.ref a0) (.int (0 : Int32)) hp1 (fun hp2 => mw_pt 5 7 (.ref a0) (.int (0 : Int32)) hp2 (fun hp3 => mw_pt 5 8 (.ref a0) (.int (0 : Int32)) hp3 (fun hp4 => mw_pt 5 10 (.ref a0) (.int (0 : Int32)) hp4 (fun hp5 => mw_pt 5 11 (.ref a0) (.null) hp5 (fun hp6 => Q none hp6))))))) ∧ (¬ (16 : Int32) ≤ i1 → mw_gv 5 2 (.ref a0) hp (fun v7 => mw_sv v7 i1 .null hp (fun hp8 => mm_R X (d + 1) 58 2 [some ((.ref a0)), some (.int (i1 + (1 : Int32)))] [] hp8 Q))))) : mm_R X (d + 1) 58 2 [some ((.ref a0)), some (.int i1)] [] hp Q := by
  refine mm_R.br (L' := [some ((.ref a0)), some (.int i1)]) (st' := []) (t := 21) (u := 8) (b := mm_cc .ge i1 (16 : Int32)) 3 rfl (fun c => ?_) (fun c => ?_)
  · replace H := H.1 (of_decide_eq_true c)
    refine mm_R.wpt (pc' := 23) (L' := [some ((.ref a0)), some (.int i1)]) (r := []) 2 rfl rfl (H.mono (fun hp1 H => ?_))
    refine mm_R.wpt (pc' := 28) (L' := [some ((.ref a0)), some (.int i1)]) (r := []) 2 rfl rfl (H.mono (fun hp2 H => ?_))
    refine mm_R.wpt (pc' := 33) (L' := [some ((.ref a0)), some (.int i1)]) (r := []) 2 rfl rfl (H.mono (fun hp3 H => ?_))
    refine mm_R.wpt (pc' := 38) (L' := [some ((.ref a0)), some (.int i1)]) (r := []) 2 rfl rfl (H.mono (fun hp4 H => ?_))
    refine mm_R.wpt (pc' := 43) (L' := [some ((.ref a0)), some (.int i1)]) (r := []) 2 rfl rfl (H.mono (fun hp5 H => ?_))
    refine mm_R.wpt (pc' := 48) (L' := [some ((.ref a0)), some (.int i1)]) (r := []) 2 rfl rfl (H.mono (fun hp6 H => ?_))
    exact mm_R.rt (pc' := 51) (L' := [some ((.ref a0)), some (.int i1)]) (st1 := []) 0 rfl rfl rfl rfl rfl rfl H
  · replace H := H.2 (of_decide_eq_false c)
    refine mm_R.wgv (pc' := 9) (L' := [some ((.ref a0)), some (.int i1)]) (r := []) 1 rfl rfl (H.mono (fun v7 H => ?_))
    refine mm_R.wsv (pc' := 14) (L' := [some ((.ref a0)), some (.int i1)]) (r := []) 2 rfl rfl (H.mono (fun hp8 H => ?_))
    exact mm_R.pn (pc' := 2) (L' := [some ((.ref a0)), some (.int (i1 + (1 : Int32)))]) (st' := []) 2 rfl H
-- StepRunner$Run.advance, from 0
set_option maxRecDepth 10000 in
theorem w59_0 {X : List Int32} {d : Nat} {a0 : Nat} {hp : mm_H} {Q : Option Value → mm_H → Prop} (H : mm_R X (d + 1) 59 2 [some ((.ref a0)), some (.int (0 : Int32)), none, none] [] hp Q) : mm_R X (d + 1) 59 0 (mm_L0 59 [(.ref a0)]) [] hp Q := by
  show mm_R X (d + 1) 59 0 [some ((.ref a0)), none, none, none] [] hp Q
  exact mm_R.pn (pc' := 2) (L' := [some ((.ref a0)), some (.int (0 : Int32)), none, none]) (st' := []) 2 rfl H
-- StepRunner$Run.advance, from 2
set_option maxRecDepth 10000 in
theorem w59_2 {X : List Int32} {d : Nat} {a0 : Nat} {i1 : Int32} {o2 : Option Value} {o3 : Option Value} {hp : mm_H} {Q : Option Value → mm_H → Prop} (H : mw_gi 3 7 (.ref a0) hp (fun x1 => ((x1 ≤ i1 → mw_gi 3 9 (.ref a0) hp (fun x2 => ((¬ x2 = (0 : Int32) → mm_R X (d + 1) 59 120 [some ((.ref a0)), some (.int i1), o2, o3] [] hp Q) ∧ (x2 = (0 : Int32) → mw_rc (.ref a0) 96 hp ∧ mm_R X d 96 0 (mm_L0 96 [(.ref a0)]) [] hp (mw_r0 (fun hp4 => mm_R X (d + 1) 59 120 [some ((.ref a0)), some (.int i1), o2, o3] [] hp4 Q)))))) ∧ (¬ x1 ≤ i1 → mw_gi 3 9 (.ref a0) hp (fun x5 => ((¬ x5 = (0 : Int32) → mw_gi 3 9 (.ref a0) hp (fun x6 => ((¬ x6 = (0 : Int32) → mm_R X (d + 1) 59 120 [some ((.ref a0)), some (.int i1), o2, o3] [] hp Q) ∧ (x6 = (0 : Int32) → mw_rc (.ref a0) 96 hp ∧ mm_R X d 96 0 (mm_L0 96 [(.ref a0)]) [] hp (mw_r0 (fun hp8 => mm_R X (d + 1) 59 120 [some ((.ref a0)), some (.int i1), o2, o3] [] hp8 Q)))))) ∧ (x5 = (0 : Int32) → mw_rc (.ref a0) 60 hp ∧ mm_R X d 60 0 (mm_L0 60 [(.ref a0)]) [] hp (mw_ri (fun x11 hp10 => ((¬ x11 = (-1 : Int32) → mw_gv 3 1 (.ref a0) hp10 (fun v12 => mw_av v12 x11 hp10 (fun v13 => mm_isr v13 = true ∧ mw_gv 3 0 (.ref a0) hp10 (fun v15 => mw_gv 3 5 (.ref a0) hp10 (fun v16 => mw_av v16 x11 hp10 (fun v17 => mw_gv 3 1 (.ref a0) hp10 (fun v18 => mw_gv 3 6 (.ref a0) hp10 (fun v19 => mw_rc v15 61 hp10 ∧ mm_isr v17 = true ∧ mm_isr v18 = true ∧ mm_isr v19 = true ∧ mm_R X d 61 0 (mm_L0 61 [v15, v17, v13, v18, v19]) [] hp10 (mw_ri (fun x25 hp24 => ((¬ x25 = (0 : Int32) → mw_pt 5 10 v13 (.int (1 : Int32)) hp24 (fun hp26 => mm_R X d 92 0 (mm_L0 92 [v13]) [] hp26 (mw_r0 (fun hp27 => mm_R X (d + 1) 59 79 [some ((.ref a0)), some (.int i1), some (.int x11), some (v13)] [] hp27 Q)))) ∧ (x25 = (0 : Int32) → mw_pt 5 10 v13 (.int (3 : Int32)) hp24 (fun hp28 => mm_R X (d + 1) 59 79 [some ((.ref a0)), some (.int i1), some (.int x11), some (v13)] [] hp28 Q))))))))))))) ∧ (x11 = (-1 : Int32) → mw_gi 3 9 (.ref a0) hp10 (fun x29 => ((¬ x29 = (0 : Int32) → mm_R X (d + 1) 59 120 [some ((.ref a0)), some (.int i1), some (.int x11), o3] [] hp10 Q) ∧ (x29 = (0 : Int32) → mw_rc (.ref a0) 96 hp10 ∧ mm_R X d 96 0 (mm_L0 96 [(.ref a0)]) [] hp10 (mw_r0 (fun hp31 => mm_R X (d + 1) 59 120 [some ((.ref a0)), some (.int i1), some (.int x11), o3] [] hp31 Q)))))))))))))))) : mm_R X (d + 1) 59 2 [some ((.ref a0)), some (.int i1), o2, o3] [] hp Q := by
  refine mm_R.wgi (pc' := 4) (L' := [some ((.ref a0)), some (.int i1), o2, o3]) (r := [.int i1]) 2 rfl rfl (H.mono (fun x1 H => ?_))
  refine mm_R.br (L' := [some ((.ref a0)), some (.int i1), o2, o3]) (st' := []) (t := 109) (u := 10) (b := mm_cc .ge i1 x1) 1 rfl (fun c => ?_) (fun c => ?_)
  · replace H := H.1 (of_decide_eq_true c)
    refine mm_R.wgi (pc' := 110) (L' := [some ((.ref a0)), some (.int i1), o2, o3]) (r := []) 1 rfl rfl (H.mono (fun x2 H => ?_))
    refine mm_R.br (L' := [some ((.ref a0)), some (.int i1), o2, o3]) (st' := []) (t := 120) (u := 116) (b := mm_cc .ne x2 (0 : Int32)) 1 rfl (fun c => ?_) (fun c => ?_)
    · replace H := H.1 (of_decide_eq_true c)
      exact H
    · replace H := H.2 (Decidable.of_not_not (of_decide_eq_false c))
      obtain ⟨hc3, H⟩ := H
      refine mm_R.cV (pc' := 117) (L' := [some ((.ref a0)), some (.int i1), o2, o3]) (st1 := [(.ref a0)]) (as := []) (rest := []) 1 rfl rfl (mw_sp rfl rfl (Nat.le_of_ble_eq_true rfl) (mw_ac rfl mw_an) mw_an) rfl rfl hc3 (H.mono (fun o hp4 H => ?_))
      obtain ⟨rfl, H⟩ := H
      exact H
  · replace H := H.2 (of_decide_eq_false c)
    refine mm_R.wgi (pc' := 11) (L' := [some ((.ref a0)), some (.int i1), o2, o3]) (r := []) 1 rfl rfl (H.mono (fun x5 H => ?_))
    refine mm_R.br (L' := [some ((.ref a0)), some (.int i1), o2, o3]) (st' := []) (t := 109) (u := 17) (b := mm_cc .ne x5 (0 : Int32)) 1 rfl (fun c => ?_) (fun c => ?_)
    · replace H := H.1 (of_decide_eq_true c)
      refine mm_R.wgi (pc' := 110) (L' := [some ((.ref a0)), some (.int i1), o2, o3]) (r := []) 1 rfl rfl (H.mono (fun x6 H => ?_))
      refine mm_R.br (L' := [some ((.ref a0)), some (.int i1), o2, o3]) (st' := []) (t := 120) (u := 116) (b := mm_cc .ne x6 (0 : Int32)) 1 rfl (fun c => ?_) (fun c => ?_)
      · replace H := H.1 (of_decide_eq_true c)
        exact H
      · replace H := H.2 (Decidable.of_not_not (of_decide_eq_false c))
        obtain ⟨hc7, H⟩ := H
        refine mm_R.cV (pc' := 117) (L' := [some ((.ref a0)), some (.int i1), o2, o3]) (st1 := [(.ref a0)]) (as := []) (rest := []) 1 rfl rfl (mw_sp rfl rfl (Nat.le_of_ble_eq_true rfl) (mw_ac rfl mw_an) mw_an) rfl rfl hc7 (H.mono (fun o hp8 H => ?_))
        obtain ⟨rfl, H⟩ := H
        exact H
    · replace H := H.2 (Decidable.of_not_not (of_decide_eq_false c))
      obtain ⟨hc9, H⟩ := H
      refine mm_R.cV (pc' := 18) (L' := [some ((.ref a0)), some (.int i1), o2, o3]) (st1 := [(.ref a0)]) (as := []) (rest := []) 1 rfl rfl (mw_sp rfl rfl (Nat.le_of_ble_eq_true rfl) (mw_ac rfl mw_an) mw_an) rfl rfl hc9 (H.mono (fun o hp10 H => ?_))
      obtain ⟨x11, rfl, H⟩ := H
      refine mm_R.br (L' := [some ((.ref a0)), some (.int i1), some (.int x11), o3]) (st' := []) (t := 30) (u := 27) (b := mm_cc .ne x11 (-1 : Int32)) 4 rfl (fun c => ?_) (fun c => ?_)
      · replace H := H.1 (of_decide_eq_true c)
        refine mm_R.wgv (pc' := 31) (L' := [some ((.ref a0)), some (.int i1), some (.int x11), o3]) (r := []) 1 rfl rfl (H.mono (fun v12 H => ?_))
        refine mm_R.wav (pc' := 35) (L' := [some ((.ref a0)), some (.int i1), some (.int x11), o3]) (r := []) 1 rfl rfl (H.mono (fun v13 H => ?_))
        obtain ⟨hr14, H⟩ := H
        refine mm_R.as (pc' := 36) (L' := [some ((.ref a0)), some (.int i1), some (.int x11), o3]) (r := []) (v := v13) 0 rfl rfl rfl rfl hr14 ?_
        refine mm_R.wgv (pc' := 38) (L' := [some ((.ref a0)), some (.int i1), some (.int x11), some (v13)]) (r := []) 1 rfl rfl (H.mono (fun v15 H => ?_))
        refine mm_R.wgv (pc' := 42) (L' := [some ((.ref a0)), some (.int i1), some (.int x11), some (v13)]) (r := [v15]) 1 rfl rfl (H.mono (fun v16 H => ?_))
        refine mm_R.wav (pc' := 46) (L' := [some ((.ref a0)), some (.int i1), some (.int x11), some (v13)]) (r := [v15]) 1 rfl rfl (H.mono (fun v17 H => ?_))
        refine mm_R.al (pc' := 47) (L' := [some ((.ref a0)), some (.int i1), some (.int x11), some (v13)]) (r := [v17, v15]) (v := v13) 0 rfl rfl rfl rfl hr14 ?_
        refine mm_R.wgv (pc' := 49) (L' := [some ((.ref a0)), some (.int i1), some (.int x11), some (v13)]) (r := [v13, v17, v15]) 1 rfl rfl (H.mono (fun v18 H => ?_))
        refine mm_R.wgv (pc' := 53) (L' := [some ((.ref a0)), some (.int i1), some (.int x11), some (v13)]) (r := [v18, v13, v17, v15]) 1 rfl rfl (H.mono (fun v19 H => ?_))
        obtain ⟨hc20, H⟩ := H
        obtain ⟨hr21, H⟩ := H
        obtain ⟨hr22, H⟩ := H
        obtain ⟨hr23, H⟩ := H
        refine mm_R.cV (pc' := 56) (L' := [some ((.ref a0)), some (.int i1), some (.int x11), some (v13)]) (st1 := [v19, v18, v13, v17, v15]) (as := [v17, v13, v18, v19]) (rest := []) 0 rfl rfl (mw_sp rfl rfl (Nat.le_of_ble_eq_true rfl) (mw_ac (mw_c1 hc20.isr) (mw_ac (mw_c1 hr21) (mw_ac (mw_c1 hr14) (mw_ac (mw_c1 hr22) (mw_ac (mw_c1 hr23) mw_an))))) mw_an) rfl rfl hc20 (H.mono (fun o hp24 H => ?_))
        obtain ⟨x25, rfl, H⟩ := H
        refine mm_R.br (L' := [some ((.ref a0)), some (.int i1), some (.int x11), some (v13)]) (st' := []) (t := 70) (u := 62) (b := mm_cc .ne x25 (0 : Int32)) 1 rfl (fun c => ?_) (fun c => ?_)
        · replace H := H.1 (of_decide_eq_true c)
          refine mm_R.al (pc' := 70) (L' := [some ((.ref a0)), some (.int i1), some (.int x11), some (v13)]) (r := []) (v := v13) 0 rfl rfl rfl rfl hr14 ?_
          refine mm_R.wpt (pc' := 72) (L' := [some ((.ref a0)), some (.int i1), some (.int x11), some (v13)]) (r := []) 1 rfl rfl (H.mono (fun hp26 H => ?_))
          refine mm_R.al (pc' := 75) (L' := [some ((.ref a0)), some (.int i1), some (.int x11), some (v13)]) (r := []) (v := v13) 0 rfl rfl rfl rfl hr14 ?_
          refine mm_R.cS (pc' := 76) (L' := [some ((.ref a0)), some (.int i1), some (.int x11), some (v13)]) (st1 := [v13]) (as := [v13]) (rest := []) 0 rfl rfl (mw_sp rfl rfl (Nat.le_of_ble_eq_true rfl) (mw_ac (mw_c1 hr14) mw_an) mw_an) rfl rfl (H.mono (fun o hp27 H => ?_))
          obtain ⟨rfl, H⟩ := H
          exact H
        · replace H := H.2 (Decidable.of_not_not (of_decide_eq_false c))
          refine mm_R.al (pc' := 62) (L' := [some ((.ref a0)), some (.int i1), some (.int x11), some (v13)]) (r := []) (v := v13) 0 rfl rfl rfl rfl hr14 ?_
          refine mm_R.wpt (pc' := 64) (L' := [some ((.ref a0)), some (.int i1), some (.int x11), some (v13)]) (r := []) 1 rfl rfl (H.mono (fun hp28 H => ?_))
          exact mm_R.pn (pc' := 79) (L' := [some ((.ref a0)), some (.int i1), some (.int x11), some (v13)]) (st' := []) 1 rfl H
      · replace H := H.2 (Decidable.of_not_not (of_decide_eq_false c))
        refine mm_R.wgi (pc' := 110) (L' := [some ((.ref a0)), some (.int i1), some (.int x11), o3]) (r := []) 2 rfl rfl (H.mono (fun x29 H => ?_))
        refine mm_R.br (L' := [some ((.ref a0)), some (.int i1), some (.int x11), o3]) (st' := []) (t := 120) (u := 116) (b := mm_cc .ne x29 (0 : Int32)) 1 rfl (fun c => ?_) (fun c => ?_)
        · replace H := H.1 (of_decide_eq_true c)
          exact H
        · replace H := H.2 (Decidable.of_not_not (of_decide_eq_false c))
          obtain ⟨hc30, H⟩ := H
          refine mm_R.cV (pc' := 117) (L' := [some ((.ref a0)), some (.int i1), some (.int x11), o3]) (st1 := [(.ref a0)]) (as := []) (rest := []) 1 rfl rfl (mw_sp rfl rfl (Nat.le_of_ble_eq_true rfl) (mw_ac rfl mw_an) mw_an) rfl rfl hc30 (H.mono (fun o hp31 H => ?_))
          obtain ⟨rfl, H⟩ := H
          exact H
-- StepRunner$Run.advance, from 79
set_option maxRecDepth 10000 in
theorem w59_79 {X : List Int32} {d : Nat} {a0 : Nat} {i1 : Int32} {i2 : Int32} {r3 : Value} {hp : mm_H} {Q : Option Value → mm_H → Prop} (H : mw_gi 3 9 (.ref a0) hp (fun x1 => ((¬ x1 = (0 : Int32) → mw_pt 3 9 (.ref a0) (.int (1 : Int32)) hp (fun hp2 => mm_R X (d + 1) 59 2 [some ((.ref a0)), some (.int (i1 + (1 : Int32))), some (.int i2), some (r3)] [] hp2 Q)) ∧ (x1 = (0 : Int32) → mm_isr r3 = true ∧ mw_gi 5 10 r3 hp (fun x4 => ((¬ x4 = (3 : Int32) → mw_pt 3 9 (.ref a0) (.int (0 : Int32)) hp (fun hp5 => mm_R X (d + 1) 59 2 [some ((.ref a0)), some (.int (i1 + (1 : Int32))), some (.int i2), some (r3)] [] hp5 Q)) ∧ (x4 = (3 : Int32) → mw_pt 3 9 (.ref a0) (.int (1 : Int32)) hp (fun hp6 => mm_R X (d + 1) 59 2 [some ((.ref a0)), some (.int (i1 + (1 : Int32))), some (.int i2), some (r3)] [] hp6 Q)))))))) : mm_R X (d + 1) 59 79 [some ((.ref a0)), some (.int i1), some (.int i2), some (r3)] [] hp Q := by
  refine mm_R.wgi (pc' := 81) (L' := [some ((.ref a0)), some (.int i1), some (.int i2), some (r3)]) (r := [(.ref a0)]) 2 rfl rfl (H.mono (fun x1 H => ?_))
  refine mm_R.br (L' := [some ((.ref a0)), some (.int i1), some (.int i2), some (r3)]) (st' := [(.ref a0)]) (t := 95) (u := 87) (b := mm_cc .ne x1 (0 : Int32)) 1 rfl (fun c => ?_) (fun c => ?_)
  · replace H := H.1 (of_decide_eq_true c)
    refine mm_R.wpt (pc' := 100) (L' := [some ((.ref a0)), some (.int i1), some (.int i2), some (r3)]) (r := []) 2 rfl rfl (H.mono (fun hp2 H => ?_))
    exact mm_R.pn (pc' := 2) (L' := [some ((.ref a0)), some (.int (i1 + (1 : Int32))), some (.int i2), some (r3)]) (st' := []) 2 rfl H
  · replace H := H.2 (Decidable.of_not_not (of_decide_eq_false c))
    obtain ⟨hr3, H⟩ := H
    refine mm_R.al (pc' := 87) (L' := [some ((.ref a0)), some (.int i1), some (.int i2), some (r3)]) (r := [(.ref a0)]) (v := r3) 0 rfl rfl rfl rfl hr3 ?_
    refine mm_R.wgi (pc' := 88) (L' := [some ((.ref a0)), some (.int i1), some (.int i2), some (r3)]) (r := [(.ref a0)]) 0 rfl rfl (H.mono (fun x4 H => ?_))
    refine mm_R.br (L' := [some ((.ref a0)), some (.int i1), some (.int i2), some (r3)]) (st' := [(.ref a0)]) (t := 99) (u := 95) (b := mm_cc .ne x4 (3 : Int32)) 2 rfl (fun c => ?_) (fun c => ?_)
    · replace H := H.1 (of_decide_eq_true c)
      refine mm_R.wpt (pc' := 100) (L' := [some ((.ref a0)), some (.int i1), some (.int i2), some (r3)]) (r := []) 1 rfl rfl (H.mono (fun hp5 H => ?_))
      exact mm_R.pn (pc' := 2) (L' := [some ((.ref a0)), some (.int (i1 + (1 : Int32))), some (.int i2), some (r3)]) (st' := []) 2 rfl H
    · replace H := H.2 (Decidable.of_not_not (of_decide_eq_false c))
      refine mm_R.wpt (pc' := 100) (L' := [some ((.ref a0)), some (.int i1), some (.int i2), some (r3)]) (r := []) 2 rfl rfl (H.mono (fun hp6 H => ?_))
      exact mm_R.pn (pc' := 2) (L' := [some ((.ref a0)), some (.int (i1 + (1 : Int32))), some (.int i2), some (r3)]) (st' := []) 2 rfl H
-- StepRunner$Run.advance, from 120
set_option maxRecDepth 10000 in
theorem w59_120 {X : List Int32} {d : Nat} {a0 : Nat} {i1 : Int32} {o2 : Option Value} {o3 : Option Value} {hp : mm_H} {Q : Option Value → mm_H → Prop} (H : mw_gi 3 3 (.ref a0) hp (fun x1 => ((¬ x1 = (0 : Int32) → Q none hp) ∧ (x1 = (0 : Int32) → mw_gi 3 9 (.ref a0) hp (fun x2 => ((x2 = (0 : Int32) → mw_pt 3 10 (.ref a0) (.int (2 : Int32)) hp (fun hp3 => Q none hp3)) ∧ (¬ x2 = (0 : Int32) → mw_pt 3 10 (.ref a0) (.int (3 : Int32)) hp (fun hp4 => Q none hp4)))))))) : mm_R X (d + 1) 59 120 [some ((.ref a0)), some (.int i1), o2, o3] [] hp Q := by
  refine mm_R.wgi (pc' := 121) (L' := [some ((.ref a0)), some (.int i1), o2, o3]) (r := []) 1 rfl rfl (H.mono (fun x1 H => ?_))
  refine mm_R.br (L' := [some ((.ref a0)), some (.int i1), o2, o3]) (st' := []) (t := 143) (u := 127) (b := mm_cc .ne x1 (0 : Int32)) 1 rfl (fun c => ?_) (fun c => ?_)
  · replace H := H.1 (of_decide_eq_true c)
    exact mm_R.rt (pc' := 143) (L' := [some ((.ref a0)), some (.int i1), o2, o3]) (st1 := []) 0 rfl rfl rfl rfl rfl rfl H
  · replace H := H.2 (Decidable.of_not_not (of_decide_eq_false c))
    refine mm_R.wgi (pc' := 129) (L' := [some ((.ref a0)), some (.int i1), o2, o3]) (r := [(.ref a0)]) 2 rfl rfl (H.mono (fun x2 H => ?_))
    refine mm_R.br (L' := [some ((.ref a0)), some (.int i1), o2, o3]) (st' := [(.ref a0)]) (t := 139) (u := 135) (b := mm_cc .eq x2 (0 : Int32)) 1 rfl (fun c => ?_) (fun c => ?_)
    · replace H := H.1 (of_decide_eq_true c)
      refine mm_R.wpt (pc' := 140) (L' := [some ((.ref a0)), some (.int i1), o2, o3]) (r := []) 1 rfl rfl (H.mono (fun hp3 H => ?_))
      exact mm_R.rt (pc' := 143) (L' := [some ((.ref a0)), some (.int i1), o2, o3]) (st1 := []) 0 rfl rfl rfl rfl rfl rfl H
    · replace H := H.2 (of_decide_eq_false c)
      refine mm_R.wpt (pc' := 140) (L' := [some ((.ref a0)), some (.int i1), o2, o3]) (r := []) 2 rfl rfl (H.mono (fun hp4 H => ?_))
      exact mm_R.rt (pc' := 143) (L' := [some ((.ref a0)), some (.int i1), o2, o3]) (st1 := []) 0 rfl rfl rfl rfl rfl rfl H
-- StepRunner$Run.nextToExpand, from 0
set_option maxRecDepth 10000 in
theorem w60_0 {X : List Int32} {d : Nat} {a0 : Nat} {hp : mm_H} {Q : Option Value → mm_H → Prop} (H : mm_R X (d + 1) 60 4 [some ((.ref a0)), some (.int (0 : Int32)), some (.int (0 : Int32)), none, none] [] hp Q) : mm_R X (d + 1) 60 0 (mm_L0 60 [(.ref a0)]) [] hp Q := by
  show mm_R X (d + 1) 60 0 [some ((.ref a0)), none, none, none, none] [] hp Q
  exact mm_R.pn (pc' := 4) (L' := [some ((.ref a0)), some (.int (0 : Int32)), some (.int (0 : Int32)), none, none]) (st' := []) 4 rfl H
-- StepRunner$Run.nextToExpand, from 4
set_option maxRecDepth 10000 in
theorem w60_4 {X : List Int32} {d : Nat} {a0 : Nat} {i1 : Int32} {i2 : Int32} {o3 : Option Value} {o4 : Option Value} {hp : mm_H} {Q : Option Value → mm_H → Prop} (H : mw_gi 3 7 (.ref a0) hp (fun x1 => ((x1 ≤ i2 → mm_R X (d + 1) 60 43 [some ((.ref a0)), some (.int i1), some (.int (0 : Int32)), o3, o4] [] hp Q) ∧ (¬ x1 ≤ i2 → mw_gv 3 1 (.ref a0) hp (fun v2 => mw_av v2 i2 hp (fun v3 => mw_gi 5 10 v3 hp (fun x4 => ((¬ x4 = (2 : Int32) → mm_R X (d + 1) 60 4 [some ((.ref a0)), some (.int (i1 ||| (0 : Int32))), some (.int (i2 + (1 : Int32))), o3, o4] [] hp Q) ∧ (x4 = (2 : Int32) → mm_R X (d + 1) 60 4 [some ((.ref a0)), some (.int (i1 ||| ((1 : Int32) <<< (i2 &&& 31)))), some (.int (i2 + (1 : Int32))), o3, o4] [] hp Q))))))))) : mm_R X (d + 1) 60 4 [some ((.ref a0)), some (.int i1), some (.int i2), o3, o4] [] hp Q := by
  refine mm_R.wgi (pc' := 6) (L' := [some ((.ref a0)), some (.int i1), some (.int i2), o3, o4]) (r := [.int i2]) 2 rfl rfl (H.mono (fun x1 H => ?_))
  refine mm_R.br (L' := [some ((.ref a0)), some (.int i1), some (.int i2), o3, o4]) (st' := []) (t := 41) (u := 12) (b := mm_cc .ge i2 x1) 1 rfl (fun c => ?_) (fun c => ?_)
  · replace H := H.1 (of_decide_eq_true c)
    exact mm_R.pn (pc' := 43) (L' := [some ((.ref a0)), some (.int i1), some (.int (0 : Int32)), o3, o4]) (st' := []) 2 rfl H
  · replace H := H.2 (of_decide_eq_false c)
    refine mm_R.wgv (pc' := 14) (L' := [some ((.ref a0)), some (.int i1), some (.int i2), o3, o4]) (r := [.int i1]) 2 rfl rfl (H.mono (fun v2 H => ?_))
    refine mm_R.wav (pc' := 18) (L' := [some ((.ref a0)), some (.int i1), some (.int i2), o3, o4]) (r := [.int i1]) 1 rfl rfl (H.mono (fun v3 H => ?_))
    refine mm_R.wgi (pc' := 19) (L' := [some ((.ref a0)), some (.int i1), some (.int i2), o3, o4]) (r := [.int i1]) 0 rfl rfl (H.mono (fun x4 H => ?_))
    refine mm_R.br (L' := [some ((.ref a0)), some (.int i1), some (.int i2), o3, o4]) (st' := [.int i1]) (t := 32) (u := 26) (b := mm_cc .ne x4 (2 : Int32)) 2 rfl (fun c => ?_) (fun c => ?_)
    · replace H := H.1 (of_decide_eq_true c)
      exact mm_R.pn (pc' := 4) (L' := [some ((.ref a0)), some (.int (i1 ||| (0 : Int32))), some (.int (i2 + (1 : Int32))), o3, o4]) (st' := []) 5 rfl H
    · replace H := H.2 (Decidable.of_not_not (of_decide_eq_false c))
      exact mm_R.pn (pc' := 4) (L' := [some ((.ref a0)), some (.int (i1 ||| ((1 : Int32) <<< (i2 &&& 31)))), some (.int (i2 + (1 : Int32))), o3, o4]) (st' := []) 8 rfl H
-- StepRunner$Run.nextToExpand, from 43
set_option maxRecDepth 10000 in
theorem w60_43 {X : List Int32} {d : Nat} {a0 : Nat} {i1 : Int32} {i2 : Int32} {o3 : Option Value} {o4 : Option Value} {hp : mm_H} {Q : Option Value → mm_H → Prop} (H : mw_gi 3 7 (.ref a0) hp (fun x1 => ((x1 ≤ i2 → Q (some (.int (-1 : Int32))) hp) ∧ (¬ x1 ≤ i2 → mw_gv 3 5 (.ref a0) hp (fun v2 => mw_av v2 i2 hp (fun v3 => mm_isr v3 = true ∧ mw_nl v3 (mm_R X (d + 1) 60 79 [some ((.ref a0)), some (.int i1), some (.int i2), some (v3), o4] [.int (0 : Int32)] hp Q) (mw_gv 3 1 (.ref a0) hp (fun v5 => mw_av v5 i2 hp (fun v6 => mw_gi 5 10 v6 hp (fun x7 => ((¬ x7 = (0 : Int32) → mm_R X (d + 1) 60 79 [some ((.ref a0)), some (.int i1), some (.int i2), some (v3), o4] [.int (0 : Int32)] hp Q) ∧ (x7 = (0 : Int32) → mm_R X (d + 1) 60 79 [some ((.ref a0)), some (.int i1), some (.int i2), some (v3), o4] [.int (1 : Int32)] hp Q)))))))))))) : mm_R X (d + 1) 60 43 [some ((.ref a0)), some (.int i1), some (.int i2), o3, o4] [] hp Q := by
  refine mm_R.wgi (pc' := 45) (L' := [some ((.ref a0)), some (.int i1), some (.int i2), o3, o4]) (r := [.int i2]) 2 rfl rfl (H.mono (fun x1 H => ?_))
  refine mm_R.br (L' := [some ((.ref a0)), some (.int i1), some (.int i2), o3, o4]) (st' := []) (t := 105) (u := 51) (b := mm_cc .ge i2 x1) 1 rfl (fun c => ?_) (fun c => ?_)
  · replace H := H.1 (of_decide_eq_true c)
    exact mm_R.rt (pc' := 106) (L' := [some ((.ref a0)), some (.int i1), some (.int i2), o3, o4]) (st1 := [.int (-1 : Int32)]) 1 rfl rfl rfl rfl rfl rfl H
  · replace H := H.2 (of_decide_eq_false c)
    refine mm_R.wgv (pc' := 52) (L' := [some ((.ref a0)), some (.int i1), some (.int i2), o3, o4]) (r := []) 1 rfl rfl (H.mono (fun v2 H => ?_))
    refine mm_R.wav (pc' := 56) (L' := [some ((.ref a0)), some (.int i1), some (.int i2), o3, o4]) (r := []) 1 rfl rfl (H.mono (fun v3 H => ?_))
    obtain ⟨hr4, H⟩ := H
    refine mm_R.as (pc' := 57) (L' := [some ((.ref a0)), some (.int i1), some (.int i2), o3, o4]) (r := []) (v := v3) 0 rfl rfl rfl rfl hr4 ?_
    refine mm_R.al (pc' := 58) (L' := [some ((.ref a0)), some (.int i1), some (.int i2), some (v3), o4]) (r := []) (v := v3) 0 rfl rfl rfl rfl hr4 ?_
    refine mm_R.wnl (pc' := 59) (L' := [some ((.ref a0)), some (.int i1), some (.int i2), some (v3), o4]) (r := []) (v := v3) (t := 78) (u := 62) 0 rfl rfl rfl (H.mono (fun H => ?_) (fun H => ?_))
    · exact mm_R.pn (pc' := 79) (L' := [some ((.ref a0)), some (.int i1), some (.int i2), some (v3), o4]) (st' := [.int (0 : Int32)]) 1 rfl H
    · refine mm_R.wgv (pc' := 63) (L' := [some ((.ref a0)), some (.int i1), some (.int i2), some (v3), o4]) (r := []) 1 rfl rfl (H.mono (fun v5 H => ?_))
      refine mm_R.wav (pc' := 67) (L' := [some ((.ref a0)), some (.int i1), some (.int i2), some (v3), o4]) (r := []) 1 rfl rfl (H.mono (fun v6 H => ?_))
      refine mm_R.wgi (pc' := 68) (L' := [some ((.ref a0)), some (.int i1), some (.int i2), some (v3), o4]) (r := []) 0 rfl rfl (H.mono (fun x7 H => ?_))
      refine mm_R.br (L' := [some ((.ref a0)), some (.int i1), some (.int i2), some (v3), o4]) (st' := []) (t := 78) (u := 74) (b := mm_cc .ne x7 (0 : Int32)) 1 rfl (fun c => ?_) (fun c => ?_)
      · replace H := H.1 (of_decide_eq_true c)
        exact mm_R.pn (pc' := 79) (L' := [some ((.ref a0)), some (.int i1), some (.int i2), some (v3), o4]) (st' := [.int (0 : Int32)]) 1 rfl H
      · replace H := H.2 (Decidable.of_not_not (of_decide_eq_false c))
        exact mm_R.pn (pc' := 79) (L' := [some ((.ref a0)), some (.int i1), some (.int i2), some (v3), o4]) (st' := [.int (1 : Int32)]) 2 rfl H
-- StepRunner$Run.nextToExpand, from 79
set_option maxRecDepth 10000 in
theorem w60_79 {X : List Int32} {d : Nat} {a0 : Nat} {i1 : Int32} {i2 : Int32} {r3 : Value} {o4 : Option Value} {s0 : Int32} {hp : mm_H} {Q : Option Value → mm_H → Prop} (H : ((s0 = (0 : Int32) → mm_R X (d + 1) 60 43 [some ((.ref a0)), some (.int i1), some (.int (i2 + (1 : Int32))), some (r3), some (.int s0)] [] hp Q) ∧ (¬ s0 = (0 : Int32) → mm_isr r3 = true ∧ mw_rc r3 55 hp ∧ mm_R X d 55 0 (mm_L0 55 [r3]) [] hp (mw_ri (fun x4 hp3 => ((¬ (x4 &&& (i1 ^^^ (-1 : Int32))) = (0 : Int32) → mm_R X (d + 1) 60 43 [some ((.ref a0)), some (.int i1), some (.int (i2 + (1 : Int32))), some (r3), some (.int s0)] [] hp3 Q) ∧ ((x4 &&& (i1 ^^^ (-1 : Int32))) = (0 : Int32) → Q (some (.int i2)) hp3))))))) : mm_R X (d + 1) 60 79 [some ((.ref a0)), some (.int i1), some (.int i2), some (r3), o4] [.int s0] hp Q := by
  refine mm_R.br (L' := [some ((.ref a0)), some (.int i1), some (.int i2), some (r3), some (.int s0)]) (st' := []) (t := 99) (u := 86) (b := mm_cc .eq s0 (0 : Int32)) 3 rfl (fun c => ?_) (fun c => ?_)
  · replace H := H.1 (of_decide_eq_true c)
    exact mm_R.pn (pc' := 43) (L' := [some ((.ref a0)), some (.int i1), some (.int (i2 + (1 : Int32))), some (r3), some (.int s0)]) (st' := []) 2 rfl H
  · replace H := H.2 (of_decide_eq_false c)
    obtain ⟨hr1, H⟩ := H
    refine mm_R.al (pc' := 86) (L' := [some ((.ref a0)), some (.int i1), some (.int i2), some (r3), some (.int s0)]) (r := []) (v := r3) 0 rfl rfl rfl rfl hr1 ?_
    obtain ⟨hc2, H⟩ := H
    refine mm_R.cV (pc' := 87) (L' := [some ((.ref a0)), some (.int i1), some (.int i2), some (r3), some (.int s0)]) (st1 := [r3]) (as := []) (rest := []) 0 rfl rfl (mw_sp rfl rfl (Nat.le_of_ble_eq_true rfl) (mw_ac (mw_c1 hc2.isr) mw_an) mw_an) rfl rfl hc2 (H.mono (fun o hp3 H => ?_))
    obtain ⟨x4, rfl, H⟩ := H
    refine mm_R.br (L' := [some ((.ref a0)), some (.int i1), some (.int i2), some (r3), some (.int s0)]) (st' := []) (t := 99) (u := 97) (b := mm_cc .ne (x4 &&& (i1 ^^^ (-1 : Int32))) (0 : Int32)) 5 rfl (fun c => ?_) (fun c => ?_)
    · replace H := H.1 (of_decide_eq_true c)
      exact mm_R.pn (pc' := 43) (L' := [some ((.ref a0)), some (.int i1), some (.int (i2 + (1 : Int32))), some (r3), some (.int s0)]) (st' := []) 2 rfl H
    · replace H := H.2 (Decidable.of_not_not (of_decide_eq_false c))
      exact mm_R.rt (pc' := 98) (L' := [some ((.ref a0)), some (.int i1), some (.int i2), some (r3), some (.int s0)]) (st1 := [.int i2]) 1 rfl rfl rfl rfl rfl rfl H
