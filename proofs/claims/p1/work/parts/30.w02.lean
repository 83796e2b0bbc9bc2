-- StepRunner.preset, from 0
set_option maxRecDepth 10000 in
theorem w27_0 {X : List Int32} {d : Nat} {a0 : Nat} {i1 : Int32} {i2 : Int32} {hp : mm_H} {Q : Option Value → mm_H → Prop} (H : mw_gv 0 0 (.ref a0) hp (fun v1 => mw_rc v1 28 hp ∧ mm_R X d 28 0 (mm_L0 28 [v1]) [] hp (mw_rv (fun v4 hp3 => mm_isr v4 = true ∧ mw_rc (.ref a0) 23 hp3 ∧ mm_R X d 23 0 (mm_L0 23 [(.ref a0), .int i1]) [] hp3 (mw_rv (fun v8 hp7 => mm_isr v8 = true ∧ mw_nl v4 (Q (some (.int (0 : Int32))) hp7) (mw_nl v8 (Q (some (.int (0 : Int32))) hp7) (mm_R X d 24 0 (mm_L0 24 [.int i2]) [] hp7 (mw_ri (fun x11 hp10 => ((¬ x11 = (0 : Int32) → mw_gv 7 5 v8 hp10 (fun v12 => mw_sv v12 i2 v4 hp10 (fun hp13 => Q (some (.int (1 : Int32))) hp13))) ∧ (x11 = (0 : Int32) → Q (some (.int (0 : Int32))) hp10)))))))))))) : mm_R X (d + 1) 27 0 (mm_L0 27 [(.ref a0), .int i1, .int i2]) [] hp Q := by
  show mm_R X (d + 1) 27 0 [some ((.ref a0)), some (.int i1), some (.int i2), none, none] [] hp Q
  refine mm_R.wgv (pc' := 1) (L' := [some ((.ref a0)), some (.int i1), some (.int i2), none, none]) (r := []) 1 rfl rfl (H.mono (fun v1 H => ?_))
  obtain ⟨hc2, H⟩ := H
  refine mm_R.cV (pc' := 4) (L' := [some ((.ref a0)), some (.int i1), some (.int i2), none, none]) (st1 := [v1]) (as := []) (rest := []) 0 rfl rfl (mw_sp rfl rfl (Nat.le_of_ble_eq_true rfl) (mw_ac (mw_c1 hc2.isr) mw_an) mw_an) rfl rfl hc2 (H.mono (fun o hp3 H => ?_))
  obtain ⟨v4, rfl, H⟩ := H
  obtain ⟨hr5, H⟩ := H
  refine mm_R.as (pc' := 7) (L' := [some ((.ref a0)), some (.int i1), some (.int i2), none, none]) (r := []) (v := v4) 0 rfl rfl rfl rfl hr5 ?_
  obtain ⟨hc6, H⟩ := H
  refine mm_R.cV (pc' := 10) (L' := [some ((.ref a0)), some (.int i1), some (.int i2), some (v4), none]) (st1 := [.int i1, (.ref a0)]) (as := [.int i1]) (rest := []) 2 rfl rfl (mw_sp rfl rfl (Nat.le_of_ble_eq_true rfl) (mw_ac rfl (mw_ac rfl mw_an)) mw_an) rfl rfl hc6 (H.mono (fun o hp7 H => ?_))
  obtain ⟨v8, rfl, H⟩ := H
  obtain ⟨hr9, H⟩ := H
  refine mm_R.as (pc' := 13) (L' := [some ((.ref a0)), some (.int i1), some (.int i2), some (v4), none]) (r := []) (v := v8) 0 rfl rfl rfl rfl hr9 ?_
  refine mm_R.al (pc' := 15) (L' := [some ((.ref a0)), some (.int i1), some (.int i2), some (v4), some (v8)]) (r := []) (v := v4) 0 rfl rfl rfl rfl hr5 ?_
  refine mm_R.wnl (pc' := 16) (L' := [some ((.ref a0)), some (.int i1), some (.int i2), some (v4), some (v8)]) (r := []) (v := v4) (t := 31) (u := 19) 0 rfl rfl rfl (H.mono (fun H => ?_) (fun H => ?_))
  · exact mm_R.rt (pc' := 32) (L' := [some ((.ref a0)), some (.int i1), some (.int i2), some (v4), some (v8)]) (st1 := [.int (0 : Int32)]) 1 rfl rfl rfl rfl rfl rfl H
  · refine mm_R.al (pc' := 19) (L' := [some ((.ref a0)), some (.int i1), some (.int i2), some (v4), some (v8)]) (r := []) (v := v8) 0 rfl rfl rfl rfl hr9 ?_
    refine mm_R.wnl (pc' := 21) (L' := [some ((.ref a0)), some (.int i1), some (.int i2), some (v4), some (v8)]) (r := []) (v := v8) (t := 31) (u := 24) 0 rfl rfl rfl (H.mono (fun H => ?_) (fun H => ?_))
    · exact mm_R.rt (pc' := 32) (L' := [some ((.ref a0)), some (.int i1), some (.int i2), some (v4), some (v8)]) (st1 := [.int (0 : Int32)]) 1 rfl rfl rfl rfl rfl rfl H
    · refine mm_R.cS (pc' := 25) (L' := [some ((.ref a0)), some (.int i1), some (.int i2), some (v4), some (v8)]) (st1 := [.int i2]) (as := [.int i2]) (rest := []) 1 rfl rfl (mw_sp rfl rfl (Nat.le_of_ble_eq_true rfl) (mw_ac rfl mw_an) mw_an) rfl rfl (H.mono (fun o hp10 H => ?_))
      obtain ⟨x11, rfl, H⟩ := H
      refine mm_R.br (L' := [some ((.ref a0)), some (.int i1), some (.int i2), some (v4), some (v8)]) (st' := []) (t := 33) (u := 31) (b := mm_cc .ne x11 (0 : Int32)) 1 rfl (fun c => ?_) (fun c => ?_)
      · replace H := H.1 (of_decide_eq_true c)
        refine mm_R.al (pc' := 33) (L' := [some ((.ref a0)), some (.int i1), some (.int i2), some (v4), some (v8)]) (r := []) (v := v8) 0 rfl rfl rfl rfl hr9 ?_
        refine mm_R.wgv (pc' := 35) (L' := [some ((.ref a0)), some (.int i1), some (.int i2), some (v4), some (v8)]) (r := []) 0 rfl rfl (H.mono (fun v12 H => ?_))
        refine mm_R.al (pc' := 39) (L' := [some ((.ref a0)), some (.int i1), some (.int i2), some (v4), some (v8)]) (r := [.int i2, v12]) (v := v4) 1 rfl rfl rfl rfl hr5 ?_
        refine mm_R.wsv (pc' := 40) (L' := [some ((.ref a0)), some (.int i1), some (.int i2), some (v4), some (v8)]) (r := []) 0 rfl rfl (H.mono (fun hp13 H => ?_))
        exact mm_R.rt (pc' := 42) (L' := [some ((.ref a0)), some (.int i1), some (.int i2), some (v4), some (v8)]) (st1 := [.int (1 : Int32)]) 1 rfl rfl rfl rfl rfl rfl H
      · replace H := H.2 (Decidable.of_not_not (of_decide_eq_false c))
        exact mm_R.rt (pc' := 32) (L' := [some ((.ref a0)), some (.int i1), some (.int i2), some (v4), some (v8)]) (st1 := [.int (0 : Int32)]) 1 rfl rfl rfl rfl rfl rfl H
-- StepRunner$Draft.takeValue, from 0
set_option maxRecDepth 10000 in
theorem w28_0 {X : List Int32} {d : Nat} {a0 : Nat} {hp : mm_H} {Q : Option Value → mm_H → Prop} (H : mw_pt 1 2 (.ref a0) (.int (0 : Int32)) hp (fun hp1 => mw_rc (.ref a0) 29 hp1 ∧ mm_R X d 29 0 (mm_L0 29 [(.ref a0), .int (1 : Int32)]) [] hp1 (mw_rv (fun v4 hp3 => mm_isr v4 = true ∧ mw_gi 1 2 (.ref a0) hp3 (fun x6 => mw_gi 1 1 (.ref a0) hp3 (fun x7 => ((¬ x6 = x7 → mw_pt 1 1 (.ref a0) (.int (0 : Int32)) hp3 (fun hp8 => (((0 : Int32) = (0 : Int32) → Q (some .null) hp8) ∧ (¬ (0 : Int32) = (0 : Int32) → mw_nr v4 ∧ Q (some v4) hp8)))) ∧ (x6 = x7 → mw_pt 1 1 (.ref a0) (.int (0 : Int32)) hp3 (fun hp9 => (((1 : Int32) = (0 : Int32) → Q (some .null) hp9) ∧ (¬ (1 : Int32) = (0 : Int32) → mw_nr v4 ∧ Q (some v4) hp9))))))))))) : mm_R X (d + 1) 28 0 (mm_L0 28 [(.ref a0)]) [] hp Q := by
  show mm_R X (d + 1) 28 0 [some ((.ref a0)), none, none] [] hp Q
  refine mm_R.wpt (pc' := 2) (L' := [some ((.ref a0)), none, none]) (r := []) 2 rfl rfl (H.mono (fun hp1 H => ?_))
  obtain ⟨hc2, H⟩ := H
  refine mm_R.cV (pc' := 7) (L' := [some ((.ref a0)), none, none]) (st1 := [.int (1 : Int32), (.ref a0)]) (as := [.int (1 : Int32)]) (rest := []) 2 rfl rfl (mw_sp rfl rfl (Nat.le_of_ble_eq_true rfl) (mw_ac rfl (mw_ac rfl mw_an)) mw_an) rfl rfl hc2 (H.mono (fun o hp3 H => ?_))
  obtain ⟨v4, rfl, H⟩ := H
  obtain ⟨hr5, H⟩ := H
  refine mm_R.as (pc' := 10) (L' := [some ((.ref a0)), none, none]) (r := []) (v := v4) 0 rfl rfl rfl rfl hr5 ?_
  refine mm_R.wgi (pc' := 12) (L' := [some ((.ref a0)), some (v4), none]) (r := []) 1 rfl rfl (H.mono (fun x6 H => ?_))
  refine mm_R.wgi (pc' := 16) (L' := [some ((.ref a0)), some (v4), none]) (r := [.int x6]) 1 rfl rfl (H.mono (fun x7 H => ?_))
  refine mm_R.br (L' := [some ((.ref a0)), some (v4), none]) (st' := []) (t := 26) (u := 22) (b := mm_cc .ne x6 x7) 1 rfl (fun c => ?_) (fun c => ?_)
  · replace H := H.1 (of_decide_eq_true c)
    refine mm_R.wpt (pc' := 30) (L' := [some ((.ref a0)), some (v4), some (.int (0 : Int32))]) (r := []) 4 rfl rfl (H.mono (fun hp8 H => ?_))
    refine mm_R.br (L' := [some ((.ref a0)), some (v4), some (.int (0 : Int32))]) (st' := []) (t := 41) (u := 37) (b := mm_cc .eq (0 : Int32) (0 : Int32)) 2 rfl (fun c => ?_) (fun c => ?_)
    · replace H := H.1 (of_decide_eq_true c)
      exact mm_R.rt (pc' := 42) (L' := [some ((.ref a0)), some (v4), some (.int (0 : Int32))]) (st1 := [.null]) 1 rfl rfl rfl rfl rfl rfl H
    · replace H := H.2 (of_decide_eq_false c)
      refine mm_R.al (pc' := 37) (L' := [some ((.ref a0)), some (v4), some (.int (0 : Int32))]) (r := []) (v := v4) 0 rfl rfl rfl rfl hr5 ?_
      exact mm_R.rt (pc' := 42) (L' := [some ((.ref a0)), some (v4), some (.int (0 : Int32))]) (st1 := [v4]) 1 rfl rfl rfl rfl rfl (mw_rva (ty := (.object "StepRunner$Value")) H.1 rfl) H.2
  · replace H := H.2 (Decidable.of_not_not (of_decide_eq_false c))
    refine mm_R.wpt (pc' := 30) (L' := [some ((.ref a0)), some (v4), some (.int (1 : Int32))]) (r := []) 5 rfl rfl (H.mono (fun hp9 H => ?_))
    refine mm_R.br (L' := [some ((.ref a0)), some (v4), some (.int (1 : Int32))]) (st' := []) (t := 41) (u := 37) (b := mm_cc .eq (1 : Int32) (0 : Int32)) 2 rfl (fun c => ?_) (fun c => ?_)
    · replace H := H.1 (of_decide_eq_true c)
      exact mm_R.rt (pc' := 42) (L' := [some ((.ref a0)), some (v4), some (.int (1 : Int32))]) (st1 := [.null]) 1 rfl rfl rfl rfl rfl rfl H
    · replace H := H.2 (of_decide_eq_false c)
      refine mm_R.al (pc' := 37) (L' := [some ((.ref a0)), some (v4), some (.int (1 : Int32))]) (r := []) (v := v4) 0 rfl rfl rfl rfl hr5 ?_
      exact mm_R.rt (pc' := 42) (L' := [some ((.ref a0)), some (v4), some (.int (1 : Int32))]) (st1 := [v4]) 1 rfl rfl rfl rfl rfl (mw_rva (ty := (.object "StepRunner$Value")) H.1 rfl) H.2
-- StepRunner$Draft.readValue, from 0
set_option maxRecDepth 10000 in
theorem w29_0 {X : List Int32} {d : Nat} {a0 : Nat} {i1 : Int32} {hp : mm_H} {Q : Option Value → mm_H → Prop} (H : mw_rc (.ref a0) 30 hp ∧ mm_R X d 30 0 (mm_L0 30 [(.ref a0)]) [] hp (mw_ri (fun x3 hp2 => ((¬ x3 = (91 : Int32) → ((¬ x3 = (34 : Int32) → ((¬ x3 = (110 : Int32) → mw_rc (.ref a0) 36 hp2 ∧ mm_R X d 36 0 (mm_L0 36 [(.ref a0)]) [] hp2 (mw_rv (fun v6 hp5 => mw_nr v6 ∧ Q (some v6) hp5))) ∧ (x3 = (110 : Int32) → mw_rc (.ref a0) 35 hp2 ∧ mm_R X d 35 0 (mm_L0 35 [(.ref a0)]) [] hp2 (mw_rv (fun v9 hp8 => mw_nr v9 ∧ Q (some v9) hp8))))) ∧ (x3 = (34 : Int32) → mw_rc (.ref a0) 33 hp2 ∧ mm_R X d 33 0 (mm_L0 33 [(.ref a0)]) [] hp2 (mw_rv (fun v12 hp11 => mw_nr v12 ∧ Q (some v12) hp11))))) ∧ (x3 = (91 : Int32) → (((3 : Int32) < i1 → Q (some .null) hp2) ∧ (¬ (3 : Int32) < i1 → mw_rc (.ref a0) 31 hp2 ∧ mm_R X d 31 0 (mm_L0 31 [(.ref a0), .int i1]) [] hp2 (mw_rv (fun v15 hp14 => mw_nr v15 ∧ Q (some v15) hp14))))))))) : mm_R X (d + 1) 29 0 (mm_L0 29 [(.ref a0), .int i1]) [] hp Q := by
  show mm_R X (d + 1) 29 0 [some ((.ref a0)), some (.int i1), none] [] hp Q
  obtain ⟨hc1, H⟩ := H
  refine mm_R.cV (pc' := 1) (L' := [some ((.ref a0)), some (.int i1), none]) (st1 := [(.ref a0)]) (as := []) (rest := []) 1 rfl rfl (mw_sp rfl rfl (Nat.le_of_ble_eq_true rfl) (mw_ac rfl mw_an) mw_an) rfl rfl hc1 (H.mono (fun o hp2 H => ?_))
  obtain ⟨x3, rfl, H⟩ := H
  refine mm_R.br (L' := [some ((.ref a0)), some (.int i1), some (.int x3)]) (st' := []) (t := 26) (u := 11) (b := mm_cc .ne x3 (91 : Int32)) 4 rfl (fun c => ?_) (fun c => ?_)
  · replace H := H.1 (of_decide_eq_true c)
    refine mm_R.br (L' := [some ((.ref a0)), some (.int i1), some (.int x3)]) (st' := []) (t := 37) (u := 32) (b := mm_cc .ne x3 (34 : Int32)) 3 rfl (fun c => ?_) (fun c => ?_)
    · replace H := H.1 (of_decide_eq_true c)
      refine mm_R.br (L' := [some ((.ref a0)), some (.int i1), some (.int x3)]) (st' := []) (t := 50) (u := 43) (b := mm_cc .ne x3 (110 : Int32)) 3 rfl (fun c => ?_) (fun c => ?_)
      · replace H := H.1 (of_decide_eq_true c)
        obtain ⟨hc4, H⟩ := H
        refine mm_R.cV (pc' := 51) (L' := [some ((.ref a0)), some (.int i1), some (.int x3)]) (st1 := [(.ref a0)]) (as := []) (rest := []) 1 rfl rfl (mw_sp rfl rfl (Nat.le_of_ble_eq_true rfl) (mw_ac rfl mw_an) mw_an) rfl rfl hc4 (H.mono (fun o hp5 H => ?_))
        obtain ⟨v6, rfl, H⟩ := H
        exact mm_R.rt (pc' := 54) (L' := [some ((.ref a0)), some (.int i1), some (.int x3)]) (st1 := [v6]) 0 rfl rfl rfl rfl rfl (mw_rva (ty := (.object "StepRunner$Value")) H.1 rfl) H.2
      · replace H := H.2 (Decidable.of_not_not (of_decide_eq_false c))
        obtain ⟨hc7, H⟩ := H
        refine mm_R.cV (pc' := 44) (L' := [some ((.ref a0)), some (.int i1), some (.int x3)]) (st1 := [(.ref a0)]) (as := []) (rest := []) 1 rfl rfl (mw_sp rfl rfl (Nat.le_of_ble_eq_true rfl) (mw_ac rfl mw_an) mw_an) rfl rfl hc7 (H.mono (fun o hp8 H => ?_))
        obtain ⟨v9, rfl, H⟩ := H
        exact mm_R.rt (pc' := 54) (L' := [some ((.ref a0)), some (.int i1), some (.int x3)]) (st1 := [v9]) 1 rfl rfl rfl rfl rfl (mw_rva (ty := (.object "StepRunner$Value")) H.1 rfl) H.2
    · replace H := H.2 (Decidable.of_not_not (of_decide_eq_false c))
      obtain ⟨hc10, H⟩ := H
      refine mm_R.cV (pc' := 33) (L' := [some ((.ref a0)), some (.int i1), some (.int x3)]) (st1 := [(.ref a0)]) (as := []) (rest := []) 1 rfl rfl (mw_sp rfl rfl (Nat.le_of_ble_eq_true rfl) (mw_ac rfl mw_an) mw_an) rfl rfl hc10 (H.mono (fun o hp11 H => ?_))
      obtain ⟨v12, rfl, H⟩ := H
      exact mm_R.rt (pc' := 36) (L' := [some ((.ref a0)), some (.int i1), some (.int x3)]) (st1 := [v12]) 0 rfl rfl rfl rfl rfl (mw_rva (ty := (.object "StepRunner$Value")) H.1 rfl) H.2
  · replace H := H.2 (Decidable.of_not_not (of_decide_eq_false c))
    refine mm_R.br (L' := [some ((.ref a0)), some (.int i1), some (.int x3)]) (st' := []) (t := 24) (u := 16) (b := mm_cc .gt i1 (3 : Int32)) 3 rfl (fun c => ?_) (fun c => ?_)
    · replace H := H.1 (of_decide_eq_true c)
      exact mm_R.rt (pc' := 25) (L' := [some ((.ref a0)), some (.int i1), some (.int x3)]) (st1 := [.null]) 1 rfl rfl rfl rfl rfl rfl H
    · replace H := H.2 (of_decide_eq_false c)
      obtain ⟨hc13, H⟩ := H
      refine mm_R.cV (pc' := 18) (L' := [some ((.ref a0)), some (.int i1), some (.int x3)]) (st1 := [.int i1, (.ref a0)]) (as := [.int i1]) (rest := []) 2 rfl rfl (mw_sp rfl rfl (Nat.le_of_ble_eq_true rfl) (mw_ac rfl (mw_ac rfl mw_an)) mw_an) rfl rfl hc13 (H.mono (fun o hp14 H => ?_))
      obtain ⟨v15, rfl, H⟩ := H
      exact mm_R.rt (pc' := 25) (L' := [some ((.ref a0)), some (.int i1), some (.int x3)]) (st1 := [v15]) 1 rfl rfl rfl rfl rfl (mw_rva (ty := (.object "StepRunner$Value")) H.1 rfl) H.2
-- StepRunner$Draft.peek, from 0
set_option maxRecDepth 10000 in
theorem w30_0 {X : List Int32} {d : Nat} {a0 : Nat} {hp : mm_H} {Q : Option Value → mm_H → Prop} (H : mw_gi 1 2 (.ref a0) hp (fun x1 => ((x1 < (0 : Int32) → Q (some (.int (0 : Int32))) hp) ∧ (¬ x1 < (0 : Int32) → mw_gi 1 2 (.ref a0) hp (fun x2 => mw_gi 1 1 (.ref a0) hp (fun x3 => ((x3 ≤ x2 → Q (some (.int (0 : Int32))) hp) ∧ (¬ x3 ≤ x2 → mw_gi 1 2 (.ref a0) hp (fun x4 => mw_gv 1 0 (.ref a0) hp (fun v5 => mw_ln v5 hp (fun x6 => ((x6 ≤ x4 → Q (some (.int (0 : Int32))) hp) ∧ (¬ x6 ≤ x4 → mw_gv 1 0 (.ref a0) hp (fun v7 => mw_gi 1 2 (.ref a0) hp (fun x8 => mw_ai 1001 v7 x8 hp (fun x9 => mm_fv .char (.int x9) = true ∧ Q (some (.int x9)) hp)))))))))))))))) : mm_R X (d + 1) 30 0 (mm_L0 30 [(.ref a0)]) [] hp Q := by
  show mm_R X (d + 1) 30 0 [some ((.ref a0))] [] hp Q
  refine mm_R.wgi (pc' := 1) (L' := [some ((.ref a0))]) (r := []) 1 rfl rfl (H.mono (fun x1 H => ?_))
  refine mm_R.br (L' := [some ((.ref a0))]) (st' := []) (t := 42) (u := 7) (b := mm_cc .lt x1 (0 : Int32)) 1 rfl (fun c => ?_) (fun c => ?_)
  · replace H := H.1 (of_decide_eq_true c)
    exact mm_R.rt (pc' := 43) (L' := [some ((.ref a0))]) (st1 := [.int (0 : Int32)]) 1 rfl rfl rfl rfl rfl rfl H
  · replace H := H.2 (of_decide_eq_false c)
    refine mm_R.wgi (pc' := 8) (L' := [some ((.ref a0))]) (r := []) 1 rfl rfl (H.mono (fun x2 H => ?_))
    refine mm_R.wgi (pc' := 12) (L' := [some ((.ref a0))]) (r := [.int x2]) 1 rfl rfl (H.mono (fun x3 H => ?_))
    refine mm_R.br (L' := [some ((.ref a0))]) (st' := []) (t := 42) (u := 18) (b := mm_cc .ge x2 x3) 1 rfl (fun c => ?_) (fun c => ?_)
    · replace H := H.1 (of_decide_eq_true c)
      exact mm_R.rt (pc' := 43) (L' := [some ((.ref a0))]) (st1 := [.int (0 : Int32)]) 1 rfl rfl rfl rfl rfl rfl H
    · replace H := H.2 (of_decide_eq_false c)
      refine mm_R.wgi (pc' := 19) (L' := [some ((.ref a0))]) (r := []) 1 rfl rfl (H.mono (fun x4 H => ?_))
      refine mm_R.wgv (pc' := 23) (L' := [some ((.ref a0))]) (r := [.int x4]) 1 rfl rfl (H.mono (fun v5 H => ?_))
      refine mm_R.wln (pc' := 26) (L' := [some ((.ref a0))]) (r := [.int x4]) 0 rfl rfl (H.mono (fun x6 H => ?_))
      refine mm_R.br (L' := [some ((.ref a0))]) (st' := []) (t := 42) (u := 30) (b := mm_cc .ge x4 x6) 1 rfl (fun c => ?_) (fun c => ?_)
      · replace H := H.1 (of_decide_eq_true c)
        exact mm_R.rt (pc' := 43) (L' := [some ((.ref a0))]) (st1 := [.int (0 : Int32)]) 1 rfl rfl rfl rfl rfl rfl H
      · replace H := H.2 (of_decide_eq_false c)
        refine mm_R.wgv (pc' := 31) (L' := [some ((.ref a0))]) (r := []) 1 rfl rfl (H.mono (fun v7 H => ?_))
        refine mm_R.wgi (pc' := 35) (L' := [some ((.ref a0))]) (r := [v7]) 1 rfl rfl (H.mono (fun x8 H => ?_))
        refine mm_R.wai (pc' := 38) (L' := [some ((.ref a0))]) (r := []) (t := 1001) 0 rfl rfl rfl rfl (H.mono (fun x9 H => ?_))
        exact mm_R.rt (pc' := 43) (L' := [some ((.ref a0))]) (st1 := [.int x9]) 1 rfl rfl rfl rfl rfl (mw_rvi (ty := .char) H.1) H.2
-- StepRunner$Draft.readList, from 0
set_option maxRecDepth 10000 in
theorem w31_0 {X : List Int32} {d : Nat} {a0 : Nat} {i1 : Int32} {hp : mm_H} {Q : Option Value → mm_H → Prop} (H : mm_R X d 9 0 (mm_L0 9 [.int (8 : Int32)]) [] hp (mw_rv (fun v2 hp1 => mm_isr v2 = true ∧ mw_gi 1 2 (.ref a0) hp1 (fun x4 => mw_pt 1 2 (.ref a0) (.int (x4 + (1 : Int32))) hp1 (fun hp5 => mw_rc (.ref a0) 30 hp5 ∧ mm_R X d 30 0 (mm_L0 30 [(.ref a0)]) [] hp5 (mw_ri (fun x8 hp7 => ((¬ x8 = (93 : Int32) → mm_R X (d + 1) 31 39 [some ((.ref a0)), some (.int i1), some (v2), some (.int (0 : Int32)), none] [] hp7 Q) ∧ (x8 = (93 : Int32) → mw_gi 1 2 (.ref a0) hp7 (fun x9 => mw_pt 1 2 (.ref a0) (.int (x9 + (1 : Int32))) hp7 (fun hp10 => mw_nr v2 ∧ Q (some v2) hp10))))))))))) : mm_R X (d + 1) 31 0 (mm_L0 31 [(.ref a0), .int i1]) [] hp Q := by
  show mm_R X (d + 1) 31 0 [some ((.ref a0)), some (.int i1), none, none, none] [] hp Q
  refine mm_R.cS (pc' := 2) (L' := [some ((.ref a0)), some (.int i1), none, none, none]) (st1 := [.int (8 : Int32)]) (as := [.int (8 : Int32)]) (rest := []) 1 rfl rfl (mw_sp rfl rfl (Nat.le_of_ble_eq_true rfl) (mw_ac rfl mw_an) mw_an) rfl rfl (H.mono (fun o hp1 H => ?_))
  obtain ⟨v2, rfl, H⟩ := H
  obtain ⟨hr3, H⟩ := H
  refine mm_R.as (pc' := 5) (L' := [some ((.ref a0)), some (.int i1), none, none, none]) (r := []) (v := v2) 0 rfl rfl rfl rfl hr3 ?_
  refine mm_R.wgi (pc' := 8) (L' := [some ((.ref a0)), some (.int i1), some (v2), none, none]) (r := [(.ref a0)]) 2 rfl rfl (H.mono (fun x4 H => ?_))
  refine mm_R.wpt (pc' := 13) (L' := [some ((.ref a0)), some (.int i1), some (v2), none, none]) (r := []) 2 rfl rfl (H.mono (fun hp5 H => ?_))
  obtain ⟨hc6, H⟩ := H
  refine mm_R.cV (pc' := 17) (L' := [some ((.ref a0)), some (.int i1), some (v2), none, none]) (st1 := [(.ref a0)]) (as := []) (rest := []) 1 rfl rfl (mw_sp rfl rfl (Nat.le_of_ble_eq_true rfl) (mw_ac rfl mw_an) mw_an) rfl rfl hc6 (H.mono (fun o hp7 H => ?_))
  obtain ⟨x8, rfl, H⟩ := H
  refine mm_R.br (L' := [some ((.ref a0)), some (.int i1), some (v2), none, none]) (st' := []) (t := 37) (u := 25) (b := mm_cc .ne x8 (93 : Int32)) 2 rfl (fun c => ?_) (fun c => ?_)
  · replace H := H.1 (of_decide_eq_true c)
    exact mm_R.pn (pc' := 39) (L' := [some ((.ref a0)), some (.int i1), some (v2), some (.int (0 : Int32)), none]) (st' := []) 2 rfl H
  · replace H := H.2 (Decidable.of_not_not (of_decide_eq_false c))
    refine mm_R.wgi (pc' := 27) (L' := [some ((.ref a0)), some (.int i1), some (v2), none, none]) (r := [(.ref a0)]) 2 rfl rfl (H.mono (fun x9 H => ?_))
    refine mm_R.wpt (pc' := 32) (L' := [some ((.ref a0)), some (.int i1), some (v2), none, none]) (r := []) 2 rfl rfl (H.mono (fun hp10 H => ?_))
    refine mm_R.al (pc' := 35) (L' := [some ((.ref a0)), some (.int i1), some (v2), none, none]) (r := []) (v := v2) 0 rfl rfl rfl rfl hr3 ?_
    exact mm_R.rt (pc' := 36) (L' := [some ((.ref a0)), some (.int i1), some (v2), none, none]) (st1 := [v2]) 0 rfl rfl rfl rfl rfl (mw_rva (ty := (.object "StepRunner$Value")) H.1 rfl) H.2
-- StepRunner$Draft.readList, from 39
set_option maxRecDepth 10000 in
theorem w31_39 {X : List Int32} {d : Nat} {a0 : Nat} {i1 : Int32} {r2 : Value} {i3 : Int32} {o4 : Option Value} {hp : mm_H} {Q : Option Value → mm_H → Prop} (H : (((8 : Int32) ≤ i3 → Q (some .null) hp) ∧ (¬ (8 : Int32) ≤ i3 → mm_isr r2 = true ∧ mw_rc (.ref a0) 29 hp ∧ mm_R X d 29 0 (mm_L0 29 [(.ref a0), .int (i1 + (1 : Int32))]) [] hp (mw_rv (fun v4 hp3 => mw_rc r2 32 hp3 ∧ mm_isr v4 = true ∧ mm_R X d 32 0 (mm_L0 32 [r2, v4]) [] hp3 (mw_ri (fun x8 hp7 => ((¬ x8 = (0 : Int32) → mw_rc (.ref a0) 30 hp7 ∧ mm_R X d 30 0 (mm_L0 30 [(.ref a0)]) [] hp7 (mw_ri (fun x11 hp10 => mw_gi 1 2 (.ref a0) hp10 (fun x12 => mw_pt 1 2 (.ref a0) (.int (x12 + (1 : Int32))) hp10 (fun hp13 => ((¬ x11 = (93 : Int32) → ((x11 = (44 : Int32) → mm_R X (d + 1) 31 39 [some ((.ref a0)), some (.int i1), some (r2), some (.int (i3 + (1 : Int32))), some (.int x11)] [] hp13 Q) ∧ (¬ x11 = (44 : Int32) → Q (some .null) hp13))) ∧ (x11 = (93 : Int32) → mw_nr r2 ∧ Q (some r2) hp13))))))) ∧ (x8 = (0 : Int32) → Q (some .null) hp7))))))))) : mm_R X (d + 1) 31 39 [some ((.ref a0)), some (.int i1), some (r2), some (.int i3), o4] [] hp Q := by
  refine mm_R.br (L' := [some ((.ref a0)), some (.int i1), some (r2), some (.int i3), o4]) (st' := []) (t := 101) (u := 45) (b := mm_cc .ge i3 (8 : Int32)) 3 rfl (fun c => ?_) (fun c => ?_)
  · replace H := H.1 (of_decide_eq_true c)
    exact mm_R.rt (pc' := 102) (L' := [some ((.ref a0)), some (.int i1), some (r2), some (.int i3), o4]) (st1 := [.null]) 1 rfl rfl rfl rfl rfl rfl H
  · replace H := H.2 (of_decide_eq_false c)
    obtain ⟨hr1, H⟩ := H
    refine mm_R.al (pc' := 45) (L' := [some ((.ref a0)), some (.int i1), some (r2), some (.int i3), o4]) (r := []) (v := r2) 0 rfl rfl rfl rfl hr1 ?_
    obtain ⟨hc2, H⟩ := H
    refine mm_R.cV (pc' := 50) (L' := [some ((.ref a0)), some (.int i1), some (r2), some (.int i3), o4]) (st1 := [.int (i1 + (1 : Int32)), (.ref a0), r2]) (as := [.int (i1 + (1 : Int32))]) (rest := [r2]) 4 rfl rfl (mw_sp rfl rfl (Nat.le_of_ble_eq_true rfl) (mw_ac rfl (mw_ac rfl mw_an)) (mw_ac (mw_c1 hr1) mw_an)) rfl rfl hc2 (H.mono (fun o hp3 H => ?_))
    obtain ⟨v4, rfl, H⟩ := H
    obtain ⟨hc5, H⟩ := H
    obtain ⟨hr6, H⟩ := H
    refine mm_R.cV (pc' := 53) (L' := [some ((.ref a0)), some (.int i1), some (r2), some (.int i3), o4]) (st1 := [v4, r2]) (as := [v4]) (rest := []) 0 rfl rfl (mw_sp rfl rfl (Nat.le_of_ble_eq_true rfl) (mw_ac (mw_c1 hc5.isr) (mw_ac (mw_c1 hr6) mw_an)) mw_an) rfl rfl hc5 (H.mono (fun o hp7 H => ?_))
    obtain ⟨x8, rfl, H⟩ := H
    refine mm_R.br (L' := [some ((.ref a0)), some (.int i1), some (r2), some (.int i3), o4]) (st' := []) (t := 61) (u := 59) (b := mm_cc .ne x8 (0 : Int32)) 1 rfl (fun c => ?_) (fun c => ?_)
    · replace H := H.1 (of_decide_eq_true c)
      obtain ⟨hc9, H⟩ := H
      refine mm_R.cV (pc' := 62) (L' := [some ((.ref a0)), some (.int i1), some (r2), some (.int i3), o4]) (st1 := [(.ref a0)]) (as := []) (rest := []) 1 rfl rfl (mw_sp rfl rfl (Nat.le_of_ble_eq_true rfl) (mw_ac rfl mw_an) mw_an) rfl rfl hc9 (H.mono (fun o hp10 H => ?_))
      obtain ⟨x11, rfl, H⟩ := H
      refine mm_R.wgi (pc' := 69) (L' := [some ((.ref a0)), some (.int i1), some (r2), some (.int i3), some (.int x11)]) (r := [(.ref a0)]) 3 rfl rfl (H.mono (fun x12 H => ?_))
      refine mm_R.wpt (pc' := 74) (L' := [some ((.ref a0)), some (.int i1), some (r2), some (.int i3), some (.int x11)]) (r := []) 2 rfl rfl (H.mono (fun hp13 H => ?_))
      refine mm_R.br (L' := [some ((.ref a0)), some (.int i1), some (r2), some (.int i3), some (.int x11)]) (st' := []) (t := 86) (u := 84) (b := mm_cc .ne x11 (93 : Int32)) 3 rfl (fun c => ?_) (fun c => ?_)
      · replace H := H.1 (of_decide_eq_true c)
        refine mm_R.br (L' := [some ((.ref a0)), some (.int i1), some (r2), some (.int i3), some (.int x11)]) (st' := []) (t := 95) (u := 93) (b := mm_cc .eq x11 (44 : Int32)) 3 rfl (fun c => ?_) (fun c => ?_)
        · replace H := H.1 (of_decide_eq_true c)
          exact mm_R.pn (pc' := 39) (L' := [some ((.ref a0)), some (.int i1), some (r2), some (.int (i3 + (1 : Int32))), some (.int x11)]) (st' := []) 2 rfl H
        · replace H := H.2 (of_decide_eq_false c)
          exact mm_R.rt (pc' := 94) (L' := [some ((.ref a0)), some (.int i1), some (r2), some (.int i3), some (.int x11)]) (st1 := [.null]) 1 rfl rfl rfl rfl rfl rfl H
      · replace H := H.2 (Decidable.of_not_not (of_decide_eq_false c))
        refine mm_R.al (pc' := 84) (L' := [some ((.ref a0)), some (.int i1), some (r2), some (.int i3), some (.int x11)]) (r := []) (v := r2) 0 rfl rfl rfl rfl hc5.isr ?_
        exact mm_R.rt (pc' := 85) (L' := [some ((.ref a0)), some (.int i1), some (r2), some (.int i3), some (.int x11)]) (st1 := [r2]) 0 rfl rfl rfl rfl rfl (mw_rva (ty := (.object "StepRunner$Value")) H.1 rfl) H.2
    · replace H := H.2 (Decidable.of_not_not (of_decide_eq_false c))
      exact mm_R.rt (pc' := 60) (L' := [some ((.ref a0)), some (.int i1), some (r2), some (.int i3), o4]) (st1 := [.null]) 1 rfl rfl rfl rfl rfl rfl H
-- StepRunner$Value.addItem, from 0
set_option maxRecDepth 10000 in
theorem w32_0 {X : List Int32} {d : Nat} {a0 : Nat} {r1 : Value} {hp : mm_H} {Q : Option Value → mm_H → Prop} (H : mw_gi 2 2 (.ref a0) hp (fun x1 => ((¬ x1 = (3 : Int32) → Q (some (.int (0 : Int32))) hp) ∧ (x1 = (3 : Int32) → mw_gv 2 1 (.ref a0) hp (fun v2 => mw_nl v2 (Q (some (.int (0 : Int32))) hp) (mw_gi 2 4 (.ref a0) hp (fun x3 => mw_gv 2 1 (.ref a0) hp (fun v4 => mw_ln v4 hp (fun x5 => ((x5 ≤ x3 → Q (some (.int (0 : Int32))) hp) ∧ (¬ x5 ≤ x3 → mw_gi 2 4 (.ref a0) hp (fun x6 => ((x6 < (8 : Int32) → mm_isr r1 = true ∧ mw_nl r1 (Q (some (.int (0 : Int32))) hp) (mw_gi 2 5 r1 hp (fun x8 => ((x8 < (3 : Int32) → mw_gv 2 1 (.ref a0) hp (fun v9 => mw_gi 2 4 (.ref a0) hp (fun x10 => mw_sv v9 x10 r1 hp (fun hp11 => mw_gi 2 6 (.ref a0) hp11 (fun x12 => mw_gi 2 6 r1 hp11 (fun x13 => mw_gi 2 4 (.ref a0) hp11 (fun x14 => ((x14 ≤ (0 : Int32) → mm_R X (d + 1) 32 83 [some ((.ref a0)), some (r1)] [.int (0 : Int32), .int x13, .int x12, (.ref a0)] hp11 Q) ∧ (¬ x14 ≤ (0 : Int32) → mm_R X (d + 1) 32 83 [some ((.ref a0)), some (r1)] [.int (1 : Int32), .int x13, .int x12, (.ref a0)] hp11 Q))))))))) ∧ (¬ x8 < (3 : Int32) → Q (some (.int (0 : Int32))) hp))))) ∧ (¬ x6 < (8 : Int32) → Q (some (.int (0 : Int32))) hp)))))))))))))) : mm_R X (d + 1) 32 0 (mm_L0 32 [(.ref a0), r1]) [] hp Q := by
  show mm_R X (d + 1) 32 0 [some ((.ref a0)), some (r1)] [] hp Q
  refine mm_R.wgi (pc' := 1) (L' := [some ((.ref a0)), some (r1)]) (r := []) 1 rfl rfl (H.mono (fun x1 H => ?_))
  refine mm_R.br (L' := [some ((.ref a0)), some (r1)]) (st' := []) (t := 36) (u := 8) (b := mm_cc .ne x1 (3 : Int32)) 2 rfl (fun c => ?_) (fun c => ?_)
  · replace H := H.1 (of_decide_eq_true c)
    exact mm_R.rt (pc' := 37) (L' := [some ((.ref a0)), some (r1)]) (st1 := [.int (0 : Int32)]) 1 rfl rfl rfl rfl rfl rfl H
  · replace H := H.2 (Decidable.of_not_not (of_decide_eq_false c))
    refine mm_R.wgv (pc' := 9) (L' := [some ((.ref a0)), some (r1)]) (r := []) 1 rfl rfl (H.mono (fun v2 H => ?_))
    refine mm_R.wnl (pc' := 12) (L' := [some ((.ref a0)), some (r1)]) (r := []) (v := v2) (t := 36) (u := 15) 0 rfl rfl rfl (H.mono (fun H => ?_) (fun H => ?_))
    · exact mm_R.rt (pc' := 37) (L' := [some ((.ref a0)), some (r1)]) (st1 := [.int (0 : Int32)]) 1 rfl rfl rfl rfl rfl rfl H
    · refine mm_R.wgi (pc' := 16) (L' := [some ((.ref a0)), some (r1)]) (r := []) 1 rfl rfl (H.mono (fun x3 H => ?_))
      refine mm_R.wgv (pc' := 20) (L' := [some ((.ref a0)), some (r1)]) (r := [.int x3]) 1 rfl rfl (H.mono (fun v4 H => ?_))
      refine mm_R.wln (pc' := 23) (L' := [some ((.ref a0)), some (r1)]) (r := [.int x3]) 0 rfl rfl (H.mono (fun x5 H => ?_))
      refine mm_R.br (L' := [some ((.ref a0)), some (r1)]) (st' := []) (t := 36) (u := 27) (b := mm_cc .ge x3 x5) 1 rfl (fun c => ?_) (fun c => ?_)
      · replace H := H.1 (of_decide_eq_true c)
        exact mm_R.rt (pc' := 37) (L' := [some ((.ref a0)), some (r1)]) (st1 := [.int (0 : Int32)]) 1 rfl rfl rfl rfl rfl rfl H
      · replace H := H.2 (of_decide_eq_false c)
        refine mm_R.wgi (pc' := 28) (L' := [some ((.ref a0)), some (r1)]) (r := []) 1 rfl rfl (H.mono (fun x6 H => ?_))
        refine mm_R.br (L' := [some ((.ref a0)), some (r1)]) (st' := []) (t := 38) (u := 36) (b := mm_cc .lt x6 (8 : Int32)) 2 rfl (fun c => ?_) (fun c => ?_)
        · replace H := H.1 (of_decide_eq_true c)
          obtain ⟨hr7, H⟩ := H
          refine mm_R.al (pc' := 38) (L' := [some ((.ref a0)), some (r1)]) (r := []) (v := r1) 0 rfl rfl rfl rfl hr7 ?_
          refine mm_R.wnl (pc' := 39) (L' := [some ((.ref a0)), some (r1)]) (r := []) (v := r1) (t := 50) (u := 42) 0 rfl rfl rfl (H.mono (fun H => ?_) (fun H => ?_))
          · exact mm_R.rt (pc' := 51) (L' := [some ((.ref a0)), some (r1)]) (st1 := [.int (0 : Int32)]) 1 rfl rfl rfl rfl rfl rfl H
          · refine mm_R.al (pc' := 42) (L' := [some ((.ref a0)), some (r1)]) (r := []) (v := r1) 0 rfl rfl rfl rfl hr7 ?_
            refine mm_R.wgi (pc' := 43) (L' := [some ((.ref a0)), some (r1)]) (r := []) 0 rfl rfl (H.mono (fun x8 H => ?_))
            refine mm_R.br (L' := [some ((.ref a0)), some (r1)]) (st' := []) (t := 52) (u := 50) (b := mm_cc .lt x8 (3 : Int32)) 2 rfl (fun c => ?_) (fun c => ?_)
            · replace H := H.1 (of_decide_eq_true c)
              refine mm_R.wgv (pc' := 53) (L' := [some ((.ref a0)), some (r1)]) (r := []) 1 rfl rfl (H.mono (fun v9 H => ?_))
              refine mm_R.wgi (pc' := 57) (L' := [some ((.ref a0)), some (r1)]) (r := [v9]) 1 rfl rfl (H.mono (fun x10 H => ?_))
              refine mm_R.al (pc' := 60) (L' := [some ((.ref a0)), some (r1)]) (r := [.int x10, v9]) (v := r1) 0 rfl rfl rfl rfl hr7 ?_
              refine mm_R.wsv (pc' := 61) (L' := [some ((.ref a0)), some (r1)]) (r := []) 0 rfl rfl (H.mono (fun hp11 H => ?_))
              refine mm_R.wgi (pc' := 64) (L' := [some ((.ref a0)), some (r1)]) (r := [(.ref a0)]) 2 rfl rfl (H.mono (fun x12 H => ?_))
              refine mm_R.al (pc' := 67) (L' := [some ((.ref a0)), some (r1)]) (r := [.int x12, (.ref a0)]) (v := r1) 0 rfl rfl rfl rfl hr7 ?_
              refine mm_R.wgi (pc' := 68) (L' := [some ((.ref a0)), some (r1)]) (r := [.int x12, (.ref a0)]) 0 rfl rfl (H.mono (fun x13 H => ?_))
              refine mm_R.wgi (pc' := 72) (L' := [some ((.ref a0)), some (r1)]) (r := [.int x13, .int x12, (.ref a0)]) 1 rfl rfl (H.mono (fun x14 H => ?_))
              refine mm_R.br (L' := [some ((.ref a0)), some (r1)]) (st' := [.int x13, .int x12, (.ref a0)]) (t := 82) (u := 78) (b := mm_cc .le x14 (0 : Int32)) 1 rfl (fun c => ?_) (fun c => ?_)
              · replace H := H.1 (of_decide_eq_true c)
                exact mm_R.pn (pc' := 83) (L' := [some ((.ref a0)), some (r1)]) (st' := [.int (0 : Int32), .int x13, .int x12, (.ref a0)]) 1 rfl H
              · replace H := H.2 (of_decide_eq_false c)
                exact mm_R.pn (pc' := 83) (L' := [some ((.ref a0)), some (r1)]) (st' := [.int (1 : Int32), .int x13, .int x12, (.ref a0)]) 2 rfl H
            · replace H := H.2 (of_decide_eq_false c)
              exact mm_R.rt (pc' := 51) (L' := [some ((.ref a0)), some (r1)]) (st1 := [.int (0 : Int32)]) 1 rfl rfl rfl rfl rfl rfl H
        · replace H := H.2 (of_decide_eq_false c)
          exact mm_R.rt (pc' := 37) (L' := [some ((.ref a0)), some (r1)]) (st1 := [.int (0 : Int32)]) 1 rfl rfl rfl rfl rfl rfl H
-- StepRunner$Value.addItem, from 83
set_option maxRecDepth 10000 in
theorem w32_83 {X : List Int32} {d : Nat} {a0 : Nat} {r1 : Value} {s0 : Int32} {s1 : Int32} {s2 : Int32} {hp : mm_H} {Q : Option Value → mm_H → Prop} (H : mw_pt 2 6 (.ref a0) (.int (s2 + (s1 + s0))) hp (fun hp1 => mw_gi 2 4 (.ref a0) hp1 (fun x2 => mw_pt 2 4 (.ref a0) (.int (x2 + (1 : Int32))) hp1 (fun hp3 => mm_isr r1 = true ∧ mw_gi 2 5 r1 hp3 (fun x5 => mw_gi 2 5 (.ref a0) hp3 (fun x6 => ((x5 < x6 → mw_gi 2 5 (.ref a0) hp3 (fun x7 => mw_pt 2 5 (.ref a0) (.int x7) hp3 (fun hp8 => Q (some (.int (1 : Int32))) hp8))) ∧ (¬ x5 < x6 → mw_gi 2 5 r1 hp3 (fun x9 => mw_pt 2 5 (.ref a0) (.int (x9 + (1 : Int32))) hp3 (fun hp10 => Q (some (.int (1 : Int32))) hp10)))))))))) : mm_R X (d + 1) 32 83 [some ((.ref a0)), some (r1)] [.int s0, .int s1, .int s2, (.ref a0)] hp Q := by
  refine mm_R.wpt (pc' := 85) (L' := [some ((.ref a0)), some (r1)]) (r := []) 2 rfl rfl (H.mono (fun hp1 H => ?_))
  refine mm_R.wgi (pc' := 90) (L' := [some ((.ref a0)), some (r1)]) (r := [(.ref a0)]) 2 rfl rfl (H.mono (fun x2 H => ?_))
  refine mm_R.wpt (pc' := 95) (L' := [some ((.ref a0)), some (r1)]) (r := []) 2 rfl rfl (H.mono (fun hp3 H => ?_))
  obtain ⟨hr4, H⟩ := H
  refine mm_R.al (pc' := 99) (L' := [some ((.ref a0)), some (r1)]) (r := [(.ref a0)]) (v := r1) 1 rfl rfl rfl rfl hr4 ?_
  refine mm_R.wgi (pc' := 100) (L' := [some ((.ref a0)), some (r1)]) (r := [(.ref a0)]) 0 rfl rfl (H.mono (fun x5 H => ?_))
  refine mm_R.wgi (pc' := 104) (L' := [some ((.ref a0)), some (r1)]) (r := [.int x5, (.ref a0)]) 1 rfl rfl (H.mono (fun x6 H => ?_))
  refine mm_R.br (L' := [some ((.ref a0)), some (r1)]) (st' := [(.ref a0)]) (t := 119) (u := 110) (b := mm_cc .lt x5 x6) 1 rfl (fun c => ?_) (fun c => ?_)
  · replace H := H.1 (of_decide_eq_true c)
    refine mm_R.wgi (pc' := 120) (L' := [some ((.ref a0)), some (r1)]) (r := [(.ref a0)]) 1 rfl rfl (H.mono (fun x7 H => ?_))
    refine mm_R.wpt (pc' := 123) (L' := [some ((.ref a0)), some (r1)]) (r := []) 0 rfl rfl (H.mono (fun hp8 H => ?_))
    exact mm_R.rt (pc' := 127) (L' := [some ((.ref a0)), some (r1)]) (st1 := [.int (1 : Int32)]) 1 rfl rfl rfl rfl rfl rfl H
  · replace H := H.2 (of_decide_eq_false c)
    refine mm_R.al (pc' := 110) (L' := [some ((.ref a0)), some (r1)]) (r := [(.ref a0)]) (v := r1) 0 rfl rfl rfl rfl hr4 ?_
    refine mm_R.wgi (pc' := 111) (L' := [some ((.ref a0)), some (r1)]) (r := [(.ref a0)]) 0 rfl rfl (H.mono (fun x9 H => ?_))
    refine mm_R.wpt (pc' := 123) (L' := [some ((.ref a0)), some (r1)]) (r := []) 3 rfl rfl (H.mono (fun hp10 H => ?_))
    exact mm_R.rt (pc' := 127) (L' := [some ((.ref a0)), some (r1)]) (st1 := [.int (1 : Int32)]) 1 rfl rfl rfl rfl rfl rfl H
-- StepRunner$Draft.readText, from 0
set_option maxRecDepth 10000 in
theorem w33_0 {X : List Int32} {d : Nat} {a0 : Nat} {hp : mm_H} {Q : Option Value → mm_H → Prop} (H : mm_R X d 7 0 (mm_L0 7 [.int (24 : Int32)]) [] hp (mw_rv (fun v2 hp1 => mm_isr v2 = true ∧ mw_gi 1 2 (.ref a0) hp1 (fun x4 => mw_pt 1 2 (.ref a0) (.int (x4 + (1 : Int32))) hp1 (fun hp5 => mm_R X (d + 1) 33 18 [some ((.ref a0)), some (v2), some (.int (0 : Int32)), none] [] hp5 Q))))) : mm_R X (d + 1) 33 0 (mm_L0 33 [(.ref a0)]) [] hp Q := by
  show mm_R X (d + 1) 33 0 [some ((.ref a0)), none, none, none] [] hp Q
  refine mm_R.cS (pc' := 2) (L' := [some ((.ref a0)), none, none, none]) (st1 := [.int (24 : Int32)]) (as := [.int (24 : Int32)]) (rest := []) 1 rfl rfl (mw_sp rfl rfl (Nat.le_of_ble_eq_true rfl) (mw_ac rfl mw_an) mw_an) rfl rfl (H.mono (fun o hp1 H => ?_))
  obtain ⟨v2, rfl, H⟩ := H
  obtain ⟨hr3, H⟩ := H
  refine mm_R.as (pc' := 5) (L' := [some ((.ref a0)), none, none, none]) (r := []) (v := v2) 0 rfl rfl rfl rfl hr3 ?_
  refine mm_R.wgi (pc' := 8) (L' := [some ((.ref a0)), some (v2), none, none]) (r := [(.ref a0)]) 2 rfl rfl (H.mono (fun x4 H => ?_))
  refine mm_R.wpt (pc' := 13) (L' := [some ((.ref a0)), some (v2), none, none]) (r := []) 2 rfl rfl (H.mono (fun hp5 H => ?_))
  exact mm_R.pn (pc' := 18) (L' := [some ((.ref a0)), some (v2), some (.int (0 : Int32)), none]) (st' := []) 2 rfl H
-- StepRunner$Draft.readText, from 18
set_option maxRecDepth 10000 in
theorem w33_18 {X : List Int32} {d : Nat} {a0 : Nat} {r1 : Value} {i2 : Int32} {o3 : Option Value} {hp : mm_H} {Q : Option Value → mm_H → Prop} (H : (((24 : Int32) < i2 → Q (some .null) hp) ∧ (¬ (24 : Int32) < i2 → mw_rc (.ref a0) 30 hp ∧ mm_R X d 30 0 (mm_L0 30 [(.ref a0)]) [] hp (mw_ri (fun x3 hp2 => mw_gi 1 2 (.ref a0) hp2 (fun x4 => mw_pt 1 2 (.ref a0) (.int (x4 + (1 : Int32))) hp2 (fun hp5 => ((¬ x3 = (34 : Int32) → mm_isr r1 = true ∧ mw_rc r1 34 hp5 ∧ mm_R X d 34 0 (mm_L0 34 [r1, .int x3]) [] hp5 (mw_ri (fun x9 hp8 => ((¬ x9 = (0 : Int32) → mm_R X (d + 1) 33 18 [some ((.ref a0)), some (r1), some (.int (i2 + (1 : Int32))), some (.int x3)] [] hp8 Q) ∧ (x9 = (0 : Int32) → Q (some .null) hp8))))) ∧ (x3 = (34 : Int32) → mm_isr r1 = true ∧ mw_nr r1 ∧ Q (some r1) hp5))))))))) : mm_R X (d + 1) 33 18 [some ((.ref a0)), some (r1), some (.int i2), o3] [] hp Q := by
  refine mm_R.br (L' := [some ((.ref a0)), some (r1), some (.int i2), o3]) (st' := []) (t := 63) (u := 24) (b := mm_cc .gt i2 (24 : Int32)) 3 rfl (fun c => ?_) (fun c => ?_)
  · replace H := H.1 (of_decide_eq_true c)
    exact mm_R.rt (pc' := 64) (L' := [some ((.ref a0)), some (r1), some (.int i2), o3]) (st1 := [.null]) 1 rfl rfl rfl rfl rfl rfl H
  · replace H := H.2 (of_decide_eq_false c)
    obtain ⟨hc1, H⟩ := H
    refine mm_R.cV (pc' := 25) (L' := [some ((.ref a0)), some (r1), some (.int i2), o3]) (st1 := [(.ref a0)]) (as := []) (rest := []) 1 rfl rfl (mw_sp rfl rfl (Nat.le_of_ble_eq_true rfl) (mw_ac rfl mw_an) mw_an) rfl rfl hc1 (H.mono (fun o hp2 H => ?_))
    obtain ⟨x3, rfl, H⟩ := H
    refine mm_R.wgi (pc' := 31) (L' := [some ((.ref a0)), some (r1), some (.int i2), some (.int x3)]) (r := [(.ref a0)]) 3 rfl rfl (H.mono (fun x4 H => ?_))
    refine mm_R.wpt (pc' := 36) (L' := [some ((.ref a0)), some (r1), some (.int i2), some (.int x3)]) (r := []) 2 rfl rfl (H.mono (fun hp5 H => ?_))
    refine mm_R.br (L' := [some ((.ref a0)), some (r1), some (.int i2), some (.int x3)]) (st' := []) (t := 47) (u := 45) (b := mm_cc .ne x3 (34 : Int32)) 3 rfl (fun c => ?_) (fun c => ?_)
    · replace H := H.1 (of_decide_eq_true c)
      obtain ⟨hr6, H⟩ := H
      refine mm_R.al (pc' := 47) (L' := [some ((.ref a0)), some (r1), some (.int i2), some (.int x3)]) (r := []) (v := r1) 0 rfl rfl rfl rfl hr6 ?_
      obtain ⟨hc7, H⟩ := H
      refine mm_R.cV (pc' := 49) (L' := [some ((.ref a0)), some (r1), some (.int i2), some (.int x3)]) (st1 := [.int x3, r1]) (as := [.int x3]) (rest := []) 1 rfl rfl (mw_sp rfl rfl (Nat.le_of_ble_eq_true rfl) (mw_ac (mw_c1 hc7.isr) (mw_ac rfl mw_an)) mw_an) rfl rfl hc7 (H.mono (fun o hp8 H => ?_))
      obtain ⟨x9, rfl, H⟩ := H
      refine mm_R.br (L' := [some ((.ref a0)), some (r1), some (.int i2), some (.int x3)]) (st' := []) (t := 57) (u := 55) (b := mm_cc .ne x9 (0 : Int32)) 1 rfl (fun c => ?_) (fun c => ?_)
      · replace H := H.1 (of_decide_eq_true c)
        exact mm_R.pn (pc' := 18) (L' := [some ((.ref a0)), some (r1), some (.int (i2 + (1 : Int32))), some (.int x3)]) (st' := []) 2 rfl H
      · replace H := H.2 (Decidable.of_not_not (of_decide_eq_false c))
        exact mm_R.rt (pc' := 56) (L' := [some ((.ref a0)), some (r1), some (.int i2), some (.int x3)]) (st1 := [.null]) 1 rfl rfl rfl rfl rfl rfl H
    · replace H := H.2 (Decidable.of_not_not (of_decide_eq_false c))
      obtain ⟨hr10, H⟩ := H
      refine mm_R.al (pc' := 45) (L' := [some ((.ref a0)), some (r1), some (.int i2), some (.int x3)]) (r := []) (v := r1) 0 rfl rfl rfl rfl hr10 ?_
      exact mm_R.rt (pc' := 46) (L' := [some ((.ref a0)), some (r1), some (.int i2), some (.int x3)]) (st1 := [r1]) 0 rfl rfl rfl rfl rfl (mw_rva (ty := (.object "StepRunner$Value")) H.1 rfl) H.2
-- StepRunner$Value.addLetter, from 0
set_option maxRecDepth 10000 in
theorem w34_0 {X : List Int32} {d : Nat} {a0 : Nat} {i1 : Int32} {hp : mm_H} {Q : Option Value → mm_H → Prop} (H : mw_gi 2 2 (.ref a0) hp (fun x1 => ((¬ x1 = (2 : Int32) → Q (some (.int (0 : Int32))) hp) ∧ (x1 = (2 : Int32) → mw_gv 2 0 (.ref a0) hp (fun v2 => mw_nl v2 (Q (some (.int (0 : Int32))) hp) (mw_gi 2 4 (.ref a0) hp (fun x3 => (((24 : Int32) ≤ x3 → Q (some (.int (0 : Int32))) hp) ∧ (¬ (24 : Int32) ≤ x3 → mw_gi 2 6 (.ref a0) hp (fun x4 => mw_gv 2 0 (.ref a0) hp (fun v5 => mw_ln v5 hp (fun x6 => ((x4 < x6 → mw_gi 2 6 (.ref a0) hp (fun x7 => ((x7 < (2 : Int32) → Q (some (.int (0 : Int32))) hp) ∧ (¬ x7 < (2 : Int32) → ((i1 < (32 : Int32) → Q (some (.int (0 : Int32))) hp) ∧ (¬ i1 < (32 : Int32) → (((126 : Int32) < i1 → Q (some (.int (0 : Int32))) hp) ∧ (¬ (126 : Int32) < i1 → ((i1 = (34 : Int32) → Q (some (.int (0 : Int32))) hp) ∧ (¬ i1 = (34 : Int32) → ((¬ i1 = (92 : Int32) → mw_gv 2 0 (.ref a0) hp (fun v8 => mw_gi 2 6 (.ref a0) hp (fun x9 => mw_si 1001 .char v8 (x9 - (1 : Int32)) i1 hp (fun hp10 => mw_gv 2 0 (.ref a0) hp10 (fun v11 => mw_gi 2 6 (.ref a0) hp10 (fun x12 => mw_si 1001 .char v11 x12 (34 : Int32) hp10 (fun hp13 => mw_gi 2 6 (.ref a0) hp13 (fun x14 => mw_pt 2 6 (.ref a0) (.int (x14 + (1 : Int32))) hp13 (fun hp15 => mw_gi 2 4 (.ref a0) hp15 (fun x16 => mw_pt 2 4 (.ref a0) (.int (x16 + (1 : Int32))) hp15 (fun hp17 => Q (some (.int (1 : Int32))) hp17))))))))))) ∧ (i1 = (92 : Int32) → Q (some (.int (0 : Int32))) hp)))))))))))) ∧ (¬ x4 < x6 → Q (some (.int (0 : Int32))) hp)))))))))))))) : mm_R X (d + 1) 34 0 (mm_L0 34 [(.ref a0), .int i1]) [] hp Q := by
  show mm_R X (d + 1) 34 0 [some ((.ref a0)), some (.int i1)] [] hp Q
  refine mm_R.wgi (pc' := 1) (L' := [some ((.ref a0)), some (.int i1)]) (r := []) 1 rfl rfl (H.mono (fun x1 H => ?_))
  refine mm_R.br (L' := [some ((.ref a0)), some (.int i1)]) (st' := []) (t := 36) (u := 8) (b := mm_cc .ne x1 (2 : Int32)) 2 rfl (fun c => ?_) (fun c => ?_)
  · replace H := H.1 (of_decide_eq_true c)
    exact mm_R.rt (pc' := 37) (L' := [some ((.ref a0)), some (.int i1)]) (st1 := [.int (0 : Int32)]) 1 rfl rfl rfl rfl rfl rfl H
  · replace H := H.2 (Decidable.of_not_not (of_decide_eq_false c))
    refine mm_R.wgv (pc' := 9) (L' := [some ((.ref a0)), some (.int i1)]) (r := []) 1 rfl rfl (H.mono (fun v2 H => ?_))
    refine mm_R.wnl (pc' := 12) (L' := [some ((.ref a0)), some (.int i1)]) (r := []) (v := v2) (t := 36) (u := 15) 0 rfl rfl rfl (H.mono (fun H => ?_) (fun H => ?_))
    · exact mm_R.rt (pc' := 37) (L' := [some ((.ref a0)), some (.int i1)]) (st1 := [.int (0 : Int32)]) 1 rfl rfl rfl rfl rfl rfl H
    · refine mm_R.wgi (pc' := 16) (L' := [some ((.ref a0)), some (.int i1)]) (r := []) 1 rfl rfl (H.mono (fun x3 H => ?_))
      refine mm_R.br (L' := [some ((.ref a0)), some (.int i1)]) (st' := []) (t := 36) (u := 24) (b := mm_cc .ge x3 (24 : Int32)) 2 rfl (fun c => ?_) (fun c => ?_)
      · replace H := H.1 (of_decide_eq_true c)
        exact mm_R.rt (pc' := 37) (L' := [some ((.ref a0)), some (.int i1)]) (st1 := [.int (0 : Int32)]) 1 rfl rfl rfl rfl rfl rfl H
      · replace H := H.2 (of_decide_eq_false c)
        refine mm_R.wgi (pc' := 25) (L' := [some ((.ref a0)), some (.int i1)]) (r := []) 1 rfl rfl (H.mono (fun x4 H => ?_))
        refine mm_R.wgv (pc' := 29) (L' := [some ((.ref a0)), some (.int i1)]) (r := [.int x4]) 1 rfl rfl (H.mono (fun v5 H => ?_))
        refine mm_R.wln (pc' := 32) (L' := [some ((.ref a0)), some (.int i1)]) (r := [.int x4]) 0 rfl rfl (H.mono (fun x6 H => ?_))
        refine mm_R.br (L' := [some ((.ref a0)), some (.int i1)]) (st' := []) (t := 38) (u := 36) (b := mm_cc .lt x4 x6) 1 rfl (fun c => ?_) (fun c => ?_)
        · replace H := H.1 (of_decide_eq_true c)
          refine mm_R.wgi (pc' := 39) (L' := [some ((.ref a0)), some (.int i1)]) (r := []) 1 rfl rfl (H.mono (fun x7 H => ?_))
          refine mm_R.br (L' := [some ((.ref a0)), some (.int i1)]) (st' := []) (t := 70) (u := 46) (b := mm_cc .lt x7 (2 : Int32)) 2 rfl (fun c => ?_) (fun c => ?_)
          · replace H := H.1 (of_decide_eq_true c)
            exact mm_R.rt (pc' := 71) (L' := [some ((.ref a0)), some (.int i1)]) (st1 := [.int (0 : Int32)]) 1 rfl rfl rfl rfl rfl rfl H
          · replace H := H.2 (of_decide_eq_false c)
            refine mm_R.br (L' := [some ((.ref a0)), some (.int i1)]) (st' := []) (t := 70) (u := 52) (b := mm_cc .lt i1 (32 : Int32)) 3 rfl (fun c => ?_) (fun c => ?_)
            · replace H := H.1 (of_decide_eq_true c)
              exact mm_R.rt (pc' := 71) (L' := [some ((.ref a0)), some (.int i1)]) (st1 := [.int (0 : Int32)]) 1 rfl rfl rfl rfl rfl rfl H
            · replace H := H.2 (of_decide_eq_false c)
              refine mm_R.br (L' := [some ((.ref a0)), some (.int i1)]) (st' := []) (t := 70) (u := 58) (b := mm_cc .gt i1 (126 : Int32)) 3 rfl (fun c => ?_) (fun c => ?_)
              · replace H := H.1 (of_decide_eq_true c)
                exact mm_R.rt (pc' := 71) (L' := [some ((.ref a0)), some (.int i1)]) (st1 := [.int (0 : Int32)]) 1 rfl rfl rfl rfl rfl rfl H
              · replace H := H.2 (of_decide_eq_false c)
                refine mm_R.br (L' := [some ((.ref a0)), some (.int i1)]) (st' := []) (t := 70) (u := 64) (b := mm_cc .eq i1 (34 : Int32)) 3 rfl (fun c => ?_) (fun c => ?_)
                · replace H := H.1 (of_decide_eq_true c)
                  exact mm_R.rt (pc' := 71) (L' := [some ((.ref a0)), some (.int i1)]) (st1 := [.int (0 : Int32)]) 1 rfl rfl rfl rfl rfl rfl H
                · replace H := H.2 (of_decide_eq_false c)
                  refine mm_R.br (L' := [some ((.ref a0)), some (.int i1)]) (st' := []) (t := 72) (u := 70) (b := mm_cc .ne i1 (92 : Int32)) 3 rfl (fun c => ?_) (fun c => ?_)
                  · replace H := H.1 (of_decide_eq_true c)
                    refine mm_R.wgv (pc' := 73) (L' := [some ((.ref a0)), some (.int i1)]) (r := []) 1 rfl rfl (H.mono (fun v8 H => ?_))
                    refine mm_R.wgi (pc' := 77) (L' := [some ((.ref a0)), some (.int i1)]) (r := [v8]) 1 rfl rfl (H.mono (fun x9 H => ?_))
                    refine mm_R.wsi (pc' := 83) (L' := [some ((.ref a0)), some (.int i1)]) (r := []) (t := 1001) (ty := .char) 3 rfl rfl rfl rfl (H.mono (fun hp10 H => ?_))
                    refine mm_R.wgv (pc' := 85) (L' := [some ((.ref a0)), some (.int i1)]) (r := []) 1 rfl rfl (H.mono (fun v11 H => ?_))
                    refine mm_R.wgi (pc' := 89) (L' := [some ((.ref a0)), some (.int i1)]) (r := [v11]) 1 rfl rfl (H.mono (fun x12 H => ?_))
                    refine mm_R.wsi (pc' := 94) (L' := [some ((.ref a0)), some (.int i1)]) (r := []) (t := 1001) (ty := .char) 1 rfl rfl rfl rfl (H.mono (fun hp13 H => ?_))
                    refine mm_R.wgi (pc' := 97) (L' := [some ((.ref a0)), some (.int i1)]) (r := [(.ref a0)]) 2 rfl rfl (H.mono (fun x14 H => ?_))
                    refine mm_R.wpt (pc' := 102) (L' := [some ((.ref a0)), some (.int i1)]) (r := []) 2 rfl rfl (H.mono (fun hp15 H => ?_))
                    refine mm_R.wgi (pc' := 107) (L' := [some ((.ref a0)), some (.int i1)]) (r := [(.ref a0)]) 2 rfl rfl (H.mono (fun x16 H => ?_))
                    refine mm_R.wpt (pc' := 112) (L' := [some ((.ref a0)), some (.int i1)]) (r := []) 2 rfl rfl (H.mono (fun hp17 H => ?_))
                    exact mm_R.rt (pc' := 116) (L' := [some ((.ref a0)), some (.int i1)]) (st1 := [.int (1 : Int32)]) 1 rfl rfl rfl rfl rfl rfl H
                  · replace H := H.2 (Decidable.of_not_not (of_decide_eq_false c))
                    exact mm_R.rt (pc' := 71) (L' := [some ((.ref a0)), some (.int i1)]) (st1 := [.int (0 : Int32)]) 1 rfl rfl rfl rfl rfl rfl H
        · replace H := H.2 (of_decide_eq_false c)
          exact mm_R.rt (pc' := 37) (L' := [some ((.ref a0)), some (.int i1)]) (st1 := [.int (0 : Int32)]) 1 rfl rfl rfl rfl rfl rfl H
-- StepRunner$Draft.readNothing, from 0
set_option maxRecDepth 10000 in
theorem w35_0 {X : List Int32} {d : Nat} {a0 : Nat} {hp : mm_H} {Q : Option Value → mm_H → Prop} (H : mm_R X (d + 1) 35 5 [some ((.ref a0)), some ((.retAddr 0)), some (.int (0 : Int32))] [] hp Q) : mm_R X (d + 1) 35 0 (mm_L0 35 [(.ref a0)]) [] hp Q := by
  show mm_R X (d + 1) 35 0 [some ((.ref a0)), none, none] [] hp Q
  exact mm_R.pn (pc' := 5) (L' := [some ((.ref a0)), some ((.retAddr 0)), some (.int (0 : Int32))]) (st' := []) 4 rfl H
-- StepRunner$Draft.readNothing, from 5
set_option maxRecDepth 10000 in
theorem w35_5 {X : List Int32} {d : Nat} {a0 : Nat} {r1 : Value} {i2 : Int32} {hp : mm_H} {Q : Option Value → mm_H → Prop} (H : mm_isr r1 = true ∧ mw_tl r1 d (fun x2 => ((x2 ≤ i2 → mm_R X d 2 0 (mm_L0 2 []) [] hp (mw_rv (fun v4 hp3 => mw_nr v4 ∧ Q (some v4) hp3))) ∧ (¬ x2 ≤ i2 → mw_rc (.ref a0) 30 hp ∧ mm_R X d 30 0 (mm_L0 30 [(.ref a0)]) [] hp (mw_ri (fun x7 hp6 => mw_tc r1 i2 d (fun x8 => ((x7 = x8 → mw_gi 1 2 (.ref a0) hp6 (fun x9 => mw_pt 1 2 (.ref a0) (.int (x9 + (1 : Int32))) hp6 (fun hp10 => mm_R X (d + 1) 35 5 [some ((.ref a0)), some (r1), some (.int (i2 + (1 : Int32)))] [] hp10 Q))) ∧ (¬ x7 = x8 → Q (some .null) hp6))))))))) : mm_R X (d + 1) 35 5 [some ((.ref a0)), some (r1), some (.int i2)] [] hp Q := by
  obtain ⟨hr1, H⟩ := H
  refine mm_R.al (pc' := 6) (L' := [some ((.ref a0)), some (r1), some (.int i2)]) (r := [.int i2]) (v := r1) 1 rfl rfl rfl rfl hr1 ?_
  refine mm_R.cTl (pc' := 7) (L' := [some ((.ref a0)), some (r1), some (.int i2)]) (rest := [.int i2]) 0 rfl rfl rfl (mw_ac rfl mw_an) (H.mono (fun x2 H => ?_))
  refine mm_R.br (L' := [some ((.ref a0)), some (r1), some (.int i2)]) (st' := []) (t := 43) (u := 13) (b := mm_cc .ge i2 x2) 1 rfl (fun c => ?_) (fun c => ?_)
  · replace H := H.1 (of_decide_eq_true c)
    refine mm_R.cS (pc' := 43) (L' := [some ((.ref a0)), some (r1), some (.int i2)]) (st1 := []) (as := []) (rest := []) 0 rfl rfl (mw_sp rfl rfl (Nat.le_of_ble_eq_true rfl) mw_an mw_an) rfl rfl (H.mono (fun o hp3 H => ?_))
    obtain ⟨v4, rfl, H⟩ := H
    exact mm_R.rt (pc' := 46) (L' := [some ((.ref a0)), some (r1), some (.int i2)]) (st1 := [v4]) 0 rfl rfl rfl rfl rfl (mw_rva (ty := (.object "StepRunner$Value")) H.1 rfl) H.2
  · replace H := H.2 (of_decide_eq_false c)
    obtain ⟨hc5, H⟩ := H
    refine mm_R.cV (pc' := 14) (L' := [some ((.ref a0)), some (r1), some (.int i2)]) (st1 := [(.ref a0)]) (as := []) (rest := []) 1 rfl rfl (mw_sp rfl rfl (Nat.le_of_ble_eq_true rfl) (mw_ac rfl mw_an) mw_an) rfl rfl hc5 (H.mono (fun o hp6 H => ?_))
    obtain ⟨x7, rfl, H⟩ := H
    refine mm_R.al (pc' := 17) (L' := [some ((.ref a0)), some (r1), some (.int i2)]) (r := [.int x7]) (v := r1) 0 rfl rfl rfl rfl hr1 ?_
    refine mm_R.cTc (pc' := 19) (L' := [some ((.ref a0)), some (r1), some (.int i2)]) (rest := [.int x7]) 1 rfl rfl rfl (mw_ac rfl mw_an) (H.mono (fun x8 H => ?_))
    refine mm_R.br (L' := [some ((.ref a0)), some (r1), some (.int i2)]) (st' := []) (t := 27) (u := 25) (b := mm_cc .eq x7 x8) 1 rfl (fun c => ?_) (fun c => ?_)
    · replace H := H.1 (of_decide_eq_true c)
      refine mm_R.wgi (pc' := 29) (L' := [some ((.ref a0)), some (r1), some (.int i2)]) (r := [(.ref a0)]) 2 rfl rfl (H.mono (fun x9 H => ?_))
      refine mm_R.wpt (pc' := 34) (L' := [some ((.ref a0)), some (r1), some (.int i2)]) (r := []) 2 rfl rfl (H.mono (fun hp10 H => ?_))
      exact mm_R.pn (pc' := 5) (L' := [some ((.ref a0)), some (r1), some (.int (i2 + (1 : Int32)))]) (st' := []) 2 rfl H
    · replace H := H.2 (of_decide_eq_false c)
      exact mm_R.rt (pc' := 26) (L' := [some ((.ref a0)), some (r1), some (.int i2)]) (st1 := [.null]) 1 rfl rfl rfl rfl rfl rfl H
-- StepRunner$Draft.readNumber, from 0
set_option maxRecDepth 10000 in
theorem w36_0 {X : List Int32} {d : Nat} {a0 : Nat} {hp : mm_H} {Q : Option Value → mm_H → Prop} (H : mw_gi 1 2 (.ref a0) hp (fun x1 => mw_rc (.ref a0) 30 hp ∧ mm_R X d 30 0 (mm_L0 30 [(.ref a0)]) [] hp (mw_ri (fun x4 hp3 => ((¬ x4 = (45 : Int32) → mm_R X (d + 1) 36 26 [some ((.ref a0)), some (.int x1), some (.int (0 : Int32))] [] hp3 Q) ∧ (x4 = (45 : Int32) → mw_gi 1 2 (.ref a0) hp3 (fun x5 => mw_pt 1 2 (.ref a0) (.int (x5 + (1 : Int32))) hp3 (fun hp6 => mm_R X (d + 1) 36 26 [some ((.ref a0)), some (.int x1), some (.int (0 : Int32))] [] hp6 Q)))))))) : mm_R X (d + 1) 36 0 (mm_L0 36 [(.ref a0)]) [] hp Q := by
  show mm_R X (d + 1) 36 0 [some ((.ref a0)), none, none] [] hp Q
  refine mm_R.wgi (pc' := 1) (L' := [some ((.ref a0)), none, none]) (r := []) 1 rfl rfl (H.mono (fun x1 H => ?_))
  obtain ⟨hc2, H⟩ := H
  refine mm_R.cV (pc' := 6) (L' := [some ((.ref a0)), some (.int x1), none]) (st1 := [(.ref a0)]) (as := []) (rest := []) 2 rfl rfl (mw_sp rfl rfl (Nat.le_of_ble_eq_true rfl) (mw_ac rfl mw_an) mw_an) rfl rfl hc2 (H.mono (fun o hp3 H => ?_))
  obtain ⟨x4, rfl, H⟩ := H
  refine mm_R.br (L' := [some ((.ref a0)), some (.int x1), none]) (st' := []) (t := 24) (u := 14) (b := mm_cc .ne x4 (45 : Int32)) 2 rfl (fun c => ?_) (fun c => ?_)
  · replace H := H.1 (of_decide_eq_true c)
    exact mm_R.pn (pc' := 26) (L' := [some ((.ref a0)), some (.int x1), some (.int (0 : Int32))]) (st' := []) 2 rfl H
  · replace H := H.2 (Decidable.of_not_not (of_decide_eq_false c))
    refine mm_R.wgi (pc' := 16) (L' := [some ((.ref a0)), some (.int x1), none]) (r := [(.ref a0)]) 2 rfl rfl (H.mono (fun x5 H => ?_))
    refine mm_R.wpt (pc' := 21) (L' := [some ((.ref a0)), some (.int x1), none]) (r := []) 2 rfl rfl (H.mono (fun hp6 H => ?_))
    exact mm_R.pn (pc' := 26) (L' := [some ((.ref a0)), some (.int x1), some (.int (0 : Int32))]) (st' := []) 2 rfl H
-- StepRunner$Draft.readNumber, from 26
set_option maxRecDepth 10000 in
theorem w36_26 {X : List Int32} {d : Nat} {a0 : Nat} {i1 : Int32} {i2 : Int32} {hp : mm_H} {Q : Option Value → mm_H → Prop} (H : (((60 : Int32) ≤ i2 → mm_R X (d + 1) 36 58 [some ((.ref a0)), some (.int i1), some (.int i2)] [] hp Q) ∧ (¬ (60 : Int32) ≤ i2 → mw_rc (.ref a0) 30 hp ∧ mm_R X d 30 0 (mm_L0 30 [(.ref a0)]) [] hp (mw_ri (fun x3 hp2 => mm_R X d 37 0 (mm_L0 37 [.int x3]) [] hp2 (mw_ri (fun x5 hp4 => ((x5 = (0 : Int32) → mm_R X (d + 1) 36 58 [some ((.ref a0)), some (.int i1), some (.int i2)] [] hp4 Q) ∧ (¬ x5 = (0 : Int32) → mw_gi 1 2 (.ref a0) hp4 (fun x6 => mw_pt 1 2 (.ref a0) (.int (x6 + (1 : Int32))) hp4 (fun hp7 => mm_R X (d + 1) 36 26 [some ((.ref a0)), some (.int i1), some (.int (i2 + (1 : Int32)))] [] hp7 Q))))))))))) : mm_R X (d + 1) 36 26 [some ((.ref a0)), some (.int i1), some (.int i2)] [] hp Q := by
  refine mm_R.br (L' := [some ((.ref a0)), some (.int i1), some (.int i2)]) (st' := []) (t := 58) (u := 32) (b := mm_cc .ge i2 (60 : Int32)) 3 rfl (fun c => ?_) (fun c => ?_)
  · replace H := H.1 (of_decide_eq_true c)
    exact H
  · replace H := H.2 (of_decide_eq_false c)
    obtain ⟨hc1, H⟩ := H
    refine mm_R.cV (pc' := 33) (L' := [some ((.ref a0)), some (.int i1), some (.int i2)]) (st1 := [(.ref a0)]) (as := []) (rest := []) 1 rfl rfl (mw_sp rfl rfl (Nat.le_of_ble_eq_true rfl) (mw_ac rfl mw_an) mw_an) rfl rfl hc1 (H.mono (fun o hp2 H => ?_))
    obtain ⟨x3, rfl, H⟩ := H
    refine mm_R.cS (pc' := 36) (L' := [some ((.ref a0)), some (.int i1), some (.int i2)]) (st1 := [.int x3]) (as := [.int x3]) (rest := []) 0 rfl rfl (mw_sp rfl rfl (Nat.le_of_ble_eq_true rfl) (mw_ac rfl mw_an) mw_an) rfl rfl (H.mono (fun o hp4 H => ?_))
    obtain ⟨x5, rfl, H⟩ := H
    refine mm_R.br (L' := [some ((.ref a0)), some (.int i1), some (.int i2)]) (st' := []) (t := 58) (u := 42) (b := mm_cc .eq x5 (0 : Int32)) 1 rfl (fun c => ?_) (fun c => ?_)
    · replace H := H.1 (of_decide_eq_true c)
      exact H
    · replace H := H.2 (of_decide_eq_false c)
      refine mm_R.wgi (pc' := 44) (L' := [some ((.ref a0)), some (.int i1), some (.int i2)]) (r := [(.ref a0)]) 2 rfl rfl (H.mono (fun x6 H => ?_))
      refine mm_R.wpt (pc' := 49) (L' := [some ((.ref a0)), some (.int i1), some (.int i2)]) (r := []) 2 rfl rfl (H.mono (fun hp7 H => ?_))
      exact mm_R.pn (pc' := 26) (L' := [some ((.ref a0)), some (.int i1), some (.int (i2 + (1 : Int32)))]) (st' := []) 2 rfl H
-- StepRunner$Draft.readNumber, from 58
set_option maxRecDepth 10000 in
theorem w36_58 {X : List Int32} {d : Nat} {a0 : Nat} {i1 : Int32} {i2 : Int32} {hp : mm_H} {Q : Option Value → mm_H → Prop} (H : mw_gv 1 0 (.ref a0) hp (fun v1 => mw_gi 1 2 (.ref a0) hp (fun x2 => mm_isr v1 = true ∧ mm_R X d 38 0 (mm_L0 38 [v1, .int i1, .int x2]) [] hp (mw_ri (fun x5 hp4 => ((¬ x5 = (-1000000 : Int32) → mm_R X d 39 0 (mm_L0 39 [.int x5]) [] hp4 (mw_rv (fun v7 hp6 => mw_nr v7 ∧ Q (some v7) hp6))) ∧ (x5 = (-1000000 : Int32) → Q (some .null) hp4))))))) : mm_R X (d + 1) 36 58 [some ((.ref a0)), some (.int i1), some (.int i2)] [] hp Q := by
  refine mm_R.wgv (pc' := 59) (L' := [some ((.ref a0)), some (.int i1), some (.int i2)]) (r := []) 1 rfl rfl (H.mono (fun v1 H => ?_))
  refine mm_R.wgi (pc' := 64) (L' := [some ((.ref a0)), some (.int i1), some (.int i2)]) (r := [.int i1, v1]) 2 rfl rfl (H.mono (fun x2 H => ?_))
  obtain ⟨hr3, H⟩ := H
  refine mm_R.cS (pc' := 67) (L' := [some ((.ref a0)), some (.int i1), some (.int i2)]) (st1 := [.int x2, .int i1, v1]) (as := [v1, .int i1, .int x2]) (rest := []) 0 rfl rfl (mw_sp rfl rfl (Nat.le_of_ble_eq_true rfl) (mw_ac (mw_c1 hr3) (mw_ac rfl (mw_ac rfl mw_an))) mw_an) rfl rfl (H.mono (fun o hp4 H => ?_))
  obtain ⟨x5, rfl, H⟩ := H
  refine mm_R.br (L' := [some ((.ref a0)), some (.int i1), some (.int x5)]) (st' := []) (t := 81) (u := 77) (b := mm_cc .ne x5 (-1000000 : Int32)) 4 rfl (fun c => ?_) (fun c => ?_)
  · replace H := H.1 (of_decide_eq_true c)
    refine mm_R.cS (pc' := 82) (L' := [some ((.ref a0)), some (.int i1), some (.int x5)]) (st1 := [.int x5]) (as := [.int x5]) (rest := []) 1 rfl rfl (mw_sp rfl rfl (Nat.le_of_ble_eq_true rfl) (mw_ac rfl mw_an) mw_an) rfl rfl (H.mono (fun o hp6 H => ?_))
    obtain ⟨v7, rfl, H⟩ := H
    exact mm_R.rt (pc' := 85) (L' := [some ((.ref a0)), some (.int i1), some (.int x5)]) (st1 := [v7]) 0 rfl rfl rfl rfl rfl (mw_rva (ty := (.object "StepRunner$Value")) H.1 rfl) H.2
  · replace H := H.2 (Decidable.of_not_not (of_decide_eq_false c))
    exact mm_R.rt (pc' := 85) (L' := [some ((.ref a0)), some (.int i1), some (.int x5)]) (st1 := [.null]) 2 rfl rfl rfl rfl rfl rfl H
-- StepRunner.isDigit, from 0
set_option maxRecDepth 10000 in
theorem w37_0 {X : List Int32} {d : Nat} {i0 : Int32} {hp : mm_H} {Q : Option Value → mm_H → Prop} (H : ((i0 < (48 : Int32) → Q (some (.int (0 : Int32))) hp) ∧ (¬ i0 < (48 : Int32) → (((57 : Int32) < i0 → Q (some (.int (0 : Int32))) hp) ∧ (¬ (57 : Int32) < i0 → Q (some (.int (1 : Int32))) hp))))) : mm_R X (d + 1) 37 0 (mm_L0 37 [.int i0]) [] hp Q := by
  show mm_R X (d + 1) 37 0 [some (.int i0)] [] hp Q
  refine mm_R.br (L' := [some (.int i0)]) (st' := []) (t := 16) (u := 6) (b := mm_cc .lt i0 (48 : Int32)) 3 rfl (fun c => ?_) (fun c => ?_)
  · replace H := H.1 (of_decide_eq_true c)
    exact mm_R.rt (pc' := 17) (L' := [some (.int i0)]) (st1 := [.int (0 : Int32)]) 1 rfl rfl rfl rfl rfl rfl H
  · replace H := H.2 (of_decide_eq_false c)
    refine mm_R.br (L' := [some (.int i0)]) (st' := []) (t := 16) (u := 12) (b := mm_cc .gt i0 (57 : Int32)) 3 rfl (fun c => ?_) (fun c => ?_)
    · replace H := H.1 (of_decide_eq_true c)
      exact mm_R.rt (pc' := 17) (L' := [some (.int i0)]) (st1 := [.int (0 : Int32)]) 1 rfl rfl rfl rfl rfl rfl H
    · replace H := H.2 (of_decide_eq_false c)
      exact mm_R.rt (pc' := 17) (L' := [some (.int i0)]) (st1 := [.int (1 : Int32)]) 2 rfl rfl rfl rfl rfl rfl H
-- StepRunner$Value.numberIn, from 0
set_option maxRecDepth 10000 in
theorem w38_0 {X : List Int32} {d : Nat} {r0 : Value} {i1 : Int32} {i2 : Int32} {hp : mm_H} {Q : Option Value → mm_H → Prop} (H : ((i1 < (0 : Int32) → Q (some (.int (-1000000 : Int32))) hp) ∧ (¬ i1 < (0 : Int32) → ((i2 ≤ i1 → Q (some (.int (-1000000 : Int32))) hp) ∧ (¬ i2 ≤ i1 → mm_isr r0 = true ∧ mw_ln r0 hp (fun x2 => ((i2 ≤ x2 → mw_ai 1001 r0 i1 hp (fun x3 => ((¬ x3 = (45 : Int32) → (((0 : Int32) = (0 : Int32) → mm_R X (d + 1) 38 43 [some (r0), some (.int i1), some (.int i2), some (.int (0 : Int32)), none, none, none, none] [.int i1] hp Q) ∧ (¬ (0 : Int32) = (0 : Int32) → mm_R X (d + 1) 38 43 [some (r0), some (.int i1), some (.int i2), some (.int (0 : Int32)), none, none, none, none] [.int (i1 + (1 : Int32))] hp Q))) ∧ (x3 = (45 : Int32) → (((1 : Int32) = (0 : Int32) → mm_R X (d + 1) 38 43 [some (r0), some (.int i1), some (.int i2), some (.int (1 : Int32)), none, none, none, none] [.int i1] hp Q) ∧ (¬ (1 : Int32) = (0 : Int32) → mm_R X (d + 1) 38 43 [some (r0), some (.int i1), some (.int i2), some (.int (1 : Int32)), none, none, none, none] [.int (i1 + (1 : Int32))] hp Q)))))) ∧ (¬ i2 ≤ x2 → Q (some (.int (-1000000 : Int32))) hp)))))))) : mm_R X (d + 1) 38 0 (mm_L0 38 [r0, .int i1, .int i2]) [] hp Q := by
  show mm_R X (d + 1) 38 0 [some (r0), some (.int i1), some (.int i2), none, none, none, none, none] [] hp Q
  refine mm_R.br (L' := [some (r0), some (.int i1), some (.int i2), none, none, none, none, none]) (st' := []) (t := 15) (u := 4) (b := mm_cc .lt i1 (0 : Int32)) 2 rfl (fun c => ?_) (fun c => ?_)
  · replace H := H.1 (of_decide_eq_true c)
    exact mm_R.rt (pc' := 17) (L' := [some (r0), some (.int i1), some (.int i2), none, none, none, none, none]) (st1 := [.int (-1000000 : Int32)]) 1 rfl rfl rfl rfl rfl rfl H
  · replace H := H.2 (of_decide_eq_false c)
    refine mm_R.br (L' := [some (r0), some (.int i1), some (.int i2), none, none, none, none, none]) (st' := []) (t := 15) (u := 9) (b := mm_cc .ge i1 i2) 3 rfl (fun c => ?_) (fun c => ?_)
    · replace H := H.1 (of_decide_eq_true c)
      exact mm_R.rt (pc' := 17) (L' := [some (r0), some (.int i1), some (.int i2), none, none, none, none, none]) (st1 := [.int (-1000000 : Int32)]) 1 rfl rfl rfl rfl rfl rfl H
    · replace H := H.2 (of_decide_eq_false c)
      obtain ⟨hr1, H⟩ := H
      refine mm_R.al (pc' := 10) (L' := [some (r0), some (.int i1), some (.int i2), none, none, none, none, none]) (r := [.int i2]) (v := r0) 1 rfl rfl rfl rfl hr1 ?_
      refine mm_R.wln (pc' := 11) (L' := [some (r0), some (.int i1), some (.int i2), none, none, none, none, none]) (r := [.int i2]) 0 rfl rfl (H.mono (fun x2 H => ?_))
      refine mm_R.br (L' := [some (r0), some (.int i1), some (.int i2), none, none, none, none, none]) (st' := []) (t := 18) (u := 15) (b := mm_cc .le i2 x2) 1 rfl (fun c => ?_) (fun c => ?_)
      · replace H := H.1 (of_decide_eq_true c)
        refine mm_R.al (pc' := 18) (L' := [some (r0), some (.int i1), some (.int i2), none, none, none, none, none]) (r := []) (v := r0) 0 rfl rfl rfl rfl hr1 ?_
        refine mm_R.wai (pc' := 20) (L' := [some (r0), some (.int i1), some (.int i2), none, none, none, none, none]) (r := []) (t := 1001) 1 rfl rfl rfl rfl (H.mono (fun x3 H => ?_))
        refine mm_R.br (L' := [some (r0), some (.int i1), some (.int i2), none, none, none, none, none]) (st' := []) (t := 30) (u := 26) (b := mm_cc .ne x3 (45 : Int32)) 2 rfl (fun c => ?_) (fun c => ?_)
        · replace H := H.1 (of_decide_eq_true c)
          refine mm_R.br (L' := [some (r0), some (.int i1), some (.int i2), some (.int (0 : Int32)), none, none, none, none]) (st' := []) (t := 42) (u := 36) (b := mm_cc .eq (0 : Int32) (0 : Int32)) 4 rfl (fun c => ?_) (fun c => ?_)
          · replace H := H.1 (of_decide_eq_true c)
            exact mm_R.pn (pc' := 43) (L' := [some (r0), some (.int i1), some (.int i2), some (.int (0 : Int32)), none, none, none, none]) (st' := [.int i1]) 1 rfl H
          · replace H := H.2 (of_decide_eq_false c)
            exact mm_R.pn (pc' := 43) (L' := [some (r0), some (.int i1), some (.int i2), some (.int (0 : Int32)), none, none, none, none]) (st' := [.int (i1 + (1 : Int32))]) 4 rfl H
        · replace H := H.2 (Decidable.of_not_not (of_decide_eq_false c))
          refine mm_R.br (L' := [some (r0), some (.int i1), some (.int i2), some (.int (1 : Int32)), none, none, none, none]) (st' := []) (t := 42) (u := 36) (b := mm_cc .eq (1 : Int32) (0 : Int32)) 5 rfl (fun c => ?_) (fun c => ?_)
          · replace H := H.1 (of_decide_eq_true c)
            exact mm_R.pn (pc' := 43) (L' := [some (r0), some (.int i1), some (.int i2), some (.int (1 : Int32)), none, none, none, none]) (st' := [.int i1]) 1 rfl H
          · replace H := H.2 (of_decide_eq_false c)
            exact mm_R.pn (pc' := 43) (L' := [some (r0), some (.int i1), some (.int i2), some (.int (1 : Int32)), none, none, none, none]) (st' := [.int (i1 + (1 : Int32))]) 4 rfl H
      · replace H := H.2 (of_decide_eq_false c)
        exact mm_R.rt (pc' := 17) (L' := [some (r0), some (.int i1), some (.int i2), none, none, none, none, none]) (st1 := [.int (-1000000 : Int32)]) 1 rfl rfl rfl rfl rfl rfl H
-- StepRunner$Value.numberIn, from 43
set_option maxRecDepth 10000 in
theorem w38_43 {X : List Int32} {d : Nat} {r0 : Value} {i1 : Int32} {i2 : Int32} {i3 : Int32} {o4 : Option Value} {o5 : Option Value} {o6 : Option Value} {o7 : Option Value} {s0 : Int32} {hp : mm_H} {Q : Option Value → mm_H → Prop} (H : (((i2 - s0) < (1 : Int32) → Q (some (.int (-1000000 : Int32))) hp) ∧ (¬ (i2 - s0) < (1 : Int32) → (((i2 - s0) ≤ (6 : Int32) → mm_isr r0 = true ∧ mw_ai 1001 r0 s0 hp (fun x2 => ((¬ x2 = (48 : Int32) → mm_R X (d + 1) 38 96 [some (r0), some (.int i1), some (.int i2), some (.int i3), some (.int s0), some (.int (i2 - s0)), some (.int (0 : Int32)), some (.int s0)] [] hp Q) ∧ (x2 = (48 : Int32) → ((¬ i3 = (0 : Int32) → Q (some (.int (-1000000 : Int32))) hp) ∧ (i3 = (0 : Int32) → (((i2 - s0) ≤ (1 : Int32) → mm_R X (d + 1) 38 96 [some (r0), some (.int i1), some (.int i2), some (.int i3), some (.int s0), some (.int (i2 - s0)), some (.int (0 : Int32)), some (.int s0)] [] hp Q) ∧ (¬ (i2 - s0) ≤ (1 : Int32) → Q (some (.int (-1000000 : Int32))) hp)))))))) ∧ (¬ (i2 - s0) ≤ (6 : Int32) → Q (some (.int (-1000000 : Int32))) hp))))) : mm_R X (d + 1) 38 43 [some (r0), some (.int i1), some (.int i2), some (.int i3), o4, o5, o6, o7] [.int s0] hp Q := by
  refine mm_R.br (L' := [some (r0), some (.int i1), some (.int i2), some (.int i3), some (.int s0), some (.int (i2 - s0)), o6, o7]) (st' := []) (t := 64) (u := 57) (b := mm_cc .lt (i2 - s0) (1 : Int32)) 8 rfl (fun c => ?_) (fun c => ?_)
  · replace H := H.1 (of_decide_eq_true c)
    exact mm_R.rt (pc' := 66) (L' := [some (r0), some (.int i1), some (.int i2), some (.int i3), some (.int s0), some (.int (i2 - s0)), o6, o7]) (st1 := [.int (-1000000 : Int32)]) 1 rfl rfl rfl rfl rfl rfl H
  · replace H := H.2 (of_decide_eq_false c)
    refine mm_R.br (L' := [some (r0), some (.int i1), some (.int i2), some (.int i3), some (.int s0), some (.int (i2 - s0)), o6, o7]) (st' := []) (t := 67) (u := 64) (b := mm_cc .le (i2 - s0) (6 : Int32)) 3 rfl (fun c => ?_) (fun c => ?_)
    · replace H := H.1 (of_decide_eq_true c)
      obtain ⟨hr1, H⟩ := H
      refine mm_R.al (pc' := 67) (L' := [some (r0), some (.int i1), some (.int i2), some (.int i3), some (.int s0), some (.int (i2 - s0)), o6, o7]) (r := []) (v := r0) 0 rfl rfl rfl rfl hr1 ?_
      refine mm_R.wai (pc' := 70) (L' := [some (r0), some (.int i1), some (.int i2), some (.int i3), some (.int s0), some (.int (i2 - s0)), o6, o7]) (r := []) (t := 1001) 1 rfl rfl rfl rfl (H.mono (fun x2 H => ?_))
      refine mm_R.br (L' := [some (r0), some (.int i1), some (.int i2), some (.int i3), some (.int s0), some (.int (i2 - s0)), o6, o7]) (st' := []) (t := 89) (u := 76) (b := mm_cc .ne x2 (48 : Int32)) 2 rfl (fun c => ?_) (fun c => ?_)
      · replace H := H.1 (of_decide_eq_true c)
        exact mm_R.pn (pc' := 96) (L' := [some (r0), some (.int i1), some (.int i2), some (.int i3), some (.int s0), some (.int (i2 - s0)), some (.int (0 : Int32)), some (.int s0)]) (st' := []) 4 rfl H
      · replace H := H.2 (Decidable.of_not_not (of_decide_eq_false c))
        refine mm_R.br (L' := [some (r0), some (.int i1), some (.int i2), some (.int i3), some (.int s0), some (.int (i2 - s0)), o6, o7]) (st' := []) (t := 86) (u := 80) (b := mm_cc .ne i3 (0 : Int32)) 2 rfl (fun c => ?_) (fun c => ?_)
        · replace H := H.1 (of_decide_eq_true c)
          exact mm_R.rt (pc' := 88) (L' := [some (r0), some (.int i1), some (.int i2), some (.int i3), some (.int s0), some (.int (i2 - s0)), o6, o7]) (st1 := [.int (-1000000 : Int32)]) 1 rfl rfl rfl rfl rfl rfl H
        · replace H := H.2 (Decidable.of_not_not (of_decide_eq_false c))
          refine mm_R.br (L' := [some (r0), some (.int i1), some (.int i2), some (.int i3), some (.int s0), some (.int (i2 - s0)), o6, o7]) (st' := []) (t := 89) (u := 86) (b := mm_cc .le (i2 - s0) (1 : Int32)) 3 rfl (fun c => ?_) (fun c => ?_)
          · replace H := H.1 (of_decide_eq_true c)
            exact mm_R.pn (pc' := 96) (L' := [some (r0), some (.int i1), some (.int i2), some (.int i3), some (.int s0), some (.int (i2 - s0)), some (.int (0 : Int32)), some (.int s0)]) (st' := []) 4 rfl H
          · replace H := H.2 (of_decide_eq_false c)
            exact mm_R.rt (pc' := 88) (L' := [some (r0), some (.int i1), some (.int i2), some (.int i3), some (.int s0), some (.int (i2 - s0)), o6, o7]) (st1 := [.int (-1000000 : Int32)]) 1 rfl rfl rfl rfl rfl rfl H
    · replace H := H.2 (of_decide_eq_false c)
      exact mm_R.rt (pc' := 66) (L' := [some (r0), some (.int i1), some (.int i2), some (.int i3), some (.int s0), some (.int (i2 - s0)), o6, o7]) (st1 := [.int (-1000000 : Int32)]) 1 rfl rfl rfl rfl rfl rfl H
-- StepRunner$Value.numberIn, from 96
set_option maxRecDepth 10000 in
theorem w38_96 {X : List Int32} {d : Nat} {r0 : Value} {i1 : Int32} {i2 : Int32} {i3 : Int32} {i4 : Int32} {i5 : Int32} {i6 : Int32} {i7 : Int32} {hp : mm_H} {Q : Option Value → mm_H → Prop} (H : ((i2 ≤ i7 → ((i3 = (0 : Int32) → Q (some (.int i6)) hp) ∧ (¬ i3 = (0 : Int32) → Q (some (.int (-i6))) hp))) ∧ (¬ i2 ≤ i7 → mm_isr r0 = true ∧ mw_ai 1001 r0 i7 hp (fun x2 => mm_R X d 37 0 (mm_L0 37 [.int x2]) [] hp (mw_ri (fun x4 hp3 => ((¬ x4 = (0 : Int32) → mw_ai 1001 r0 i7 hp3 (fun x5 => mm_R X (d + 1) 38 96 [some (r0), some (.int i1), some (.int i2), some (.int i3), some (.int i4), some (.int i5), some (.int ((i6 * (10 : Int32)) + (x5 - (48 : Int32)))), some (.int (i7 + (1 : Int32)))] [] hp3 Q)) ∧ (x4 = (0 : Int32) → Q (some (.int (-1000000 : Int32))) hp3)))))))) : mm_R X (d + 1) 38 96 [some (r0), some (.int i1), some (.int i2), some (.int i3), some (.int i4), some (.int i5), some (.int i6), some (.int i7)] [] hp Q := by
  refine mm_R.br (L' := [some (r0), some (.int i1), some (.int i2), some (.int i3), some (.int i4), some (.int i5), some (.int i6), some (.int i7)]) (st' := []) (t := 136) (u := 102) (b := mm_cc .ge i7 i2) 3 rfl (fun c => ?_) (fun c => ?_)
  · replace H := H.1 (of_decide_eq_true c)
    refine mm_R.br (L' := [some (r0), some (.int i1), some (.int i2), some (.int i3), some (.int i4), some (.int i5), some (.int i6), some (.int i7)]) (st' := []) (t := 146) (u := 140) (b := mm_cc .eq i3 (0 : Int32)) 2 rfl (fun c => ?_) (fun c => ?_)
    · replace H := H.1 (of_decide_eq_true c)
      exact mm_R.rt (pc' := 148) (L' := [some (r0), some (.int i1), some (.int i2), some (.int i3), some (.int i4), some (.int i5), some (.int i6), some (.int i7)]) (st1 := [.int i6]) 1 rfl rfl rfl rfl rfl rfl H
    · replace H := H.2 (of_decide_eq_false c)
      exact mm_R.rt (pc' := 148) (L' := [some (r0), some (.int i1), some (.int i2), some (.int i3), some (.int i4), some (.int i5), some (.int i6), some (.int i7)]) (st1 := [.int (-i6)]) 3 rfl rfl rfl rfl rfl rfl H
  · replace H := H.2 (of_decide_eq_false c)
    obtain ⟨hr1, H⟩ := H
    refine mm_R.al (pc' := 102) (L' := [some (r0), some (.int i1), some (.int i2), some (.int i3), some (.int i4), some (.int i5), some (.int i6), some (.int i7)]) (r := []) (v := r0) 0 rfl rfl rfl rfl hr1 ?_
    refine mm_R.wai (pc' := 105) (L' := [some (r0), some (.int i1), some (.int i2), some (.int i3), some (.int i4), some (.int i5), some (.int i6), some (.int i7)]) (r := []) (t := 1001) 1 rfl rfl rfl rfl (H.mono (fun x2 H => ?_))
    refine mm_R.cS (pc' := 106) (L' := [some (r0), some (.int i1), some (.int i2), some (.int i3), some (.int i4), some (.int i5), some (.int i6), some (.int i7)]) (st1 := [.int x2]) (as := [.int x2]) (rest := []) 0 rfl rfl (mw_sp rfl rfl (Nat.le_of_ble_eq_true rfl) (mw_ac rfl mw_an) mw_an) rfl rfl (H.mono (fun o hp3 H => ?_))
    obtain ⟨x4, rfl, H⟩ := H
    refine mm_R.br (L' := [some (r0), some (.int i1), some (.int i2), some (.int i3), some (.int i4), some (.int i5), some (.int i6), some (.int i7)]) (st' := []) (t := 115) (u := 112) (b := mm_cc .ne x4 (0 : Int32)) 1 rfl (fun c => ?_) (fun c => ?_)
    · replace H := H.1 (of_decide_eq_true c)
      refine mm_R.al (pc' := 120) (L' := [some (r0), some (.int i1), some (.int i2), some (.int i3), some (.int i4), some (.int i5), some (.int i6), some (.int i7)]) (r := [.int (i6 * (10 : Int32))]) (v := r0) 3 rfl rfl rfl rfl hr1 ?_
      refine mm_R.wai (pc' := 123) (L' := [some (r0), some (.int i1), some (.int i2), some (.int i3), some (.int i4), some (.int i5), some (.int i6), some (.int i7)]) (r := [.int (i6 * (10 : Int32))]) (t := 1001) 1 rfl rfl rfl rfl (H.mono (fun x5 H => ?_))
      exact mm_R.pn (pc' := 96) (L' := [some (r0), some (.int i1), some (.int i2), some (.int i3), some (.int i4), some (.int i5), some (.int ((i6 * (10 : Int32)) + (x5 - (48 : Int32)))), some (.int (i7 + (1 : Int32)))]) (st' := []) 6 rfl H
    · replace H := H.2 (Decidable.of_not_not (of_decide_eq_false c))
      exact mm_R.rt (pc' := 114) (L' := [some (r0), some (.int i1), some (.int i2), some (.int i3), some (.int i4), some (.int i5), some (.int i6), some (.int i7)]) (st1 := [.int (-1000000 : Int32)]) 1 rfl rfl rfl rfl rfl rfl H
