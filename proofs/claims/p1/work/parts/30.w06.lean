-- StepRunner$Value.isList, from 0
set_option maxRecDepth 10000 in
theorem w65_0 {X : List Int32} {d : Nat} {a0 : Nat} {hp : mm_H} {Q : Option Value → mm_H → Prop} (H : mw_gi 2 2 (.ref a0) hp (fun x1 => ((¬ x1 = (3 : Int32) → Q (some (.int (0 : Int32))) hp) ∧ (x1 = (3 : Int32) → Q (some (.int (1 : Int32))) hp)))) : mm_R X (d + 1) 65 0 (mm_L0 65 [(.ref a0)]) [] hp Q := by
  show mm_R X (d + 1) 65 0 [some ((.ref a0))] [] hp Q
  refine mm_R.wgi (pc' := 1) (L' := [some ((.ref a0))]) (r := []) 1 rfl rfl (H.mono (fun x1 H => ?_))
  refine mm_R.br (L' := [some ((.ref a0))]) (st' := []) (t := 12) (u := 8) (b := mm_cc .ne x1 (3 : Int32)) 2 rfl (fun c => ?_) (fun c => ?_)
  · replace H := H.1 (of_decide_eq_true c)
    exact mm_R.rt (pc' := 13) (L' := [some ((.ref a0))]) (st1 := [.int (0 : Int32)]) 1 rfl rfl rfl rfl rfl rfl H
  · replace H := H.2 (Decidable.of_not_not (of_decide_eq_false c))
    exact mm_R.rt (pc' := 13) (L' := [some ((.ref a0))]) (st1 := [.int (1 : Int32)]) 2 rfl rfl rfl rfl rfl rfl H
-- StepRunner$Value.addItemsOf, from 0
set_option maxRecDepth 10000 in
theorem w66_0 {X : List Int32} {d : Nat} {a0 : Nat} {r1 : Value} {hp : mm_H} {Q : Option Value → mm_H → Prop} (H : mm_R X (d + 1) 66 2 [some ((.ref a0)), some (r1), some (.int (0 : Int32))] [] hp Q) : mm_R X (d + 1) 66 0 (mm_L0 66 [(.ref a0), r1]) [] hp Q := by
  show mm_R X (d + 1) 66 0 [some ((.ref a0)), some (r1), none] [] hp Q
  exact mm_R.pn (pc' := 2) (L' := [some ((.ref a0)), some (r1), some (.int (0 : Int32))]) (st' := []) 2 rfl H
-- StepRunner$Value.addItemsOf, from 2
set_option maxRecDepth 10000 in
theorem w66_2 {X : List Int32} {d : Nat} {a0 : Nat} {r1 : Value} {i2 : Int32} {hp : mm_H} {Q : Option Value → mm_H → Prop} (H : mm_isr r1 = true ∧ mw_gi 2 4 r1 hp (fun x2 => ((x2 ≤ i2 → Q (some (.int (1 : Int32))) hp) ∧ (¬ x2 ≤ i2 → mw_rc r1 67 hp ∧ mm_R X d 67 0 (mm_L0 67 [r1, .int i2]) [] hp (mw_rv (fun v5 hp4 => mw_rc (.ref a0) 32 hp4 ∧ mm_isr v5 = true ∧ mm_R X d 32 0 (mm_L0 32 [(.ref a0), v5]) [] hp4 (mw_ri (fun x9 hp8 => ((¬ x9 = (0 : Int32) → mm_R X (d + 1) 66 2 [some ((.ref a0)), some (r1), some (.int (i2 + (1 : Int32)))] [] hp8 Q) ∧ (x9 = (0 : Int32) → Q (some (.int (0 : Int32))) hp8)))))))))) : mm_R X (d + 1) 66 2 [some ((.ref a0)), some (r1), some (.int i2)] [] hp Q := by
  obtain ⟨hr1, H⟩ := H
  refine mm_R.al (pc' := 3) (L' := [some ((.ref a0)), some (r1), some (.int i2)]) (r := [.int i2]) (v := r1) 1 rfl rfl rfl rfl hr1 ?_
  refine mm_R.wgi (pc' := 4) (L' := [some ((.ref a0)), some (r1), some (.int i2)]) (r := [.int i2]) 0 rfl rfl (H.mono (fun x2 H => ?_))
  refine mm_R.br (L' := [some ((.ref a0)), some (r1), some (.int i2)]) (st' := []) (t := 30) (u := 10) (b := mm_cc .ge i2 x2) 1 rfl (fun c => ?_) (fun c => ?_)
  · replace H := H.1 (of_decide_eq_true c)
    exact mm_R.rt (pc' := 31) (L' := [some ((.ref a0)), some (r1), some (.int i2)]) (st1 := [.int (1 : Int32)]) 1 rfl rfl rfl rfl rfl rfl H
  · replace H := H.2 (of_decide_eq_false c)
    refine mm_R.al (pc' := 11) (L' := [some ((.ref a0)), some (r1), some (.int i2)]) (r := [(.ref a0)]) (v := r1) 1 rfl rfl rfl rfl hr1 ?_
    obtain ⟨hc3, H⟩ := H
    refine mm_R.cV (pc' := 13) (L' := [some ((.ref a0)), some (r1), some (.int i2)]) (st1 := [.int i2, r1, (.ref a0)]) (as := [.int i2]) (rest := [(.ref a0)]) 1 rfl rfl (mw_sp rfl rfl (Nat.le_of_ble_eq_true rfl) (mw_ac (mw_c1 hc3.isr) (mw_ac rfl mw_an)) (mw_ac rfl mw_an)) rfl rfl hc3 (H.mono (fun o hp4 H => ?_))
    obtain ⟨v5, rfl, H⟩ := H
    obtain ⟨hc6, H⟩ := H
    obtain ⟨hr7, H⟩ := H
    refine mm_R.cV (pc' := 16) (L' := [some ((.ref a0)), some (r1), some (.int i2)]) (st1 := [v5, (.ref a0)]) (as := [v5]) (rest := []) 0 rfl rfl (mw_sp rfl rfl (Nat.le_of_ble_eq_true rfl) (mw_ac rfl (mw_ac (mw_c1 hr7) mw_an)) mw_an) rfl rfl hc6 (H.mono (fun o hp8 H => ?_))
    obtain ⟨x9, rfl, H⟩ := H
    refine mm_R.br (L' := [some ((.ref a0)), some (r1), some (.int i2)]) (st' := []) (t := 24) (u := 22) (b := mm_cc .ne x9 (0 : Int32)) 1 rfl (fun c => ?_) (fun c => ?_)
    · replace H := H.1 (of_decide_eq_true c)
      exact mm_R.pn (pc' := 2) (L' := [some ((.ref a0)), some (r1), some (.int (i2 + (1 : Int32)))]) (st' := []) 2 rfl H
    · replace H := H.2 (Decidable.of_not_not (of_decide_eq_false c))
      exact mm_R.rt (pc' := 23) (L' := [some ((.ref a0)), some (r1), some (.int i2)]) (st1 := [.int (0 : Int32)]) 1 rfl rfl rfl rfl rfl rfl H
-- StepRunner$Value.itemAt, from 0
set_option maxRecDepth 10000 in
theorem w67_0 {X : List Int32} {d : Nat} {a0 : Nat} {i1 : Int32} {hp : mm_H} {Q : Option Value → mm_H → Prop} (H : mw_gi 2 2 (.ref a0) hp (fun x1 => ((¬ x1 = (3 : Int32) → Q (some .null) hp) ∧ (x1 = (3 : Int32) → mw_gv 2 1 (.ref a0) hp (fun v2 => mw_nl v2 (Q (some .null) hp) (((i1 < (0 : Int32) → Q (some .null) hp) ∧ (¬ i1 < (0 : Int32) → mw_gi 2 4 (.ref a0) hp (fun x3 => ((x3 ≤ i1 → Q (some .null) hp) ∧ (¬ x3 ≤ i1 → mw_gv 2 1 (.ref a0) hp (fun v4 => mw_ln v4 hp (fun x5 => ((i1 < x5 → mw_gv 2 1 (.ref a0) hp (fun v6 => mw_av v6 i1 hp (fun v7 => mw_nr v7 ∧ Q (some v7) hp))) ∧ (¬ i1 < x5 → Q (some .null) hp))))))))))))))) : mm_R X (d + 1) 67 0 (mm_L0 67 [(.ref a0), .int i1]) [] hp Q := by
  show mm_R X (d + 1) 67 0 [some ((.ref a0)), some (.int i1)] [] hp Q
  refine mm_R.wgi (pc' := 1) (L' := [some ((.ref a0)), some (.int i1)]) (r := []) 1 rfl rfl (H.mono (fun x1 H => ?_))
  refine mm_R.br (L' := [some ((.ref a0)), some (.int i1)]) (st' := []) (t := 36) (u := 8) (b := mm_cc .ne x1 (3 : Int32)) 2 rfl (fun c => ?_) (fun c => ?_)
  · replace H := H.1 (of_decide_eq_true c)
    exact mm_R.rt (pc' := 46) (L' := [some ((.ref a0)), some (.int i1)]) (st1 := [.null]) 2 rfl rfl rfl rfl rfl rfl H
  · replace H := H.2 (Decidable.of_not_not (of_decide_eq_false c))
    refine mm_R.wgv (pc' := 9) (L' := [some ((.ref a0)), some (.int i1)]) (r := []) 1 rfl rfl (H.mono (fun v2 H => ?_))
    refine mm_R.wnl (pc' := 12) (L' := [some ((.ref a0)), some (.int i1)]) (r := []) (v := v2) (t := 36) (u := 15) 0 rfl rfl rfl (H.mono (fun H => ?_) (fun H => ?_))
    · exact mm_R.rt (pc' := 46) (L' := [some ((.ref a0)), some (.int i1)]) (st1 := [.null]) 2 rfl rfl rfl rfl rfl rfl H
    · refine mm_R.br (L' := [some ((.ref a0)), some (.int i1)]) (st' := []) (t := 36) (u := 19) (b := mm_cc .lt i1 (0 : Int32)) 2 rfl (fun c => ?_) (fun c => ?_)
      · replace H := H.1 (of_decide_eq_true c)
        exact mm_R.rt (pc' := 46) (L' := [some ((.ref a0)), some (.int i1)]) (st1 := [.null]) 2 rfl rfl rfl rfl rfl rfl H
      · replace H := H.2 (of_decide_eq_false c)
        refine mm_R.wgi (pc' := 21) (L' := [some ((.ref a0)), some (.int i1)]) (r := [.int i1]) 2 rfl rfl (H.mono (fun x3 H => ?_))
        refine mm_R.br (L' := [some ((.ref a0)), some (.int i1)]) (st' := []) (t := 36) (u := 27) (b := mm_cc .ge i1 x3) 1 rfl (fun c => ?_) (fun c => ?_)
        · replace H := H.1 (of_decide_eq_true c)
          exact mm_R.rt (pc' := 46) (L' := [some ((.ref a0)), some (.int i1)]) (st1 := [.null]) 2 rfl rfl rfl rfl rfl rfl H
        · replace H := H.2 (of_decide_eq_false c)
          refine mm_R.wgv (pc' := 29) (L' := [some ((.ref a0)), some (.int i1)]) (r := [.int i1]) 2 rfl rfl (H.mono (fun v4 H => ?_))
          refine mm_R.wln (pc' := 32) (L' := [some ((.ref a0)), some (.int i1)]) (r := [.int i1]) 0 rfl rfl (H.mono (fun x5 H => ?_))
          refine mm_R.br (L' := [some ((.ref a0)), some (.int i1)]) (st' := []) (t := 40) (u := 36) (b := mm_cc .lt i1 x5) 1 rfl (fun c => ?_) (fun c => ?_)
          · replace H := H.1 (of_decide_eq_true c)
            refine mm_R.wgv (pc' := 41) (L' := [some ((.ref a0)), some (.int i1)]) (r := []) 1 rfl rfl (H.mono (fun v6 H => ?_))
            refine mm_R.wav (pc' := 45) (L' := [some ((.ref a0)), some (.int i1)]) (r := []) 1 rfl rfl (H.mono (fun v7 H => ?_))
            exact mm_R.rt (pc' := 46) (L' := [some ((.ref a0)), some (.int i1)]) (st1 := [v7]) 0 rfl rfl rfl rfl rfl (mw_rva (ty := (.object "StepRunner$Value")) H.1 rfl) H.2
          · replace H := H.2 (of_decide_eq_false c)
            exact mm_R.rt (pc' := 46) (L' := [some ((.ref a0)), some (.int i1)]) (st1 := [.null]) 2 rfl rfl rfl rfl rfl rfl H
-- StepRunner$Expander.pick, from 0
set_option maxRecDepth 10000 in
theorem w68_0 {X : List Int32} {d : Nat} {i0 : Int32} {r1 : Value} {r2 : Value} {hp : mm_H} {Q : Option Value → mm_H → Prop} (H : ((¬ i0 = (0 : Int32) → mm_isr r1 = true ∧ mw_rc r1 65 hp ∧ mm_R X d 65 0 (mm_L0 65 [r1]) [] hp (mw_ri (fun x4 hp3 => ((¬ x4 = (0 : Int32) → mm_isr r2 = true ∧ mw_rc r2 10 hp3 ∧ mm_R X d 10 0 (mm_L0 10 [r2]) [] hp3 (mw_r0 (fun hp7 => mm_R X (d + 1) 68 21 [some (.int i0), some (r1), some (r2), some (.int (0 : Int32)), none] [] hp7 Q))) ∧ (x4 = (0 : Int32) → Q (some .null) hp3))))) ∧ (i0 = (0 : Int32) → mm_isr r1 = true ∧ mw_nr r1 ∧ Q (some r1) hp))) : mm_R X (d + 1) 68 0 (mm_L0 68 [.int i0, r1, r2]) [] hp Q := by
  show mm_R X (d + 1) 68 0 [some (.int i0), some (r1), some (r2), none, none] [] hp Q
  refine mm_R.br (L' := [some (.int i0), some (r1), some (r2), none, none]) (st' := []) (t := 6) (u := 4) (b := mm_cc .ne i0 (0 : Int32)) 2 rfl (fun c => ?_) (fun c => ?_)
  · replace H := H.1 (of_decide_eq_true c)
    obtain ⟨hr1, H⟩ := H
    refine mm_R.al (pc' := 6) (L' := [some (.int i0), some (r1), some (r2), none, none]) (r := []) (v := r1) 0 rfl rfl rfl rfl hr1 ?_
    obtain ⟨hc2, H⟩ := H
    refine mm_R.cV (pc' := 7) (L' := [some (.int i0), some (r1), some (r2), none, none]) (st1 := [r1]) (as := []) (rest := []) 0 rfl rfl (mw_sp rfl rfl (Nat.le_of_ble_eq_true rfl) (mw_ac (mw_c1 hc2.isr) mw_an) mw_an) rfl rfl hc2 (H.mono (fun o hp3 H => ?_))
    obtain ⟨x4, rfl, H⟩ := H
    refine mm_R.br (L' := [some (.int i0), some (r1), some (r2), none, none]) (st' := []) (t := 15) (u := 13) (b := mm_cc .ne x4 (0 : Int32)) 1 rfl (fun c => ?_) (fun c => ?_)
    · replace H := H.1 (of_decide_eq_true c)
      obtain ⟨hr5, H⟩ := H
      refine mm_R.al (pc' := 15) (L' := [some (.int i0), some (r1), some (r2), none, none]) (r := []) (v := r2) 0 rfl rfl rfl rfl hr5 ?_
      obtain ⟨hc6, H⟩ := H
      refine mm_R.cV (pc' := 16) (L' := [some (.int i0), some (r1), some (r2), none, none]) (st1 := [r2]) (as := []) (rest := []) 0 rfl rfl (mw_sp rfl rfl (Nat.le_of_ble_eq_true rfl) (mw_ac (mw_c1 hc6.isr) mw_an) mw_an) rfl rfl hc6 (H.mono (fun o hp7 H => ?_))
      obtain ⟨rfl, H⟩ := H
      exact mm_R.pn (pc' := 21) (L' := [some (.int i0), some (r1), some (r2), some (.int (0 : Int32)), none]) (st' := []) 2 rfl H
    · replace H := H.2 (Decidable.of_not_not (of_decide_eq_false c))
      exact mm_R.rt (pc' := 14) (L' := [some (.int i0), some (r1), some (r2), none, none]) (st1 := [.null]) 1 rfl rfl rfl rfl rfl rfl H
  · replace H := H.2 (Decidable.of_not_not (of_decide_eq_false c))
    obtain ⟨hr8, H⟩ := H
    refine mm_R.al (pc' := 4) (L' := [some (.int i0), some (r1), some (r2), none, none]) (r := []) (v := r1) 0 rfl rfl rfl rfl hr8 ?_
    exact mm_R.rt (pc' := 5) (L' := [some (.int i0), some (r1), some (r2), none, none]) (st1 := [r1]) 0 rfl rfl rfl rfl rfl (mw_rva (ty := (.object "StepRunner$Value")) H.1 rfl) H.2
-- StepRunner$Expander.pick, from 21
set_option maxRecDepth 10000 in
theorem w68_21 {X : List Int32} {d : Nat} {i0 : Int32} {r1 : Value} {r2 : Value} {i3 : Int32} {o4 : Option Value} {hp : mm_H} {Q : Option Value → mm_H → Prop} (H : mm_isr r1 = true ∧ mw_gi 2 4 r1 hp (fun x2 => ((x2 ≤ i3 → ((¬ i0 = (3 : Int32) → ((¬ i0 = (2 : Int32) → mm_isr r2 = true ∧ mw_rc r2 67 hp ∧ mm_R X d 67 0 (mm_L0 67 [r2, .int (0 : Int32)]) [] hp (mw_rv (fun v6 hp5 => mw_nr v6 ∧ Q (some v6) hp5))) ∧ (i0 = (2 : Int32) → mm_isr r2 = true ∧ mw_gi 2 4 r2 hp (fun x8 => ((x8 = (1 : Int32) → mw_rc r2 67 hp ∧ mm_R X d 67 0 (mm_L0 67 [r2, .int (0 : Int32)]) [] hp (mw_rv (fun v11 hp10 => mw_nr v11 ∧ Q (some v11) hp10))) ∧ (¬ x8 = (1 : Int32) → Q (some .null) hp)))))) ∧ (i0 = (3 : Int32) → mm_isr r2 = true ∧ mw_nr r2 ∧ Q (some r2) hp))) ∧ (¬ x2 ≤ i3 → mw_rc r1 67 hp ∧ mm_R X d 67 0 (mm_L0 67 [r1, .int i3]) [] hp (mw_rv (fun v15 hp14 => mm_isr v15 = true ∧ mw_nl v15 (Q (some .null) hp14) (mw_rc v15 69 hp14 ∧ mm_R X d 69 0 (mm_L0 69 [v15]) [] hp14 (mw_ri (fun x19 hp18 => ((¬ x19 = (0 : Int32) → mm_R X (d + 1) 68 21 [some (.int i0), some (r1), some (r2), some (.int (i3 + (1 : Int32))), some (v15)] [] hp18 Q) ∧ (x19 = (0 : Int32) → mm_isr r2 = true ∧ mw_rc r2 32 hp18 ∧ mm_R X d 32 0 (mm_L0 32 [r2, v15]) [] hp18 (mw_ri (fun x23 hp22 => ((¬ x23 = (0 : Int32) → mm_R X (d + 1) 68 21 [some (.int i0), some (r1), some (r2), some (.int (i3 + (1 : Int32))), some (v15)] [] hp22 Q) ∧ (x23 = (0 : Int32) → Q (some .null) hp22))))))))))))))) : mm_R X (d + 1) 68 21 [some (.int i0), some (r1), some (r2), some (.int i3), o4] [] hp Q := by
  obtain ⟨hr1, H⟩ := H
  refine mm_R.al (pc' := 22) (L' := [some (.int i0), some (r1), some (r2), some (.int i3), o4]) (r := [.int i3]) (v := r1) 1 rfl rfl rfl rfl hr1 ?_
  refine mm_R.wgi (pc' := 23) (L' := [some (.int i0), some (r1), some (r2), some (.int i3), o4]) (r := [.int i3]) 0 rfl rfl (H.mono (fun x2 H => ?_))
  refine mm_R.br (L' := [some (.int i0), some (r1), some (r2), some (.int i3), o4]) (st' := []) (t := 66) (u := 29) (b := mm_cc .ge i3 x2) 1 rfl (fun c => ?_) (fun c => ?_)
  · replace H := H.1 (of_decide_eq_true c)
    refine mm_R.br (L' := [some (.int i0), some (r1), some (r2), some (.int i3), o4]) (st' := []) (t := 73) (u := 71) (b := mm_cc .ne i0 (3 : Int32)) 3 rfl (fun c => ?_) (fun c => ?_)
    · replace H := H.1 (of_decide_eq_true c)
      refine mm_R.br (L' := [some (.int i0), some (r1), some (r2), some (.int i3), o4]) (st' := []) (t := 90) (u := 78) (b := mm_cc .ne i0 (2 : Int32)) 3 rfl (fun c => ?_) (fun c => ?_)
      · replace H := H.1 (of_decide_eq_true c)
        obtain ⟨hr3, H⟩ := H
        refine mm_R.al (pc' := 90) (L' := [some (.int i0), some (r1), some (r2), some (.int i3), o4]) (r := []) (v := r2) 0 rfl rfl rfl rfl hr3 ?_
        obtain ⟨hc4, H⟩ := H
        refine mm_R.cV (pc' := 92) (L' := [some (.int i0), some (r1), some (r2), some (.int i3), o4]) (st1 := [.int (0 : Int32), r2]) (as := [.int (0 : Int32)]) (rest := []) 1 rfl rfl (mw_sp rfl rfl (Nat.le_of_ble_eq_true rfl) (mw_ac (mw_c1 hc4.isr) (mw_ac rfl mw_an)) mw_an) rfl rfl hc4 (H.mono (fun o hp5 H => ?_))
        obtain ⟨v6, rfl, H⟩ := H
        exact mm_R.rt (pc' := 95) (L' := [some (.int i0), some (r1), some (r2), some (.int i3), o4]) (st1 := [v6]) 0 rfl rfl rfl rfl rfl (mw_rva (ty := (.object "StepRunner$Value")) H.1 rfl) H.2
      · replace H := H.2 (Decidable.of_not_not (of_decide_eq_false c))
        obtain ⟨hr7, H⟩ := H
        refine mm_R.al (pc' := 78) (L' := [some (.int i0), some (r1), some (r2), some (.int i3), o4]) (r := []) (v := r2) 0 rfl rfl rfl rfl hr7 ?_
        refine mm_R.wgi (pc' := 79) (L' := [some (.int i0), some (r1), some (r2), some (.int i3), o4]) (r := []) 0 rfl rfl (H.mono (fun x8 H => ?_))
        refine mm_R.br (L' := [some (.int i0), some (r1), some (r2), some (.int i3), o4]) (st' := []) (t := 90) (u := 86) (b := mm_cc .eq x8 (1 : Int32)) 2 rfl (fun c => ?_) (fun c => ?_)
        · replace H := H.1 (of_decide_eq_true c)
          refine mm_R.al (pc' := 90) (L' := [some (.int i0), some (r1), some (r2), some (.int i3), o4]) (r := []) (v := r2) 0 rfl rfl rfl rfl hr7 ?_
          obtain ⟨hc9, H⟩ := H
          refine mm_R.cV (pc' := 92) (L' := [some (.int i0), some (r1), some (r2), some (.int i3), o4]) (st1 := [.int (0 : Int32), r2]) (as := [.int (0 : Int32)]) (rest := []) 1 rfl rfl (mw_sp rfl rfl (Nat.le_of_ble_eq_true rfl) (mw_ac (mw_c1 hc9.isr) (mw_ac rfl mw_an)) mw_an) rfl rfl hc9 (H.mono (fun o hp10 H => ?_))
          obtain ⟨v11, rfl, H⟩ := H
          exact mm_R.rt (pc' := 95) (L' := [some (.int i0), some (r1), some (r2), some (.int i3), o4]) (st1 := [v11]) 0 rfl rfl rfl rfl rfl (mw_rva (ty := (.object "StepRunner$Value")) H.1 rfl) H.2
        · replace H := H.2 (of_decide_eq_false c)
          exact mm_R.rt (pc' := 95) (L' := [some (.int i0), some (r1), some (r2), some (.int i3), o4]) (st1 := [.null]) 2 rfl rfl rfl rfl rfl rfl H
    · replace H := H.2 (Decidable.of_not_not (of_decide_eq_false c))
      obtain ⟨hr12, H⟩ := H
      refine mm_R.al (pc' := 71) (L' := [some (.int i0), some (r1), some (r2), some (.int i3), o4]) (r := []) (v := r2) 0 rfl rfl rfl rfl hr12 ?_
      exact mm_R.rt (pc' := 72) (L' := [some (.int i0), some (r1), some (r2), some (.int i3), o4]) (st1 := [r2]) 0 rfl rfl rfl rfl rfl (mw_rva (ty := (.object "StepRunner$Value")) H.1 rfl) H.2
  · replace H := H.2 (of_decide_eq_false c)
    refine mm_R.al (pc' := 29) (L' := [some (.int i0), some (r1), some (r2), some (.int i3), o4]) (r := []) (v := r1) 0 rfl rfl rfl rfl hr1 ?_
    obtain ⟨hc13, H⟩ := H
    refine mm_R.cV (pc' := 31) (L' := [some (.int i0), some (r1), some (r2), some (.int i3), o4]) (st1 := [.int i3, r1]) (as := [.int i3]) (rest := []) 1 rfl rfl (mw_sp rfl rfl (Nat.le_of_ble_eq_true rfl) (mw_ac (mw_c1 hc13.isr) (mw_ac rfl mw_an)) mw_an) rfl rfl hc13 (H.mono (fun o hp14 H => ?_))
    obtain ⟨v15, rfl, H⟩ := H
    obtain ⟨hr16, H⟩ := H
    refine mm_R.as (pc' := 34) (L' := [some (.int i0), some (r1), some (r2), some (.int i3), o4]) (r := []) (v := v15) 0 rfl rfl rfl rfl hr16 ?_
    refine mm_R.al (pc' := 36) (L' := [some (.int i0), some (r1), some (r2), some (.int i3), some (v15)]) (r := []) (v := v15) 0 rfl rfl rfl rfl hr16 ?_
    refine mm_R.wnl (pc' := 38) (L' := [some (.int i0), some (r1), some (r2), some (.int i3), some (v15)]) (r := []) (v := v15) (t := 58) (u := 41) 0 rfl rfl rfl (H.mono (fun H => ?_) (fun H => ?_))
    · exact mm_R.rt (pc' := 59) (L' := [some (.int i0), some (r1), some (r2), some (.int i3), some (v15)]) (st1 := [.null]) 1 rfl rfl rfl rfl rfl rfl H
    · refine mm_R.al (pc' := 41) (L' := [some (.int i0), some (r1), some (r2), some (.int i3), some (v15)]) (r := []) (v := v15) 0 rfl rfl rfl rfl hr16 ?_
      obtain ⟨hc17, H⟩ := H
      refine mm_R.cV (pc' := 43) (L' := [some (.int i0), some (r1), some (r2), some (.int i3), some (v15)]) (st1 := [v15]) (as := []) (rest := []) 0 rfl rfl (mw_sp rfl rfl (Nat.le_of_ble_eq_true rfl) (mw_ac (mw_c1 hc17.isr) mw_an) mw_an) rfl rfl hc17 (H.mono (fun o hp18 H => ?_))
      obtain ⟨x19, rfl, H⟩ := H
      refine mm_R.br (L' := [some (.int i0), some (r1), some (r2), some (.int i3), some (v15)]) (st' := []) (t := 60) (u := 49) (b := mm_cc .ne x19 (0 : Int32)) 1 rfl (fun c => ?_) (fun c => ?_)
      · replace H := H.1 (of_decide_eq_true c)
        exact mm_R.pn (pc' := 21) (L' := [some (.int i0), some (r1), some (r2), some (.int (i3 + (1 : Int32))), some (v15)]) (st' := []) 2 rfl H
      · replace H := H.2 (Decidable.of_not_not (of_decide_eq_false c))
        obtain ⟨hr20, H⟩ := H
        refine mm_R.al (pc' := 49) (L' := [some (.int i0), some (r1), some (r2), some (.int i3), some (v15)]) (r := []) (v := r2) 0 rfl rfl rfl rfl hr20 ?_
        refine mm_R.al (pc' := 50) (L' := [some (.int i0), some (r1), some (r2), some (.int i3), some (v15)]) (r := [r2]) (v := v15) 0 rfl rfl rfl rfl hc17.isr ?_
        obtain ⟨hc21, H⟩ := H
        refine mm_R.cV (pc' := 52) (L' := [some (.int i0), some (r1), some (r2), some (.int i3), some (v15)]) (st1 := [v15, r2]) (as := [v15]) (rest := []) 0 rfl rfl (mw_sp rfl rfl (Nat.le_of_ble_eq_true rfl) (mw_ac (mw_c1 hc21.isr) (mw_ac (mw_c1 hc17.isr) mw_an)) mw_an) rfl rfl hc21 (H.mono (fun o hp22 H => ?_))
        obtain ⟨x23, rfl, H⟩ := H
        refine mm_R.br (L' := [some (.int i0), some (r1), some (r2), some (.int i3), some (v15)]) (st' := []) (t := 60) (u := 58) (b := mm_cc .ne x23 (0 : Int32)) 1 rfl (fun c => ?_) (fun c => ?_)
        · replace H := H.1 (of_decide_eq_true c)
          exact mm_R.pn (pc' := 21) (L' := [some (.int i0), some (r1), some (r2), some (.int (i3 + (1 : Int32))), some (v15)]) (st' := []) 2 rfl H
        · replace H := H.2 (Decidable.of_not_not (of_decide_eq_false c))
          exact mm_R.rt (pc' := 59) (L' := [some (.int i0), some (r1), some (r2), some (.int i3), some (v15)]) (st1 := [.null]) 1 rfl rfl rfl rfl rfl rfl H
-- StepRunner$Value.isNothing, from 0
set_option maxRecDepth 10000 in
theorem w69_0 {X : List Int32} {d : Nat} {a0 : Nat} {hp : mm_H} {Q : Option Value → mm_H → Prop} (H : mw_gi 2 2 (.ref a0) hp (fun x1 => ((¬ x1 = (0 : Int32) → Q (some (.int (0 : Int32))) hp) ∧ (x1 = (0 : Int32) → Q (some (.int (1 : Int32))) hp)))) : mm_R X (d + 1) 69 0 (mm_L0 69 [(.ref a0)]) [] hp Q := by
  show mm_R X (d + 1) 69 0 [some ((.ref a0))] [] hp Q
  refine mm_R.wgi (pc' := 1) (L' := [some ((.ref a0))]) (r := []) 1 rfl rfl (H.mono (fun x1 H => ?_))
  refine mm_R.br (L' := [some ((.ref a0))]) (st' := []) (t := 11) (u := 7) (b := mm_cc .ne x1 (0 : Int32)) 1 rfl (fun c => ?_) (fun c => ?_)
  · replace H := H.1 (of_decide_eq_true c)
    exact mm_R.rt (pc' := 12) (L' := [some ((.ref a0))]) (st1 := [.int (0 : Int32)]) 1 rfl rfl rfl rfl rfl rfl H
  · replace H := H.2 (Decidable.of_not_not (of_decide_eq_false c))
    exact mm_R.rt (pc' := 12) (L' := [some ((.ref a0))]) (st1 := [.int (1 : Int32)]) 2 rfl rfl rfl rfl rfl rfl H
-- StepRunner$Expander.countJobs, from 0
set_option maxRecDepth 10000 in
theorem w70_0 {X : List Int32} {d : Nat} {a0 : Nat} {r1 : Value} {r2 : Value} {hp : mm_H} {Q : Option Value → mm_H → Prop} (H : mm_isr r1 = true ∧ mw_rc r1 71 hp ∧ mm_R X d 71 0 (mm_L0 71 [r1]) [] hp (mw_ri (fun x4 hp3 => ((¬ x4 = (0 : Int32) → mw_gi 7 9 r1 hp3 (fun x5 => ((x5 = (0 : Int32) → mm_R X (d + 1) 70 23 [some ((.ref a0)), some (r1), some (r2), some (.int x4), none, none, none, none, none, none, none] [.int (0 : Int32)] hp3 Q) ∧ (¬ x5 = (0 : Int32) → mm_R X (d + 1) 70 23 [some ((.ref a0)), some (r1), some (r2), some (.int x4), none, none, none, none, none, none, none] [.int (1 : Int32)] hp3 Q)))) ∧ (x4 = (0 : Int32) → Q (some (.int (1 : Int32))) hp3))))) : mm_R X (d + 1) 70 0 (mm_L0 70 [(.ref a0), r1, r2]) [] hp Q := by
  show mm_R X (d + 1) 70 0 [some ((.ref a0)), some (r1), some (r2), none, none, none, none, none, none, none, none] [] hp Q
  obtain ⟨hr1, H⟩ := H
  refine mm_R.al (pc' := 0) (L' := [some ((.ref a0)), some (r1), some (r2), none, none, none, none, none, none, none, none]) (r := []) (v := r1) 0 rfl rfl rfl rfl hr1 ?_
  obtain ⟨hc2, H⟩ := H
  refine mm_R.cV (pc' := 1) (L' := [some ((.ref a0)), some (r1), some (r2), none, none, none, none, none, none, none, none]) (st1 := [r1]) (as := []) (rest := []) 0 rfl rfl (mw_sp rfl rfl (Nat.le_of_ble_eq_true rfl) (mw_ac (mw_c1 hc2.isr) mw_an) mw_an) rfl rfl hc2 (H.mono (fun o hp3 H => ?_))
  obtain ⟨x4, rfl, H⟩ := H
  refine mm_R.br (L' := [some ((.ref a0)), some (r1), some (r2), some (.int x4), none, none, none, none, none, none, none]) (st' := []) (t := 11) (u := 9) (b := mm_cc .ne x4 (0 : Int32)) 3 rfl (fun c => ?_) (fun c => ?_)
  · replace H := H.1 (of_decide_eq_true c)
    refine mm_R.al (pc' := 11) (L' := [some ((.ref a0)), some (r1), some (r2), some (.int x4), none, none, none, none, none, none, none]) (r := []) (v := r1) 0 rfl rfl rfl rfl hc2.isr ?_
    refine mm_R.wgi (pc' := 12) (L' := [some ((.ref a0)), some (r1), some (r2), some (.int x4), none, none, none, none, none, none, none]) (r := []) 0 rfl rfl (H.mono (fun x5 H => ?_))
    refine mm_R.br (L' := [some ((.ref a0)), some (r1), some (r2), some (.int x4), none, none, none, none, none, none, none]) (st' := []) (t := 22) (u := 18) (b := mm_cc .eq x5 (0 : Int32)) 1 rfl (fun c => ?_) (fun c => ?_)
    · replace H := H.1 (of_decide_eq_true c)
      exact mm_R.pn (pc' := 23) (L' := [some ((.ref a0)), some (r1), some (r2), some (.int x4), none, none, none, none, none, none, none]) (st' := [.int (0 : Int32)]) 1 rfl H
    · replace H := H.2 (of_decide_eq_false c)
      exact mm_R.pn (pc' := 23) (L' := [some ((.ref a0)), some (r1), some (r2), some (.int x4), none, none, none, none, none, none, none]) (st' := [.int (1 : Int32)]) 2 rfl H
  · replace H := H.2 (Decidable.of_not_not (of_decide_eq_false c))
    exact mm_R.rt (pc' := 10) (L' := [some ((.ref a0)), some (r1), some (r2), some (.int x4), none, none, none, none, none, none, none]) (st1 := [.int (1 : Int32)]) 1 rfl rfl rfl rfl rfl rfl H
-- StepRunner$Expander.countJobs, from 23
set_option maxRecDepth 10000 in
theorem w70_23 {X : List Int32} {d : Nat} {a0 : Nat} {r1 : Value} {r2 : Value} {i3 : Int32} {o4 : Option Value} {o5 : Option Value} {o6 : Option Value} {o7 : Option Value} {o8 : Option Value} {o9 : Option Value} {o10 : Option Value} {s0 : Int32} {hp : mm_H} {Q : Option Value → mm_H → Prop} (H : mm_isr r1 = true ∧ mw_gi 7 9 r1 hp (fun x2 => ((¬ x2 = (2 : Int32) → mm_R X (d + 1) 70 46 [some ((.ref a0)), some (r1), some (r2), some (.int i3), some (.int s0), some (.int (0 : Int32)), some (.int (-1 : Int32)), some (.int (0 : Int32)), o8, o9, o10] [] hp Q) ∧ (x2 = (2 : Int32) → mm_R X (d + 1) 70 46 [some ((.ref a0)), some (r1), some (r2), some (.int i3), some (.int s0), some (.int (1 : Int32)), some (.int (-1 : Int32)), some (.int (0 : Int32)), o8, o9, o10] [] hp Q)))) : mm_R X (d + 1) 70 23 [some ((.ref a0)), some (r1), some (r2), some (.int i3), o4, o5, o6, o7, o8, o9, o10] [.int s0] hp Q := by
  obtain ⟨hr1, H⟩ := H
  refine mm_R.al (pc' := 25) (L' := [some ((.ref a0)), some (r1), some (r2), some (.int i3), some (.int s0), o5, o6, o7, o8, o9, o10]) (r := []) (v := r1) 1 rfl rfl rfl rfl hr1 ?_
  refine mm_R.wgi (pc' := 26) (L' := [some ((.ref a0)), some (r1), some (r2), some (.int i3), some (.int s0), o5, o6, o7, o8, o9, o10]) (r := []) 0 rfl rfl (H.mono (fun x2 H => ?_))
  refine mm_R.br (L' := [some ((.ref a0)), some (r1), some (r2), some (.int i3), some (.int s0), o5, o6, o7, o8, o9, o10]) (st' := []) (t := 37) (u := 33) (b := mm_cc .ne x2 (2 : Int32)) 2 rfl (fun c => ?_) (fun c => ?_)
  · replace H := H.1 (of_decide_eq_true c)
    exact mm_R.pn (pc' := 46) (L' := [some ((.ref a0)), some (r1), some (r2), some (.int i3), some (.int s0), some (.int (0 : Int32)), some (.int (-1 : Int32)), some (.int (0 : Int32)), o8, o9, o10]) (st' := []) 6 rfl H
  · replace H := H.2 (Decidable.of_not_not (of_decide_eq_false c))
    exact mm_R.pn (pc' := 46) (L' := [some ((.ref a0)), some (r1), some (r2), some (.int i3), some (.int s0), some (.int (1 : Int32)), some (.int (-1 : Int32)), some (.int (0 : Int32)), o8, o9, o10]) (st' := []) 7 rfl H
-- StepRunner$Expander.countJobs, from 46
set_option maxRecDepth 10000 in
theorem w70_46 {X : List Int32} {d : Nat} {a0 : Nat} {r1 : Value} {r2 : Value} {i3 : Int32} {i4 : Int32} {i5 : Int32} {i6 : Int32} {i7 : Int32} {o8 : Option Value} {o9 : Option Value} {o10 : Option Value} {hp : mm_H} {Q : Option Value → mm_H → Prop} (H : (((4 : Int32) ≤ i7 → ((¬ i5 = (0 : Int32) → Q (some (.int i6)) hp) ∧ (i5 = (0 : Int32) → mm_isr r2 = true ∧ mw_rc r2 73 hp ∧ mm_R X d 73 0 (mm_L0 73 [r2, .int i6]) [] hp (mw_r0 (fun hp3 => Q (some (.int i6)) hp3))))) ∧ (¬ (4 : Int32) ≤ i7 → mm_R X d 72 0 (mm_L0 72 [.int i3, .int i7]) [] hp (mw_ri (fun x5 hp4 => ((¬ x5 = (0 : Int32) → mw_gv 4 7 (.ref a0) hp4 (fun v6 => mw_av v6 i7 hp4 (fun v7 => mm_isr v7 = true ∧ ((¬ i6 = (-1 : Int32) → mm_R X (d + 1) 70 84 [some ((.ref a0)), some (r1), some (r2), some (.int i3), some (.int i4), some (.int i5), some (.int i6), some (.int i7), some (v7), o9, o10] [.int (0 : Int32)] hp4 Q) ∧ (i6 = (-1 : Int32) → mm_R X (d + 1) 70 84 [some ((.ref a0)), some (r1), some (r2), some (.int i3), some (.int i4), some (.int i5), some (.int i6), some (.int i7), some (v7), o9, o10] [.int (1 : Int32)] hp4 Q))))) ∧ (x5 = (0 : Int32) → mm_R X (d + 1) 70 46 [some ((.ref a0)), some (r1), some (r2), some (.int i3), some (.int i4), some (.int i5), some (.int i6), some (.int (i7 + (1 : Int32))), o8, o9, o10] [] hp4 Q))))))) : mm_R X (d + 1) 70 46 [some ((.ref a0)), some (r1), some (r2), some (.int i3), some (.int i4), some (.int i5), some (.int i6), some (.int i7), o8, o9, o10] [] hp Q := by
  refine mm_R.br (L' := [some ((.ref a0)), some (r1), some (r2), some (.int i3), some (.int i4), some (.int i5), some (.int i6), some (.int i7), o8, o9, o10]) (st' := []) (t := 176) (u := 52) (b := mm_cc .ge i7 (4 : Int32)) 3 rfl (fun c => ?_) (fun c => ?_)
  · replace H := H.1 (of_decide_eq_true c)
    refine mm_R.br (L' := [some ((.ref a0)), some (r1), some (r2), some (.int i3), some (.int i4), some (.int i5), some (.int i6), some (.int i7), o8, o9, o10]) (st' := []) (t := 187) (u := 181) (b := mm_cc .ne i5 (0 : Int32)) 2 rfl (fun c => ?_) (fun c => ?_)
    · replace H := H.1 (of_decide_eq_true c)
      exact mm_R.rt (pc' := 189) (L' := [some ((.ref a0)), some (r1), some (r2), some (.int i3), some (.int i4), some (.int i5), some (.int i6), some (.int i7), o8, o9, o10]) (st1 := [.int i6]) 1 rfl rfl rfl rfl rfl rfl H
    · replace H := H.2 (Decidable.of_not_not (of_decide_eq_false c))
      obtain ⟨hr1, H⟩ := H
      refine mm_R.al (pc' := 181) (L' := [some ((.ref a0)), some (r1), some (r2), some (.int i3), some (.int i4), some (.int i5), some (.int i6), some (.int i7), o8, o9, o10]) (r := []) (v := r2) 0 rfl rfl rfl rfl hr1 ?_
      obtain ⟨hc2, H⟩ := H
      refine mm_R.cV (pc' := 184) (L' := [some ((.ref a0)), some (r1), some (r2), some (.int i3), some (.int i4), some (.int i5), some (.int i6), some (.int i7), o8, o9, o10]) (st1 := [.int i6, r2]) (as := [.int i6]) (rest := []) 1 rfl rfl (mw_sp rfl rfl (Nat.le_of_ble_eq_true rfl) (mw_ac (mw_c1 hc2.isr) (mw_ac rfl mw_an)) mw_an) rfl rfl hc2 (H.mono (fun o hp3 H => ?_))
      obtain ⟨rfl, H⟩ := H
      exact mm_R.rt (pc' := 189) (L' := [some ((.ref a0)), some (r1), some (r2), some (.int i3), some (.int i4), some (.int i5), some (.int i6), some (.int i7), o8, o9, o10]) (st1 := [.int i6]) 1 rfl rfl rfl rfl rfl rfl H
  · replace H := H.2 (of_decide_eq_false c)
    refine mm_R.cS (pc' := 55) (L' := [some ((.ref a0)), some (r1), some (r2), some (.int i3), some (.int i4), some (.int i5), some (.int i6), some (.int i7), o8, o9, o10]) (st1 := [.int i7, .int i3]) (as := [.int i3, .int i7]) (rest := []) 2 rfl rfl (mw_sp rfl rfl (Nat.le_of_ble_eq_true rfl) (mw_ac rfl (mw_ac rfl mw_an)) mw_an) rfl rfl (H.mono (fun o hp4 H => ?_))
    obtain ⟨x5, rfl, H⟩ := H
    refine mm_R.br (L' := [some ((.ref a0)), some (r1), some (r2), some (.int i3), some (.int i4), some (.int i5), some (.int i6), some (.int i7), o8, o9, o10]) (st' := []) (t := 64) (u := 61) (b := mm_cc .ne x5 (0 : Int32)) 1 rfl (fun c => ?_) (fun c => ?_)
    · replace H := H.1 (of_decide_eq_true c)
      refine mm_R.wgv (pc' := 65) (L' := [some ((.ref a0)), some (r1), some (r2), some (.int i3), some (.int i4), some (.int i5), some (.int i6), some (.int i7), o8, o9, o10]) (r := []) 1 rfl rfl (H.mono (fun v6 H => ?_))
      refine mm_R.wav (pc' := 70) (L' := [some ((.ref a0)), some (r1), some (r2), some (.int i3), some (.int i4), some (.int i5), some (.int i6), some (.int i7), o8, o9, o10]) (r := []) 1 rfl rfl (H.mono (fun v7 H => ?_))
      obtain ⟨hr8, H⟩ := H
      refine mm_R.as (pc' := 71) (L' := [some ((.ref a0)), some (r1), some (r2), some (.int i3), some (.int i4), some (.int i5), some (.int i6), some (.int i7), o8, o9, o10]) (r := []) (v := v7) 0 rfl rfl rfl rfl hr8 ?_
      refine mm_R.br (L' := [some ((.ref a0)), some (r1), some (r2), some (.int i3), some (.int i4), some (.int i5), some (.int i6), some (.int i7), some (v7), o9, o10]) (st' := []) (t := 83) (u := 79) (b := mm_cc .ne i6 (-1 : Int32)) 3 rfl (fun c => ?_) (fun c => ?_)
      · replace H := H.1 (of_decide_eq_true c)
        exact mm_R.pn (pc' := 84) (L' := [some ((.ref a0)), some (r1), some (r2), some (.int i3), some (.int i4), some (.int i5), some (.int i6), some (.int i7), some (v7), o9, o10]) (st' := [.int (0 : Int32)]) 1 rfl H
      · replace H := H.2 (Decidable.of_not_not (of_decide_eq_false c))
        exact mm_R.pn (pc' := 84) (L' := [some ((.ref a0)), some (r1), some (r2), some (.int i3), some (.int i4), some (.int i5), some (.int i6), some (.int i7), some (v7), o9, o10]) (st' := [.int (1 : Int32)]) 2 rfl H
    · replace H := H.2 (Decidable.of_not_not (of_decide_eq_false c))
      exact mm_R.pn (pc' := 46) (L' := [some ((.ref a0)), some (r1), some (r2), some (.int i3), some (.int i4), some (.int i5), some (.int i6), some (.int (i7 + (1 : Int32))), o8, o9, o10]) (st' := []) 3 rfl H
-- StepRunner$Expander.countJobs, from 84
set_option maxRecDepth 10000 in
theorem w70_84 {X : List Int32} {d : Nat} {a0 : Nat} {r1 : Value} {r2 : Value} {i3 : Int32} {i4 : Int32} {i5 : Int32} {i6 : Int32} {i7 : Int32} {r8 : Value} {o9 : Option Value} {o10 : Option Value} {s0 : Int32} {hp : mm_H} {Q : Option Value → mm_H → Prop} (H : ((¬ i4 = (0 : Int32) → mm_R X (d + 1) 70 111 [some ((.ref a0)), some (r1), some (r2), some (.int i3), some (.int i4), some (.int i5), some (.int i6), some (.int i7), some (r8), some (.int s0), o10] [.int (0 : Int32)] hp Q) ∧ (i4 = (0 : Int32) → ((¬ s0 = (0 : Int32) → mm_R X (d + 1) 70 111 [some ((.ref a0)), some (r1), some (r2), some (.int i3), some (.int i4), some (.int i5), some (.int i6), some (.int i7), some (r8), some (.int s0), o10] [.int (0 : Int32)] hp Q) ∧ (s0 = (0 : Int32) → mm_isr r8 = true ∧ mw_gi 2 4 r8 hp (fun x2 => ((i6 = x2 → mm_R X (d + 1) 70 111 [some ((.ref a0)), some (r1), some (r2), some (.int i3), some (.int i4), some (.int i5), some (.int i6), some (.int i7), some (r8), some (.int s0), o10] [.int (0 : Int32)] hp Q) ∧ (¬ i6 = x2 → mm_R X (d + 1) 70 111 [some ((.ref a0)), some (r1), some (r2), some (.int i3), some (.int i4), some (.int i5), some (.int i6), some (.int i7), some (r8), some (.int s0), o10] [.int (1 : Int32)] hp Q)))))))) : mm_R X (d + 1) 70 84 [some ((.ref a0)), some (r1), some (r2), some (.int i3), some (.int i4), some (.int i5), some (.int i6), some (.int i7), some (r8), o9, o10] [.int s0] hp Q := by
  refine mm_R.br (L' := [some ((.ref a0)), some (r1), some (r2), some (.int i3), some (.int i4), some (.int i5), some (.int i6), some (.int i7), some (r8), some (.int s0), o10]) (st' := []) (t := 110) (u := 91) (b := mm_cc .ne i4 (0 : Int32)) 3 rfl (fun c => ?_) (fun c => ?_)
  · replace H := H.1 (of_decide_eq_true c)
    exact mm_R.pn (pc' := 111) (L' := [some ((.ref a0)), some (r1), some (r2), some (.int i3), some (.int i4), some (.int i5), some (.int i6), some (.int i7), some (r8), some (.int s0), o10]) (st' := [.int (0 : Int32)]) 1 rfl H
  · replace H := H.2 (Decidable.of_not_not (of_decide_eq_false c))
    refine mm_R.br (L' := [some ((.ref a0)), some (r1), some (r2), some (.int i3), some (.int i4), some (.int i5), some (.int i6), some (.int i7), some (r8), some (.int s0), o10]) (st' := []) (t := 110) (u := 96) (b := mm_cc .ne s0 (0 : Int32)) 2 rfl (fun c => ?_) (fun c => ?_)
    · replace H := H.1 (of_decide_eq_true c)
      exact mm_R.pn (pc' := 111) (L' := [some ((.ref a0)), some (r1), some (r2), some (.int i3), some (.int i4), some (.int i5), some (.int i6), some (.int i7), some (r8), some (.int s0), o10]) (st' := [.int (0 : Int32)]) 1 rfl H
    · replace H := H.2 (Decidable.of_not_not (of_decide_eq_false c))
      obtain ⟨hr1, H⟩ := H
      refine mm_R.al (pc' := 98) (L' := [some ((.ref a0)), some (r1), some (r2), some (.int i3), some (.int i4), some (.int i5), some (.int i6), some (.int i7), some (r8), some (.int s0), o10]) (r := [.int i6]) (v := r8) 1 rfl rfl rfl rfl hr1 ?_
      refine mm_R.wgi (pc' := 100) (L' := [some ((.ref a0)), some (r1), some (r2), some (.int i3), some (.int i4), some (.int i5), some (.int i6), some (.int i7), some (r8), some (.int s0), o10]) (r := [.int i6]) 0 rfl rfl (H.mono (fun x2 H => ?_))
      refine mm_R.br (L' := [some ((.ref a0)), some (r1), some (r2), some (.int i3), some (.int i4), some (.int i5), some (.int i6), some (.int i7), some (r8), some (.int s0), o10]) (st' := []) (t := 110) (u := 106) (b := mm_cc .eq i6 x2) 1 rfl (fun c => ?_) (fun c => ?_)
      · replace H := H.1 (of_decide_eq_true c)
        exact mm_R.pn (pc' := 111) (L' := [some ((.ref a0)), some (r1), some (r2), some (.int i3), some (.int i4), some (.int i5), some (.int i6), some (.int i7), some (r8), some (.int s0), o10]) (st' := [.int (0 : Int32)]) 1 rfl H
      · replace H := H.2 (of_decide_eq_false c)
        exact mm_R.pn (pc' := 111) (L' := [some ((.ref a0)), some (r1), some (r2), some (.int i3), some (.int i4), some (.int i5), some (.int i6), some (.int i7), some (r8), some (.int s0), o10]) (st' := [.int (1 : Int32)]) 2 rfl H
-- StepRunner$Expander.countJobs, from 111
set_option maxRecDepth 10000 in
theorem w70_111 {X : List Int32} {d : Nat} {a0 : Nat} {r1 : Value} {r2 : Value} {i3 : Int32} {i4 : Int32} {i5 : Int32} {i6 : Int32} {i7 : Int32} {r8 : Value} {i9 : Int32} {o10 : Option Value} {s0 : Int32} {hp : mm_H} {Q : Option Value → mm_H → Prop} (H : mm_isr r8 = true ∧ mw_rc r8 65 hp ∧ mm_R X d 65 0 (mm_L0 65 [r8]) [] hp (mw_ri (fun x4 hp3 => ((x4 = (0 : Int32) → Q (some (.int (-1 : Int32))) hp3) ∧ (¬ x4 = (0 : Int32) → ((s0 = (0 : Int32) → ((i4 = (0 : Int32) → mw_gi 2 4 r8 hp3 (fun x5 => mm_R X (d + 1) 70 154 [some ((.ref a0)), some (r1), some (r2), some (.int i3), some (.int i4), some (.int i5), some (.int i6), some (.int i7), some (r8), some (.int i9), some (.int s0)] [.int x5] hp3 Q)) ∧ (¬ i4 = (0 : Int32) → ((¬ i9 = (0 : Int32) → mw_gi 2 4 r8 hp3 (fun x6 => mm_R X (d + 1) 70 154 [some ((.ref a0)), some (r1), some (r2), some (.int i3), some (.int i4), some (.int i5), some (.int i6), some (.int i7), some (r8), some (.int i9), some (.int s0)] [.int x6] hp3 Q)) ∧ (i9 = (0 : Int32) → mw_gi 2 4 r8 hp3 (fun x7 => mm_R X (d + 1) 70 154 [some ((.ref a0)), some (r1), some (r2), some (.int i3), some (.int i4), some (.int i5), some (.int i6), some (.int i7), some (r8), some (.int i9), some (.int s0)] [.int (i6 * x7)] hp3 Q)))))) ∧ (¬ s0 = (0 : Int32) → Q (some (.int (-1 : Int32))) hp3))))))) : mm_R X (d + 1) 70 111 [some ((.ref a0)), some (r1), some (r2), some (.int i3), some (.int i4), some (.int i5), some (.int i6), some (.int i7), some (r8), some (.int i9), o10] [.int s0] hp Q := by
  obtain ⟨hr1, H⟩ := H
  refine mm_R.al (pc' := 113) (L' := [some ((.ref a0)), some (r1), some (r2), some (.int i3), some (.int i4), some (.int i5), some (.int i6), some (.int i7), some (r8), some (.int i9), some (.int s0)]) (r := []) (v := r8) 1 rfl rfl rfl rfl hr1 ?_
  obtain ⟨hc2, H⟩ := H
  refine mm_R.cV (pc' := 115) (L' := [some ((.ref a0)), some (r1), some (r2), some (.int i3), some (.int i4), some (.int i5), some (.int i6), some (.int i7), some (r8), some (.int i9), some (.int s0)]) (st1 := [r8]) (as := []) (rest := []) 0 rfl rfl (mw_sp rfl rfl (Nat.le_of_ble_eq_true rfl) (mw_ac (mw_c1 hc2.isr) mw_an) mw_an) rfl rfl hc2 (H.mono (fun o hp3 H => ?_))
  obtain ⟨x4, rfl, H⟩ := H
  refine mm_R.br (L' := [some ((.ref a0)), some (r1), some (r2), some (.int i3), some (.int i4), some (.int i5), some (.int i6), some (.int i7), some (r8), some (.int i9), some (.int s0)]) (st' := []) (t := 126) (u := 121) (b := mm_cc .eq x4 (0 : Int32)) 1 rfl (fun c => ?_) (fun c => ?_)
  · replace H := H.1 (of_decide_eq_true c)
    exact mm_R.rt (pc' := 127) (L' := [some ((.ref a0)), some (r1), some (r2), some (.int i3), some (.int i4), some (.int i5), some (.int i6), some (.int i7), some (r8), some (.int i9), some (.int s0)]) (st1 := [.int (-1 : Int32)]) 1 rfl rfl rfl rfl rfl rfl H
  · replace H := H.2 (of_decide_eq_false c)
    refine mm_R.br (L' := [some ((.ref a0)), some (r1), some (r2), some (.int i3), some (.int i4), some (.int i5), some (.int i6), some (.int i7), some (r8), some (.int i9), some (.int s0)]) (st' := []) (t := 128) (u := 126) (b := mm_cc .eq s0 (0 : Int32)) 2 rfl (fun c => ?_) (fun c => ?_)
    · replace H := H.1 (of_decide_eq_true c)
      refine mm_R.br (L' := [some ((.ref a0)), some (r1), some (r2), some (.int i3), some (.int i4), some (.int i5), some (.int i6), some (.int i7), some (r8), some (.int i9), some (.int s0)]) (st' := []) (t := 149) (u := 133) (b := mm_cc .eq i4 (0 : Int32)) 2 rfl (fun c => ?_) (fun c => ?_)
      · replace H := H.1 (of_decide_eq_true c)
        refine mm_R.al (pc' := 149) (L' := [some ((.ref a0)), some (r1), some (r2), some (.int i3), some (.int i4), some (.int i5), some (.int i6), some (.int i7), some (r8), some (.int i9), some (.int s0)]) (r := []) (v := r8) 0 rfl rfl rfl rfl hc2.isr ?_
        refine mm_R.wgi (pc' := 151) (L' := [some ((.ref a0)), some (r1), some (r2), some (.int i3), some (.int i4), some (.int i5), some (.int i6), some (.int i7), some (r8), some (.int i9), some (.int s0)]) (r := []) 0 rfl rfl (H.mono (fun x5 H => ?_))
        exact H
      · replace H := H.2 (of_decide_eq_false c)
        refine mm_R.br (L' := [some ((.ref a0)), some (r1), some (r2), some (.int i3), some (.int i4), some (.int i5), some (.int i6), some (.int i7), some (r8), some (.int i9), some (.int s0)]) (st' := []) (t := 149) (u := 138) (b := mm_cc .ne i9 (0 : Int32)) 2 rfl (fun c => ?_) (fun c => ?_)
        · replace H := H.1 (of_decide_eq_true c)
          refine mm_R.al (pc' := 149) (L' := [some ((.ref a0)), some (r1), some (r2), some (.int i3), some (.int i4), some (.int i5), some (.int i6), some (.int i7), some (r8), some (.int i9), some (.int s0)]) (r := []) (v := r8) 0 rfl rfl rfl rfl hc2.isr ?_
          refine mm_R.wgi (pc' := 151) (L' := [some ((.ref a0)), some (r1), some (r2), some (.int i3), some (.int i4), some (.int i5), some (.int i6), some (.int i7), some (r8), some (.int i9), some (.int s0)]) (r := []) 0 rfl rfl (H.mono (fun x6 H => ?_))
          exact H
        · replace H := H.2 (Decidable.of_not_not (of_decide_eq_false c))
          refine mm_R.al (pc' := 140) (L' := [some ((.ref a0)), some (r1), some (r2), some (.int i3), some (.int i4), some (.int i5), some (.int i6), some (.int i7), some (r8), some (.int i9), some (.int s0)]) (r := [.int i6]) (v := r8) 1 rfl rfl rfl rfl hc2.isr ?_
          refine mm_R.wgi (pc' := 142) (L' := [some ((.ref a0)), some (r1), some (r2), some (.int i3), some (.int i4), some (.int i5), some (.int i6), some (.int i7), some (r8), some (.int i9), some (.int s0)]) (r := [.int i6]) 0 rfl rfl (H.mono (fun x7 H => ?_))
          exact mm_R.pn (pc' := 154) (L' := [some ((.ref a0)), some (r1), some (r2), some (.int i3), some (.int i4), some (.int i5), some (.int i6), some (.int i7), some (r8), some (.int i9), some (.int s0)]) (st' := [.int (i6 * x7)]) 2 rfl H
    · replace H := H.2 (of_decide_eq_false c)
      exact mm_R.rt (pc' := 127) (L' := [some ((.ref a0)), some (r1), some (r2), some (.int i3), some (.int i4), some (.int i5), some (.int i6), some (.int i7), some (r8), some (.int i9), some (.int s0)]) (st1 := [.int (-1 : Int32)]) 1 rfl rfl rfl rfl rfl rfl H
-- StepRunner$Expander.countJobs, from 154
set_option maxRecDepth 10000 in
theorem w70_154 {X : List Int32} {d : Nat} {a0 : Nat} {r1 : Value} {r2 : Value} {i3 : Int32} {i4 : Int32} {i5 : Int32} {i6 : Int32} {i7 : Int32} {r8 : Value} {i9 : Int32} {i10 : Int32} {s0 : Int32} {hp : mm_H} {Q : Option Value → mm_H → Prop} (H : ((i5 = (0 : Int32) → mm_R X (d + 1) 70 46 [some ((.ref a0)), some (r1), some (r2), some (.int i3), some (.int i4), some (.int i5), some (.int s0), some (.int (i7 + (1 : Int32))), some (r8), some (.int i9), some (.int i10)] [] hp Q) ∧ (¬ i5 = (0 : Int32) → mm_isr r2 = true ∧ mm_isr r8 = true ∧ mw_gi 2 4 r8 hp (fun x3 => mw_rc r2 73 hp ∧ mm_R X d 73 0 (mm_L0 73 [r2, .int x3]) [] hp (mw_r0 (fun hp5 => mm_R X (d + 1) 70 46 [some ((.ref a0)), some (r1), some (r2), some (.int i3), some (.int i4), some (.int i5), some (.int s0), some (.int (i7 + (1 : Int32))), some (r8), some (.int i9), some (.int i10)] [] hp5 Q)))))) : mm_R X (d + 1) 70 154 [some ((.ref a0)), some (r1), some (r2), some (.int i3), some (.int i4), some (.int i5), some (.int i6), some (.int i7), some (r8), some (.int i9), some (.int i10)] [.int s0] hp Q := by
  refine mm_R.br (L' := [some ((.ref a0)), some (r1), some (r2), some (.int i3), some (.int i4), some (.int i5), some (.int s0), some (.int i7), some (r8), some (.int i9), some (.int i10)]) (st' := []) (t := 170) (u := 161) (b := mm_cc .eq i5 (0 : Int32)) 3 rfl (fun c => ?_) (fun c => ?_)
  · replace H := H.1 (of_decide_eq_true c)
    exact mm_R.pn (pc' := 46) (L' := [some ((.ref a0)), some (r1), some (r2), some (.int i3), some (.int i4), some (.int i5), some (.int s0), some (.int (i7 + (1 : Int32))), some (r8), some (.int i9), some (.int i10)]) (st' := []) 2 rfl H
  · replace H := H.2 (of_decide_eq_false c)
    obtain ⟨hr1, H⟩ := H
    refine mm_R.al (pc' := 161) (L' := [some ((.ref a0)), some (r1), some (r2), some (.int i3), some (.int i4), some (.int i5), some (.int s0), some (.int i7), some (r8), some (.int i9), some (.int i10)]) (r := []) (v := r2) 0 rfl rfl rfl rfl hr1 ?_
    obtain ⟨hr2, H⟩ := H
    refine mm_R.al (pc' := 162) (L' := [some ((.ref a0)), some (r1), some (r2), some (.int i3), some (.int i4), some (.int i5), some (.int s0), some (.int i7), some (r8), some (.int i9), some (.int i10)]) (r := [r2]) (v := r8) 0 rfl rfl rfl rfl hr2 ?_
    refine mm_R.wgi (pc' := 164) (L' := [some ((.ref a0)), some (r1), some (r2), some (.int i3), some (.int i4), some (.int i5), some (.int s0), some (.int i7), some (r8), some (.int i9), some (.int i10)]) (r := [r2]) 0 rfl rfl (H.mono (fun x3 H => ?_))
    obtain ⟨hc4, H⟩ := H
    refine mm_R.cV (pc' := 167) (L' := [some ((.ref a0)), some (r1), some (r2), some (.int i3), some (.int i4), some (.int i5), some (.int s0), some (.int i7), some (r8), some (.int i9), some (.int i10)]) (st1 := [.int x3, r2]) (as := [.int x3]) (rest := []) 0 rfl rfl (mw_sp rfl rfl (Nat.le_of_ble_eq_true rfl) (mw_ac (mw_c1 hc4.isr) (mw_ac rfl mw_an)) mw_an) rfl rfl hc4 (H.mono (fun o hp5 H => ?_))
    obtain ⟨rfl, H⟩ := H
    exact mm_R.pn (pc' := 46) (L' := [some ((.ref a0)), some (r1), some (r2), some (.int i3), some (.int i4), some (.int i5), some (.int s0), some (.int (i7 + (1 : Int32))), some (r8), some (.int i9), some (.int i10)]) (st' := []) 2 rfl H
-- StepRunner$Step.scatteredPorts, from 0
set_option maxRecDepth 10000 in
theorem w71_0 {X : List Int32} {d : Nat} {a0 : Nat} {hp : mm_H} {Q : Option Value → mm_H → Prop} (H : mw_gi 7 8 (.ref a0) hp (fun x1 => mw_gv 7 0 (.ref a0) hp (fun v2 => mw_gi 6 5 v2 hp (fun x3 => Q (some (.int (x1 &&& (((1 : Int32) <<< (x3 &&& 31)) - (1 : Int32))))) hp)))) : mm_R X (d + 1) 71 0 (mm_L0 71 [(.ref a0)]) [] hp Q := by
  show mm_R X (d + 1) 71 0 [some ((.ref a0))] [] hp Q
  refine mm_R.wgi (pc' := 1) (L' := [some ((.ref a0))]) (r := []) 1 rfl rfl (H.mono (fun x1 H => ?_))
  refine mm_R.wgv (pc' := 6) (L' := [some ((.ref a0))]) (r := [.int (1 : Int32), .int x1]) 2 rfl rfl (H.mono (fun v2 H => ?_))
  refine mm_R.wgi (pc' := 9) (L' := [some ((.ref a0))]) (r := [.int (1 : Int32), .int x1]) 0 rfl rfl (H.mono (fun x3 H => ?_))
  exact mm_R.rt (pc' := 16) (L' := [some ((.ref a0))]) (st1 := [.int (x1 &&& (((1 : Int32) <<< (x3 &&& 31)) - (1 : Int32)))]) 4 rfl rfl rfl rfl rfl rfl H
-- StepRunner.hasBit, from 0
set_option maxRecDepth 10000 in
theorem w72_0 {X : List Int32} {d : Nat} {i0 : Int32} {i1 : Int32} {hp : mm_H} {Q : Option Value → mm_H → Prop} (H : ((¬ ((i0 >>> (i1 &&& 31)) &&& (1 : Int32)) = (1 : Int32) → Q (some (.int (0 : Int32))) hp) ∧ (((i0 >>> (i1 &&& 31)) &&& (1 : Int32)) = (1 : Int32) → Q (some (.int (1 : Int32))) hp))) : mm_R X (d + 1) 72 0 (mm_L0 72 [.int i0, .int i1]) [] hp Q := by
  show mm_R X (d + 1) 72 0 [some (.int i0), some (.int i1)] [] hp Q
  refine mm_R.br (L' := [some (.int i0), some (.int i1)]) (st' := []) (t := 13) (u := 9) (b := mm_cc .ne ((i0 >>> (i1 &&& 31)) &&& (1 : Int32)) (1 : Int32)) 7 rfl (fun c => ?_) (fun c => ?_)
  · replace H := H.1 (of_decide_eq_true c)
    exact mm_R.rt (pc' := 14) (L' := [some (.int i0), some (.int i1)]) (st1 := [.int (0 : Int32)]) 1 rfl rfl rfl rfl rfl rfl H
  · replace H := H.2 (Decidable.of_not_not (of_decide_eq_false c))
    exact mm_R.rt (pc' := 14) (L' := [some (.int i0), some (.int i1)]) (st1 := [.int (1 : Int32)]) 2 rfl rfl rfl rfl rfl rfl H
-- StepRunner$Progress.addLevel, from 0
set_option maxRecDepth 10000 in
theorem w73_0 {X : List Int32} {d : Nat} {a0 : Nat} {i1 : Int32} {hp : mm_H} {Q : Option Value → mm_H → Prop} (H : mw_gi 5 5 (.ref a0) hp (fun x1 => (((4 : Int32) ≤ x1 → Q none hp) ∧ (¬ (4 : Int32) ≤ x1 → mw_gv 5 3 (.ref a0) hp (fun v2 => mw_gi 5 5 (.ref a0) hp (fun x3 => mw_si 1000 .int v2 x3 i1 hp (fun hp4 => mw_gi 5 5 (.ref a0) hp4 (fun x5 => mw_pt 5 5 (.ref a0) (.int (x5 + (1 : Int32))) hp4 (fun hp6 => Q none hp6))))))))) : mm_R X (d + 1) 73 0 (mm_L0 73 [(.ref a0), .int i1]) [] hp Q := by
  show mm_R X (d + 1) 73 0 [some ((.ref a0)), some (.int i1)] [] hp Q
  refine mm_R.wgi (pc' := 1) (L' := [some ((.ref a0)), some (.int i1)]) (r := []) 1 rfl rfl (H.mono (fun x1 H => ?_))
  refine mm_R.br (L' := [some ((.ref a0)), some (.int i1)]) (st' := []) (t := 28) (u := 8) (b := mm_cc .ge x1 (4 : Int32)) 2 rfl (fun c => ?_) (fun c => ?_)
  · replace H := H.1 (of_decide_eq_true c)
    exact mm_R.rt (pc' := 28) (L' := [some ((.ref a0)), some (.int i1)]) (st1 := []) 0 rfl rfl rfl rfl rfl rfl H
  · replace H := H.2 (of_decide_eq_false c)
    refine mm_R.wgv (pc' := 9) (L' := [some ((.ref a0)), some (.int i1)]) (r := []) 1 rfl rfl (H.mono (fun v2 H => ?_))
    refine mm_R.wgi (pc' := 13) (L' := [some ((.ref a0)), some (.int i1)]) (r := [v2]) 1 rfl rfl (H.mono (fun x3 H => ?_))
    refine mm_R.wsi (pc' := 17) (L' := [some ((.ref a0)), some (.int i1)]) (r := []) (t := 1000) (ty := .int) 1 rfl rfl rfl rfl (H.mono (fun hp4 H => ?_))
    refine mm_R.wgi (pc' := 20) (L' := [some ((.ref a0)), some (.int i1)]) (r := [(.ref a0)]) 2 rfl rfl (H.mono (fun x5 H => ?_))
    refine mm_R.wpt (pc' := 25) (L' := [some ((.ref a0)), some (.int i1)]) (r := []) 2 rfl rfl (H.mono (fun hp6 H => ?_))
    exact mm_R.rt (pc' := 28) (L' := [some ((.ref a0)), some (.int i1)]) (st1 := []) 0 rfl rfl rfl rfl rfl rfl H
-- StepRunner$Expander.chooseElements, from 0
set_option maxRecDepth 10000 in
theorem w74_0 {X : List Int32} {d : Nat} {a0 : Nat} {r1 : Value} {i2 : Int32} {hp : mm_H} {Q : Option Value → mm_H → Prop} (H : mm_isr r1 = true ∧ mw_rc r1 71 hp ∧ mm_R X d 71 0 (mm_L0 71 [r1]) [] hp (mw_ri (fun x4 hp3 => mw_gi 7 9 r1 hp3 (fun x5 => ((x5 = (0 : Int32) → mm_R X (d + 1) 74 25 [some ((.ref a0)), some (r1), some (.int i2), some (.int x4), some (.int (0 : Int32)), some (.int i2), some (.int (3 : Int32)), none, none] [] hp3 Q) ∧ (¬ x5 = (0 : Int32) → mm_R X (d + 1) 74 25 [some ((.ref a0)), some (r1), some (.int i2), some (.int x4), some (.int (1 : Int32)), some (.int i2), some (.int (3 : Int32)), none, none] [] hp3 Q)))))) : mm_R X (d + 1) 74 0 (mm_L0 74 [(.ref a0), r1, .int i2]) [] hp Q := by
  show mm_R X (d + 1) 74 0 [some ((.ref a0)), some (r1), some (.int i2), none, none, none, none, none, none] [] hp Q
  obtain ⟨hr1, H⟩ := H
  refine mm_R.al (pc' := 0) (L' := [some ((.ref a0)), some (r1), some (.int i2), none, none, none, none, none, none]) (r := []) (v := r1) 0 rfl rfl rfl rfl hr1 ?_
  obtain ⟨hc2, H⟩ := H
  refine mm_R.cV (pc' := 1) (L' := [some ((.ref a0)), some (r1), some (.int i2), none, none, none, none, none, none]) (st1 := [r1]) (as := []) (rest := []) 0 rfl rfl (mw_sp rfl rfl (Nat.le_of_ble_eq_true rfl) (mw_ac (mw_c1 hc2.isr) mw_an) mw_an) rfl rfl hc2 (H.mono (fun o hp3 H => ?_))
  obtain ⟨x4, rfl, H⟩ := H
  refine mm_R.al (pc' := 5) (L' := [some ((.ref a0)), some (r1), some (.int i2), some (.int x4), none, none, none, none, none]) (r := []) (v := r1) 1 rfl rfl rfl rfl hc2.isr ?_
  refine mm_R.wgi (pc' := 6) (L' := [some ((.ref a0)), some (r1), some (.int i2), some (.int x4), none, none, none, none, none]) (r := []) 0 rfl rfl (H.mono (fun x5 H => ?_))
  refine mm_R.br (L' := [some ((.ref a0)), some (r1), some (.int i2), some (.int x4), none, none, none, none, none]) (st' := []) (t := 16) (u := 12) (b := mm_cc .eq x5 (0 : Int32)) 1 rfl (fun c => ?_) (fun c => ?_)
  · replace H := H.1 (of_decide_eq_true c)
    exact mm_R.pn (pc' := 25) (L' := [some ((.ref a0)), some (r1), some (.int i2), some (.int x4), some (.int (0 : Int32)), some (.int i2), some (.int (3 : Int32)), none, none]) (st' := []) 6 rfl H
  · replace H := H.2 (of_decide_eq_false c)
    exact mm_R.pn (pc' := 25) (L' := [some ((.ref a0)), some (r1), some (.int i2), some (.int x4), some (.int (1 : Int32)), some (.int i2), some (.int (3 : Int32)), none, none]) (st' := []) 7 rfl H
-- StepRunner$Expander.chooseElements, from 25
set_option maxRecDepth 10000 in
theorem w74_25 {X : List Int32} {d : Nat} {a0 : Nat} {r1 : Value} {i2 : Int32} {i3 : Int32} {i4 : Int32} {i5 : Int32} {i6 : Int32} {o7 : Option Value} {o8 : Option Value} {hp : mm_H} {Q : Option Value → mm_H → Prop} (H : ((i6 < (0 : Int32) → Q none hp) ∧ (¬ i6 < (0 : Int32) → mw_gv 4 7 (.ref a0) hp (fun v1 => mw_av v1 i6 hp (fun v2 => mm_isr v2 = true ∧ mw_gv 4 8 (.ref a0) hp (fun v4 => mw_sv v4 i6 v2 hp (fun hp5 => mm_R X d 72 0 (mm_L0 72 [.int i3, .int i6]) [] hp5 (mw_ri (fun x7 hp6 => ((x7 = (0 : Int32) → mm_R X (d + 1) 74 25 [some ((.ref a0)), some (r1), some (.int i2), some (.int i3), some (.int i4), some (.int i5), some (.int (i6 + (-1 : Int32))), some (v2), o8] [] hp6 Q) ∧ (¬ x7 = (0 : Int32) → mw_gi 2 4 v2 hp6 (fun x8 => ((x8 ≤ (0 : Int32) → mm_R X (d + 1) 74 25 [some ((.ref a0)), some (r1), some (.int i2), some (.int i3), some (.int i4), some (.int i5), some (.int (i6 + (-1 : Int32))), some (v2), o8] [] hp6 Q) ∧ (¬ x8 ≤ (0 : Int32) → ((i4 = (0 : Int32) → mm_R X (d + 1) 74 84 [some ((.ref a0)), some (r1), some (.int i2), some (.int i3), some (.int i4), some (.int i5), some (.int i6), some (v2), o8] [.int i2, v2] hp6 Q) ∧ (¬ i4 = (0 : Int32) → mw_gi 2 4 v2 hp6 (fun x9 => ¬ x9 = (0 : Int32) ∧ (mm_R X (d + 1) 74 84 [some ((.ref a0)), some (r1), some (.int i2), some (.int i3), some (.int i4), some (.int i5), some (.int i6), some (v2), o8] [.int (i5 - i5 / x9 * x9), v2] hp6 Q)))))))))))))))))) : mm_R X (d + 1) 74 25 [some ((.ref a0)), some (r1), some (.int i2), some (.int i3), some (.int i4), some (.int i5), some (.int i6), o7, o8] [] hp Q := by
  refine mm_R.br (L' := [some ((.ref a0)), some (r1), some (.int i2), some (.int i3), some (.int i4), some (.int i5), some (.int i6), o7, o8]) (st' := []) (t := 126) (u := 30) (b := mm_cc .lt i6 (0 : Int32)) 2 rfl (fun c => ?_) (fun c => ?_)
  · replace H := H.1 (of_decide_eq_true c)
    exact mm_R.rt (pc' := 126) (L' := [some ((.ref a0)), some (r1), some (.int i2), some (.int i3), some (.int i4), some (.int i5), some (.int i6), o7, o8]) (st1 := []) 0 rfl rfl rfl rfl rfl rfl H
  · replace H := H.2 (of_decide_eq_false c)
    refine mm_R.wgv (pc' := 31) (L' := [some ((.ref a0)), some (r1), some (.int i2), some (.int i3), some (.int i4), some (.int i5), some (.int i6), o7, o8]) (r := []) 1 rfl rfl (H.mono (fun v1 H => ?_))
    refine mm_R.wav (pc' := 36) (L' := [some ((.ref a0)), some (r1), some (.int i2), some (.int i3), some (.int i4), some (.int i5), some (.int i6), o7, o8]) (r := []) 1 rfl rfl (H.mono (fun v2 H => ?_))
    obtain ⟨hr3, H⟩ := H
    refine mm_R.as (pc' := 37) (L' := [some ((.ref a0)), some (r1), some (.int i2), some (.int i3), some (.int i4), some (.int i5), some (.int i6), o7, o8]) (r := []) (v := v2) 0 rfl rfl rfl rfl hr3 ?_
    refine mm_R.wgv (pc' := 40) (L' := [some ((.ref a0)), some (r1), some (.int i2), some (.int i3), some (.int i4), some (.int i5), some (.int i6), some (v2), o8]) (r := []) 1 rfl rfl (H.mono (fun v4 H => ?_))
    refine mm_R.al (pc' := 45) (L' := [some ((.ref a0)), some (r1), some (.int i2), some (.int i3), some (.int i4), some (.int i5), some (.int i6), some (v2), o8]) (r := [.int i6, v4]) (v := v2) 1 rfl rfl rfl rfl hr3 ?_
    refine mm_R.wsv (pc' := 47) (L' := [some ((.ref a0)), some (r1), some (.int i2), some (.int i3), some (.int i4), some (.int i5), some (.int i6), some (v2), o8]) (r := []) 0 rfl rfl (H.mono (fun hp5 H => ?_))
    refine mm_R.cS (pc' := 51) (L' := [some ((.ref a0)), some (r1), some (.int i2), some (.int i3), some (.int i4), some (.int i5), some (.int i6), some (v2), o8]) (st1 := [.int i6, .int i3]) (as := [.int i3, .int i6]) (rest := []) 2 rfl rfl (mw_sp rfl rfl (Nat.le_of_ble_eq_true rfl) (mw_ac rfl (mw_ac rfl mw_an)) mw_an) rfl rfl (H.mono (fun o hp6 H => ?_))
    obtain ⟨x7, rfl, H⟩ := H
    refine mm_R.br (L' := [some ((.ref a0)), some (r1), some (.int i2), some (.int i3), some (.int i4), some (.int i5), some (.int i6), some (v2), o8]) (st' := []) (t := 120) (u := 57) (b := mm_cc .eq x7 (0 : Int32)) 1 rfl (fun c => ?_) (fun c => ?_)
    · replace H := H.1 (of_decide_eq_true c)
      exact mm_R.pn (pc' := 25) (L' := [some ((.ref a0)), some (r1), some (.int i2), some (.int i3), some (.int i4), some (.int i5), some (.int (i6 + (-1 : Int32))), some (v2), o8]) (st' := []) 2 rfl H
    · replace H := H.2 (of_decide_eq_false c)
      refine mm_R.al (pc' := 57) (L' := [some ((.ref a0)), some (r1), some (.int i2), some (.int i3), some (.int i4), some (.int i5), some (.int i6), some (v2), o8]) (r := []) (v := v2) 0 rfl rfl rfl rfl hr3 ?_
      refine mm_R.wgi (pc' := 59) (L' := [some ((.ref a0)), some (r1), some (.int i2), some (.int i3), some (.int i4), some (.int i5), some (.int i6), some (v2), o8]) (r := []) 0 rfl rfl (H.mono (fun x8 H => ?_))
      refine mm_R.br (L' := [some ((.ref a0)), some (r1), some (.int i2), some (.int i3), some (.int i4), some (.int i5), some (.int i6), some (v2), o8]) (st' := []) (t := 120) (u := 65) (b := mm_cc .le x8 (0 : Int32)) 1 rfl (fun c => ?_) (fun c => ?_)
      · replace H := H.1 (of_decide_eq_true c)
        exact mm_R.pn (pc' := 25) (L' := [some ((.ref a0)), some (r1), some (.int i2), some (.int i3), some (.int i4), some (.int i5), some (.int (i6 + (-1 : Int32))), some (v2), o8]) (st' := []) 2 rfl H
      · replace H := H.2 (of_decide_eq_false c)
        refine mm_R.al (pc' := 65) (L' := [some ((.ref a0)), some (r1), some (.int i2), some (.int i3), some (.int i4), some (.int i5), some (.int i6), some (v2), o8]) (r := []) (v := v2) 0 rfl rfl rfl rfl hr3 ?_
        refine mm_R.br (L' := [some ((.ref a0)), some (r1), some (.int i2), some (.int i3), some (.int i4), some (.int i5), some (.int i6), some (v2), o8]) (st' := [v2]) (t := 83) (u := 72) (b := mm_cc .eq i4 (0 : Int32)) 2 rfl (fun c => ?_) (fun c => ?_)
        · replace H := H.1 (of_decide_eq_true c)
          exact mm_R.pn (pc' := 84) (L' := [some ((.ref a0)), some (r1), some (.int i2), some (.int i3), some (.int i4), some (.int i5), some (.int i6), some (v2), o8]) (st' := [.int i2, v2]) 1 rfl H
        · replace H := H.2 (of_decide_eq_false c)
          refine mm_R.al (pc' := 74) (L' := [some ((.ref a0)), some (r1), some (.int i2), some (.int i3), some (.int i4), some (.int i5), some (.int i6), some (v2), o8]) (r := [.int i5, v2]) (v := v2) 1 rfl rfl rfl rfl hr3 ?_
          refine mm_R.wgi (pc' := 76) (L' := [some ((.ref a0)), some (r1), some (.int i2), some (.int i3), some (.int i4), some (.int i5), some (.int i6), some (v2), o8]) (r := [.int i5, v2]) 0 rfl rfl (H.mono (fun x9 H => ?_))
          obtain ⟨hz10, H⟩ := H
          refine mm_R.dv (pc' := 79) (L' := [some ((.ref a0)), some (r1), some (.int i2), some (.int i3), some (.int i4), some (.int i5), some (.int i6), some (v2), o8]) (r := [v2]) (x := i5) (y := x9) (f := fun x y => x - x / y * y) 0 rfl rfl rfl hz10 ?_
          exact mm_R.pn (pc' := 84) (L' := [some ((.ref a0)), some (r1), some (.int i2), some (.int i3), some (.int i4), some (.int i5), some (.int i6), some (v2), o8]) (st' := [.int (i5 - i5 / x9 * x9), v2]) 1 rfl H
-- StepRunner$Expander.chooseElements, from 84
set_option maxRecDepth 10000 in
theorem w74_84 {X : List Int32} {d : Nat} {a0 : Nat} {r1 : Value} {i2 : Int32} {i3 : Int32} {i4 : Int32} {i5 : Int32} {i6 : Int32} {r7 : Value} {o8 : Option Value} {s0 : Int32} {s1 : Value} {hp : mm_H} {Q : Option Value → mm_H → Prop} (H : mw_rc s1 67 hp ∧ mm_R X d 67 0 (mm_L0 67 [s1, .int s0]) [] hp (mw_rv (fun v3 hp2 => mm_isr v3 = true ∧ mw_gv 4 8 (.ref a0) hp2 (fun v5 => mw_nl v3 (mw_gv 4 0 (.ref a0) hp2 (fun v6 => mw_sv v5 i6 v6 hp2 (fun hp7 => mm_isr r7 = true ∧ mw_gi 2 4 r7 hp7 (fun x9 => ¬ x9 = (0 : Int32) ∧ (mm_R X (d + 1) 74 25 [some ((.ref a0)), some (r1), some (.int i2), some (.int i3), some (.int i4), some (.int (i5 / x9)), some (.int (i6 + (-1 : Int32))), some (r7), some (v3)] [] hp7 Q))))) (mw_sv v5 i6 v3 hp2 (fun hp11 => mm_isr r7 = true ∧ mw_gi 2 4 r7 hp11 (fun x13 => ¬ x13 = (0 : Int32) ∧ (mm_R X (d + 1) 74 25 [some ((.ref a0)), some (r1), some (.int i2), some (.int i3), some (.int i4), some (.int (i5 / x13)), some (.int (i6 + (-1 : Int32))), some (r7), some (v3)] [] hp11 Q)))))))) : mm_R X (d + 1) 74 84 [some ((.ref a0)), some (r1), some (.int i2), some (.int i3), some (.int i4), some (.int i5), some (.int i6), some (r7), o8] [.int s0, s1] hp Q := by
  obtain ⟨hc1, H⟩ := H
  refine mm_R.cV (pc' := 84) (L' := [some ((.ref a0)), some (r1), some (.int i2), some (.int i3), some (.int i4), some (.int i5), some (.int i6), some (r7), o8]) (st1 := [.int s0, s1]) (as := [.int s0]) (rest := []) 0 rfl rfl (mw_sp rfl rfl (Nat.le_of_ble_eq_true rfl) (mw_ac (mw_c1 hc1.isr) (mw_ac rfl mw_an)) mw_an) rfl rfl hc1 (H.mono (fun o hp2 H => ?_))
  obtain ⟨v3, rfl, H⟩ := H
  obtain ⟨hr4, H⟩ := H
  refine mm_R.as (pc' := 87) (L' := [some ((.ref a0)), some (r1), some (.int i2), some (.int i3), some (.int i4), some (.int i5), some (.int i6), some (r7), o8]) (r := []) (v := v3) 0 rfl rfl rfl rfl hr4 ?_
  refine mm_R.wgv (pc' := 90) (L' := [some ((.ref a0)), some (r1), some (.int i2), some (.int i3), some (.int i4), some (.int i5), some (.int i6), some (r7), some (v3)]) (r := []) 1 rfl rfl (H.mono (fun v5 H => ?_))
  refine mm_R.al (pc' := 95) (L' := [some ((.ref a0)), some (r1), some (.int i2), some (.int i3), some (.int i4), some (.int i5), some (.int i6), some (r7), some (v3)]) (r := [.int i6, v5]) (v := v3) 1 rfl rfl rfl rfl hr4 ?_
  refine mm_R.wnl (pc' := 97) (L' := [some ((.ref a0)), some (r1), some (.int i2), some (.int i3), some (.int i4), some (.int i5), some (.int i6), some (r7), some (v3)]) (r := [.int i6, v5]) (v := v3) (t := 100) (u := 107) 0 rfl rfl rfl (H.mono (fun H => ?_) (fun H => ?_))
  · refine mm_R.wgv (pc' := 101) (L' := [some ((.ref a0)), some (r1), some (.int i2), some (.int i3), some (.int i4), some (.int i5), some (.int i6), some (r7), some (v3)]) (r := [.int i6, v5]) 1 rfl rfl (H.mono (fun v6 H => ?_))
    refine mm_R.wsv (pc' := 109) (L' := [some ((.ref a0)), some (r1), some (.int i2), some (.int i3), some (.int i4), some (.int i5), some (.int i6), some (r7), some (v3)]) (r := []) 1 rfl rfl (H.mono (fun hp7 H => ?_))
    obtain ⟨hr8, H⟩ := H
    refine mm_R.al (pc' := 112) (L' := [some ((.ref a0)), some (r1), some (.int i2), some (.int i3), some (.int i4), some (.int i5), some (.int i6), some (r7), some (v3)]) (r := [.int i5]) (v := r7) 1 rfl rfl rfl rfl hr8 ?_
    refine mm_R.wgi (pc' := 114) (L' := [some ((.ref a0)), some (r1), some (.int i2), some (.int i3), some (.int i4), some (.int i5), some (.int i6), some (r7), some (v3)]) (r := [.int i5]) 0 rfl rfl (H.mono (fun x9 H => ?_))
    obtain ⟨hz10, H⟩ := H
    refine mm_R.dv (pc' := 117) (L' := [some ((.ref a0)), some (r1), some (.int i2), some (.int i3), some (.int i4), some (.int i5), some (.int i6), some (r7), some (v3)]) (r := []) (x := i5) (y := x9) (f := fun x y => x / y) 0 rfl rfl rfl hz10 ?_
    exact mm_R.pn (pc' := 25) (L' := [some ((.ref a0)), some (r1), some (.int i2), some (.int i3), some (.int i4), some (.int (i5 / x9)), some (.int (i6 + (-1 : Int32))), some (r7), some (v3)]) (st' := []) 3 rfl H
  · refine mm_R.al (pc' := 107) (L' := [some ((.ref a0)), some (r1), some (.int i2), some (.int i3), some (.int i4), some (.int i5), some (.int i6), some (r7), some (v3)]) (r := [.int i6, v5]) (v := v3) 0 rfl rfl rfl rfl hr4 ?_
    refine mm_R.wsv (pc' := 109) (L' := [some ((.ref a0)), some (r1), some (.int i2), some (.int i3), some (.int i4), some (.int i5), some (.int i6), some (r7), some (v3)]) (r := []) 0 rfl rfl (H.mono (fun hp11 H => ?_))
    obtain ⟨hr12, H⟩ := H
    refine mm_R.al (pc' := 112) (L' := [some ((.ref a0)), some (r1), some (.int i2), some (.int i3), some (.int i4), some (.int i5), some (.int i6), some (r7), some (v3)]) (r := [.int i5]) (v := r7) 1 rfl rfl rfl rfl hr12 ?_
    refine mm_R.wgi (pc' := 114) (L' := [some ((.ref a0)), some (r1), some (.int i2), some (.int i3), some (.int i4), some (.int i5), some (.int i6), some (r7), some (v3)]) (r := [.int i5]) 0 rfl rfl (H.mono (fun x13 H => ?_))
    obtain ⟨hz14, H⟩ := H
    refine mm_R.dv (pc' := 117) (L' := [some ((.ref a0)), some (r1), some (.int i2), some (.int i3), some (.int i4), some (.int i5), some (.int i6), some (r7), some (v3)]) (r := []) (x := i5) (y := x13) (f := fun x y => x / y) 0 rfl rfl rfl hz14 ?_
    exact mm_R.pn (pc' := 25) (L' := [some ((.ref a0)), some (r1), some (.int i2), some (.int i3), some (.int i4), some (.int (i5 / x13)), some (.int (i6 + (-1 : Int32))), some (r7), some (v3)]) (st' := []) 3 rfl H
