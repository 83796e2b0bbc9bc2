-- StepRunner$Expander.workRules, from 0
set_option maxRecDepth 10000 in
theorem w75_0 {X : List Int32} {d : Nat} {a0 : Nat} {r1 : Value} {hp : mm_H} {Q : Option Value → mm_H → Prop} (H : mm_R X (d + 1) 75 2 [some ((.ref a0)), some (r1), some (.int (0 : Int32)), none, none] [] hp Q) : mm_R X (d + 1) 75 0 (mm_L0 75 [(.ref a0), r1]) [] hp Q := by
  show mm_R X (d + 1) 75 0 [some ((.ref a0)), some (r1), none, none, none] [] hp Q
  exact mm_R.pn (pc' := 2) (L' := [some ((.ref a0)), some (r1), some (.int (0 : Int32)), none, none]) (st' := []) 2 rfl H
-- StepRunner$Expander.workRules, from 2
set_option maxRecDepth 10000 in
theorem w75_2 {X : List Int32} {d : Nat} {a0 : Nat} {r1 : Value} {i2 : Int32} {o3 : Option Value} {o4 : Option Value} {hp : mm_H} {Q : Option Value → mm_H → Prop} (H : (((4 : Int32) ≤ i2 → Q (some (.int (1 : Int32))) hp) ∧ (¬ (4 : Int32) ≤ i2 → mm_isr r1 = true ∧ mw_gv 7 0 r1 hp (fun v2 => mw_gi 6 5 v2 hp (fun x3 => ((x3 ≤ i2 → mm_R X (d + 1) 75 28 [some ((.ref a0)), some (r1), some (.int i2), o3, o4] [.null] hp Q) ∧ (¬ x3 ≤ i2 → mw_gv 7 6 r1 hp (fun v4 => mw_av v4 i2 hp (fun v5 => mm_R X (d + 1) 75 28 [some ((.ref a0)), some (r1), some (.int i2), o3, o4] [v5] hp Q))))))))) : mm_R X (d + 1) 75 2 [some ((.ref a0)), some (r1), some (.int i2), o3, o4] [] hp Q := by
  refine mm_R.br (L' := [some ((.ref a0)), some (r1), some (.int i2), o3, o4]) (st' := []) (t := 88) (u := 7) (b := mm_cc .ge i2 (4 : Int32)) 3 rfl (fun c => ?_) (fun c => ?_)
  · replace H := H.1 (of_decide_eq_true c)
    exact mm_R.rt (pc' := 89) (L' := [some ((.ref a0)), some (r1), some (.int i2), o3, o4]) (st1 := [.int (1 : Int32)]) 1 rfl rfl rfl rfl rfl rfl H
  · replace H := H.2 (of_decide_eq_false c)
    obtain ⟨hr1, H⟩ := H
    refine mm_R.al (pc' := 8) (L' := [some ((.ref a0)), some (r1), some (.int i2), o3, o4]) (r := [.int i2]) (v := r1) 1 rfl rfl rfl rfl hr1 ?_
    refine mm_R.wgv (pc' := 9) (L' := [some ((.ref a0)), some (r1), some (.int i2), o3, o4]) (r := [.int i2]) 0 rfl rfl (H.mono (fun v2 H => ?_))
    refine mm_R.wgi (pc' := 12) (L' := [some ((.ref a0)), some (r1), some (.int i2), o3, o4]) (r := [.int i2]) 0 rfl rfl (H.mono (fun x3 H => ?_))
    refine mm_R.br (L' := [some ((.ref a0)), some (r1), some (.int i2), o3, o4]) (st' := []) (t := 27) (u := 18) (b := mm_cc .ge i2 x3) 1 rfl (fun c => ?_) (fun c => ?_)
    · replace H := H.1 (of_decide_eq_true c)
      exact mm_R.pn (pc' := 28) (L' := [some ((.ref a0)), some (r1), some (.int i2), o3, o4]) (st' := [.null]) 1 rfl H
    · replace H := H.2 (of_decide_eq_false c)
      refine mm_R.al (pc' := 18) (L' := [some ((.ref a0)), some (r1), some (.int i2), o3, o4]) (r := []) (v := r1) 0 rfl rfl rfl rfl hr1 ?_
      refine mm_R.wgv (pc' := 19) (L' := [some ((.ref a0)), some (r1), some (.int i2), o3, o4]) (r := []) 0 rfl rfl (H.mono (fun v4 H => ?_))
      refine mm_R.wav (pc' := 23) (L' := [some ((.ref a0)), some (r1), some (.int i2), o3, o4]) (r := []) 1 rfl rfl (H.mono (fun v5 H => ?_))
      exact mm_R.pn (pc' := 28) (L' := [some ((.ref a0)), some (r1), some (.int i2), o3, o4]) (st' := [v5]) 1 rfl H
-- StepRunner$Expander.workRules, from 28
set_option maxRecDepth 10000 in
theorem w75_28 {X : List Int32} {d : Nat} {a0 : Nat} {r1 : Value} {i2 : Int32} {o3 : Option Value} {o4 : Option Value} {s0 : Value} {hp : mm_H} {Q : Option Value → mm_H → Prop} (H : mm_isr s0 = true ∧ mw_gv 4 8 (.ref a0) hp (fun v2 => mw_av v2 i2 hp (fun v3 => mm_isr v3 = true ∧ mw_nl s0 (mw_nl v3 (Q (some (.int (0 : Int32))) hp) (mw_gv 4 9 (.ref a0) hp (fun v5 => mw_sv v5 i2 v3 hp (fun hp6 => mm_R X (d + 1) 75 2 [some ((.ref a0)), some (r1), some (.int (i2 + (1 : Int32))), some (s0), some (v3)] [] hp6 Q)))) (mw_gv 4 8 (.ref a0) hp (fun v7 => mw_gv 4 8 (.ref a0) hp (fun v8 => mw_av v8 i2 hp (fun v9 => mw_gv 4 4 (.ref a0) hp (fun v10 => mw_av v10 i2 hp (fun v11 => mw_gv 4 6 (.ref a0) hp (fun v12 => mw_rc s0 76 hp ∧ mm_isr v7 = true ∧ mm_isr v9 = true ∧ mm_isr v11 = true ∧ mm_isr v12 = true ∧ mm_R X d 76 0 (mm_L0 76 [s0, v7, v9, v11, v12]) [] hp (mw_rv (fun v19 hp18 => mm_isr v19 = true ∧ mw_nl v19 (Q (some (.int (0 : Int32))) hp18) (mw_gv 4 9 (.ref a0) hp18 (fun v21 => mw_sv v21 i2 v19 hp18 (fun hp22 => mm_R X (d + 1) 75 2 [some ((.ref a0)), some (r1), some (.int (i2 + (1 : Int32))), some (s0), some (v19)] [] hp22 Q))))))))))))))) : mm_R X (d + 1) 75 28 [some ((.ref a0)), some (r1), some (.int i2), o3, o4] [s0] hp Q := by
  obtain ⟨hr1, H⟩ := H
  refine mm_R.as (pc' := 28) (L' := [some ((.ref a0)), some (r1), some (.int i2), o3, o4]) (r := []) (v := s0) 0 rfl rfl rfl rfl hr1 ?_
  refine mm_R.wgv (pc' := 30) (L' := [some ((.ref a0)), some (r1), some (.int i2), some (s0), o4]) (r := []) 1 rfl rfl (H.mono (fun v2 H => ?_))
  refine mm_R.wav (pc' := 34) (L' := [some ((.ref a0)), some (r1), some (.int i2), some (s0), o4]) (r := []) 1 rfl rfl (H.mono (fun v3 H => ?_))
  obtain ⟨hr4, H⟩ := H
  refine mm_R.as (pc' := 35) (L' := [some ((.ref a0)), some (r1), some (.int i2), some (s0), o4]) (r := []) (v := v3) 0 rfl rfl rfl rfl hr4 ?_
  refine mm_R.al (pc' := 37) (L' := [some ((.ref a0)), some (r1), some (.int i2), some (s0), some (v3)]) (r := []) (v := s0) 0 rfl rfl rfl rfl hr1 ?_
  refine mm_R.wnl (pc' := 38) (L' := [some ((.ref a0)), some (r1), some (.int i2), some (s0), some (v3)]) (r := []) (v := s0) (t := 67) (u := 41) 0 rfl rfl rfl (H.mono (fun H => ?_) (fun H => ?_))
  · refine mm_R.al (pc' := 67) (L' := [some ((.ref a0)), some (r1), some (.int i2), some (s0), some (v3)]) (r := []) (v := v3) 0 rfl rfl rfl rfl hr4 ?_
    refine mm_R.wnl (pc' := 69) (L' := [some ((.ref a0)), some (r1), some (.int i2), some (s0), some (v3)]) (r := []) (v := v3) (t := 72) (u := 74) 0 rfl rfl rfl (H.mono (fun H => ?_) (fun H => ?_))
    · exact mm_R.rt (pc' := 73) (L' := [some ((.ref a0)), some (r1), some (.int i2), some (s0), some (v3)]) (st1 := [.int (0 : Int32)]) 1 rfl rfl rfl rfl rfl rfl H
    · refine mm_R.wgv (pc' := 75) (L' := [some ((.ref a0)), some (r1), some (.int i2), some (s0), some (v3)]) (r := []) 1 rfl rfl (H.mono (fun v5 H => ?_))
      refine mm_R.al (pc' := 79) (L' := [some ((.ref a0)), some (r1), some (.int i2), some (s0), some (v3)]) (r := [.int i2, v5]) (v := v3) 1 rfl rfl rfl rfl hr4 ?_
      refine mm_R.wsv (pc' := 81) (L' := [some ((.ref a0)), some (r1), some (.int i2), some (s0), some (v3)]) (r := []) 0 rfl rfl (H.mono (fun hp6 H => ?_))
      exact mm_R.pn (pc' := 2) (L' := [some ((.ref a0)), some (r1), some (.int (i2 + (1 : Int32))), some (s0), some (v3)]) (st' := []) 2 rfl H
  · refine mm_R.al (pc' := 41) (L' := [some ((.ref a0)), some (r1), some (.int i2), some (s0), some (v3)]) (r := []) (v := s0) 0 rfl rfl rfl rfl hr1 ?_
    refine mm_R.wgv (pc' := 43) (L' := [some ((.ref a0)), some (r1), some (.int i2), some (s0), some (v3)]) (r := [s0]) 1 rfl rfl (H.mono (fun v7 H => ?_))
    refine mm_R.wgv (pc' := 47) (L' := [some ((.ref a0)), some (r1), some (.int i2), some (s0), some (v3)]) (r := [v7, s0]) 1 rfl rfl (H.mono (fun v8 H => ?_))
    refine mm_R.wav (pc' := 51) (L' := [some ((.ref a0)), some (r1), some (.int i2), some (s0), some (v3)]) (r := [v7, s0]) 1 rfl rfl (H.mono (fun v9 H => ?_))
    refine mm_R.wgv (pc' := 53) (L' := [some ((.ref a0)), some (r1), some (.int i2), some (s0), some (v3)]) (r := [v9, v7, s0]) 1 rfl rfl (H.mono (fun v10 H => ?_))
    refine mm_R.wav (pc' := 57) (L' := [some ((.ref a0)), some (r1), some (.int i2), some (s0), some (v3)]) (r := [v9, v7, s0]) 1 rfl rfl (H.mono (fun v11 H => ?_))
    refine mm_R.wgv (pc' := 59) (L' := [some ((.ref a0)), some (r1), some (.int i2), some (s0), some (v3)]) (r := [v11, v9, v7, s0]) 1 rfl rfl (H.mono (fun v12 H => ?_))
    obtain ⟨hc13, H⟩ := H
    obtain ⟨hr14, H⟩ := H
    obtain ⟨hr15, H⟩ := H
    obtain ⟨hr16, H⟩ := H
    obtain ⟨hr17, H⟩ := H
    refine mm_R.cV (pc' := 62) (L' := [some ((.ref a0)), some (r1), some (.int i2), some (s0), some (v3)]) (st1 := [v12, v11, v9, v7, s0]) (as := [v7, v9, v11, v12]) (rest := []) 0 rfl rfl (mw_sp rfl rfl (Nat.le_of_ble_eq_true rfl) (mw_ac (mw_c1 hc13.isr) (mw_ac (mw_c1 hr14) (mw_ac (mw_c1 hr15) (mw_ac (mw_c1 hr16) (mw_ac (mw_c1 hr17) mw_an))))) mw_an) rfl rfl hc13 (H.mono (fun o hp18 H => ?_))
    obtain ⟨v19, rfl, H⟩ := H
    obtain ⟨hr20, H⟩ := H
    refine mm_R.as (pc' := 65) (L' := [some ((.ref a0)), some (r1), some (.int i2), some (s0), some (v3)]) (r := []) (v := v19) 0 rfl rfl rfl rfl hr20 ?_
    refine mm_R.al (pc' := 67) (L' := [some ((.ref a0)), some (r1), some (.int i2), some (s0), some (v19)]) (r := []) (v := v19) 0 rfl rfl rfl rfl hr20 ?_
    refine mm_R.wnl (pc' := 69) (L' := [some ((.ref a0)), some (r1), some (.int i2), some (s0), some (v19)]) (r := []) (v := v19) (t := 72) (u := 74) 0 rfl rfl rfl (H.mono (fun H => ?_) (fun H => ?_))
    · exact mm_R.rt (pc' := 73) (L' := [some ((.ref a0)), some (r1), some (.int i2), some (s0), some (v19)]) (st1 := [.int (0 : Int32)]) 1 rfl rfl rfl rfl rfl rfl H
    · refine mm_R.wgv (pc' := 75) (L' := [some ((.ref a0)), some (r1), some (.int i2), some (s0), some (v19)]) (r := []) 1 rfl rfl (H.mono (fun v21 H => ?_))
      refine mm_R.al (pc' := 79) (L' := [some ((.ref a0)), some (r1), some (.int i2), some (s0), some (v19)]) (r := [.int i2, v21]) (v := v19) 1 rfl rfl rfl rfl hr20 ?_
      refine mm_R.wsv (pc' := 81) (L' := [some ((.ref a0)), some (r1), some (.int i2), some (s0), some (v19)]) (r := []) 0 rfl rfl (H.mono (fun hp22 H => ?_))
      exact mm_R.pn (pc' := 2) (L' := [some ((.ref a0)), some (r1), some (.int (i2 + (1 : Int32))), some (s0), some (v19)]) (st' := []) 2 rfl H
-- StepRunner$Rule.work, from 0
set_option maxRecDepth 10000 in
theorem w76_0 {X : List Int32} {d : Nat} {a0 : Nat} {r1 : Value} {r2 : Value} {r3 : Value} {r4 : Value} {hp : mm_H} {Q : Option Value → mm_H → Prop} (H : mw_gi 8 2 (.ref a0) hp (fun x1 => ((¬ x1 = (0 : Int32) → mm_isr r3 = true ∧ mw_rc r3 8 hp ∧ mm_R X d 8 0 (mm_L0 8 [r3]) [] hp (mw_ri (fun x5 hp4 => mm_R X (d + 1) 76 32 [some ((.ref a0)), some (r1), some (r2), some (r3), some (r4), some (.int (0 : Int32)), none, none] [] hp4 Q))) ∧ (x1 = (0 : Int32) → mw_gi 8 3 (.ref a0) hp (fun x6 => ((¬ x6 = (1 : Int32) → mm_isr r3 = true ∧ mw_rc r3 8 hp ∧ mm_R X d 8 0 (mm_L0 8 [r3]) [] hp (mw_ri (fun x10 hp9 => mm_R X (d + 1) 76 32 [some ((.ref a0)), some (r1), some (r2), some (r3), some (r4), some (.int (0 : Int32)), none, none] [] hp9 Q))) ∧ (x6 = (1 : Int32) → mm_isr r1 = true ∧ mm_isr r2 = true ∧ mm_isr r3 = true ∧ mw_rc (.ref a0) 77 hp ∧ mm_R X d 77 0 (mm_L0 77 [(.ref a0), .int (0 : Int32), r1, r2, r3]) [] hp (mw_rv (fun v16 hp15 => mw_nr v16 ∧ Q (some v16) hp15))))))))) : mm_R X (d + 1) 76 0 (mm_L0 76 [(.ref a0), r1, r2, r3, r4]) [] hp Q := by
  show mm_R X (d + 1) 76 0 [some ((.ref a0)), some (r1), some (r2), some (r3), some (r4), none, none, none] [] hp Q
  refine mm_R.wgi (pc' := 1) (L' := [some ((.ref a0)), some (r1), some (r2), some (r3), some (r4), none, none, none]) (r := []) 1 rfl rfl (H.mono (fun x1 H => ?_))
  refine mm_R.br (L' := [some ((.ref a0)), some (r1), some (r2), some (r3), some (r4), none, none, none]) (st' := []) (t := 24) (u := 7) (b := mm_cc .ne x1 (0 : Int32)) 1 rfl (fun c => ?_) (fun c => ?_)
  · replace H := H.1 (of_decide_eq_true c)
    obtain ⟨hr2, H⟩ := H
    refine mm_R.al (pc' := 24) (L' := [some ((.ref a0)), some (r1), some (r2), some (r3), some (r4), none, none, none]) (r := []) (v := r3) 0 rfl rfl rfl rfl hr2 ?_
    obtain ⟨hc3, H⟩ := H
    refine mm_R.cV (pc' := 25) (L' := [some ((.ref a0)), some (r1), some (r2), some (r3), some (r4), none, none, none]) (st1 := [r3]) (as := []) (rest := []) 0 rfl rfl (mw_sp rfl rfl (Nat.le_of_ble_eq_true rfl) (mw_ac (mw_c1 hc3.isr) mw_an) mw_an) rfl rfl hc3 (H.mono (fun o hp4 H => ?_))
    obtain ⟨x5, rfl, H⟩ := H
    exact mm_R.pn (pc' := 32) (L' := [some ((.ref a0)), some (r1), some (r2), some (r3), some (r4), some (.int (0 : Int32)), none, none]) (st' := []) 3 rfl H
  · replace H := H.2 (Decidable.of_not_not (of_decide_eq_false c))
    refine mm_R.wgi (pc' := 8) (L' := [some ((.ref a0)), some (r1), some (r2), some (r3), some (r4), none, none, none]) (r := []) 1 rfl rfl (H.mono (fun x6 H => ?_))
    refine mm_R.br (L' := [some ((.ref a0)), some (r1), some (r2), some (r3), some (r4), none, none, none]) (st' := []) (t := 24) (u := 15) (b := mm_cc .ne x6 (1 : Int32)) 2 rfl (fun c => ?_) (fun c => ?_)
    · replace H := H.1 (of_decide_eq_true c)
      obtain ⟨hr7, H⟩ := H
      refine mm_R.al (pc' := 24) (L' := [some ((.ref a0)), some (r1), some (r2), some (r3), some (r4), none, none, none]) (r := []) (v := r3) 0 rfl rfl rfl rfl hr7 ?_
      obtain ⟨hc8, H⟩ := H
      refine mm_R.cV (pc' := 25) (L' := [some ((.ref a0)), some (r1), some (r2), some (r3), some (r4), none, none, none]) (st1 := [r3]) (as := []) (rest := []) 0 rfl rfl (mw_sp rfl rfl (Nat.le_of_ble_eq_true rfl) (mw_ac (mw_c1 hc8.isr) mw_an) mw_an) rfl rfl hc8 (H.mono (fun o hp9 H => ?_))
      obtain ⟨x10, rfl, H⟩ := H
      exact mm_R.pn (pc' := 32) (L' := [some ((.ref a0)), some (r1), some (r2), some (r3), some (r4), some (.int (0 : Int32)), none, none]) (st' := []) 3 rfl H
    · replace H := H.2 (Decidable.of_not_not (of_decide_eq_false c))
      obtain ⟨hr11, H⟩ := H
      refine mm_R.al (pc' := 17) (L' := [some ((.ref a0)), some (r1), some (r2), some (r3), some (r4), none, none, none]) (r := [.int (0 : Int32), (.ref a0)]) (v := r1) 2 rfl rfl rfl rfl hr11 ?_
      obtain ⟨hr12, H⟩ := H
      refine mm_R.al (pc' := 18) (L' := [some ((.ref a0)), some (r1), some (r2), some (r3), some (r4), none, none, none]) (r := [r1, .int (0 : Int32), (.ref a0)]) (v := r2) 0 rfl rfl rfl rfl hr12 ?_
      obtain ⟨hr13, H⟩ := H
      refine mm_R.al (pc' := 19) (L' := [some ((.ref a0)), some (r1), some (r2), some (r3), some (r4), none, none, none]) (r := [r2, r1, .int (0 : Int32), (.ref a0)]) (v := r3) 0 rfl rfl rfl rfl hr13 ?_
      obtain ⟨hc14, H⟩ := H
      refine mm_R.cV (pc' := 20) (L' := [some ((.ref a0)), some (r1), some (r2), some (r3), some (r4), none, none, none]) (st1 := [r3, r2, r1, .int (0 : Int32), (.ref a0)]) (as := [.int (0 : Int32), r1, r2, r3]) (rest := []) 0 rfl rfl (mw_sp rfl rfl (Nat.le_of_ble_eq_true rfl) (mw_ac rfl (mw_ac rfl (mw_ac (mw_c1 hr11) (mw_ac (mw_c1 hr12) (mw_ac (mw_c1 hr13) mw_an))))) mw_an) rfl rfl hc14 (H.mono (fun o hp15 H => ?_))
      obtain ⟨v16, rfl, H⟩ := H
      exact mm_R.rt (pc' := 23) (L' := [some ((.ref a0)), some (r1), some (r2), some (r3), some (r4), none, none, none]) (st1 := [v16]) 0 rfl rfl rfl rfl rfl (mw_rva (ty := (.object "StepRunner$Value")) H.1 rfl) H.2
-- StepRunner$Rule.work, from 32
set_option maxRecDepth 10000 in
theorem w76_32 {X : List Int32} {d : Nat} {a0 : Nat} {r1 : Value} {r2 : Value} {r3 : Value} {r4 : Value} {i5 : Int32} {o6 : Option Value} {o7 : Option Value} {hp : mm_H} {Q : Option Value → mm_H → Prop} (H : mw_gi 8 1 (.ref a0) hp (fun x1 => ((x1 ≤ i5 → mm_isr r3 = true ∧ mw_nr r3 ∧ Q (some r3) hp) ∧ (¬ x1 ≤ i5 → mw_gv 8 0 (.ref a0) hp (fun v3 => mw_ln v3 hp (fun x4 => ((x4 ≤ i5 → mm_isr r3 = true ∧ mw_nr r3 ∧ Q (some r3) hp) ∧ (¬ x4 ≤ i5 → mw_gv 8 0 (.ref a0) hp (fun v6 => mw_ai 1000 v6 i5 hp (fun x7 => (((200 : Int32) ≤ x7 → (((300 : Int32) ≤ x7 → mm_R X (d + 1) 76 32 [some ((.ref a0)), some (r1), some (r2), some (r3), some (r4), some (.int (i5 + (1 : Int32))), some (.int x7), o7] [] hp Q) ∧ (¬ (300 : Int32) ≤ x7 → mm_isr r1 = true ∧ mm_isr r2 = true ∧ mm_isr r4 = true ∧ mw_rc (.ref a0) 77 hp ∧ mm_R X d 77 0 (mm_L0 77 [(.ref a0), .int i5, r1, r2, r4]) [] hp (mw_rv (fun v13 hp12 => mm_isr v13 = true ∧ mw_nl v13 (Q (some .null) hp12) (mm_isr r3 = true ∧ mw_rc r3 79 hp12 ∧ mm_R X d 79 0 (mm_L0 79 [r3, v13]) [] hp12 (mw_ri (fun x18 hp17 => ((¬ x18 = (0 : Int32) → mm_R X (d + 1) 76 32 [some ((.ref a0)), some (r1), some (r2), some (r3), some (r4), some (.int (i5 + (1 : Int32))), some (.int x7), some (v13)] [] hp17 Q) ∧ (x18 = (0 : Int32) → Q (some .null) hp17)))))))))) ∧ (¬ (200 : Int32) ≤ x7 → mm_isr r3 = true ∧ mw_rc r3 34 hp ∧ mm_R X d 34 0 (mm_L0 34 [r3, .int ((Int32.toUInt32 x7 % 65536).toInt32)]) [] hp (mw_ri (fun x22 hp21 => ((¬ x22 = (0 : Int32) → mm_R X (d + 1) 76 32 [some ((.ref a0)), some (r1), some (r2), some (r3), some (r4), some (.int (i5 + (1 : Int32))), some (.int x7), o7] [] hp21 Q) ∧ (x22 = (0 : Int32) → Q (some .null) hp21)))))))))))))))) : mm_R X (d + 1) 76 32 [some ((.ref a0)), some (r1), some (r2), some (r3), some (r4), some (.int i5), o6, o7] [] hp Q := by
  refine mm_R.wgi (pc' := 35) (L' := [some ((.ref a0)), some (r1), some (r2), some (r3), some (r4), some (.int i5), o6, o7]) (r := [.int i5]) 2 rfl rfl (H.mono (fun x1 H => ?_))
  refine mm_R.br (L' := [some ((.ref a0)), some (r1), some (r2), some (r3), some (r4), some (.int i5), o6, o7]) (st' := []) (t := 122) (u := 41) (b := mm_cc .ge i5 x1) 1 rfl (fun c => ?_) (fun c => ?_)
  · replace H := H.1 (of_decide_eq_true c)
    obtain ⟨hr2, H⟩ := H
    refine mm_R.al (pc' := 122) (L' := [some ((.ref a0)), some (r1), some (r2), some (r3), some (r4), some (.int i5), o6, o7]) (r := []) (v := r3) 0 rfl rfl rfl rfl hr2 ?_
    exact mm_R.rt (pc' := 123) (L' := [some ((.ref a0)), some (r1), some (r2), some (r3), some (r4), some (.int i5), o6, o7]) (st1 := [r3]) 0 rfl rfl rfl rfl rfl (mw_rva (ty := (.object "StepRunner$Value")) H.1 rfl) H.2
  · replace H := H.2 (of_decide_eq_false c)
    refine mm_R.wgv (pc' := 44) (L' := [some ((.ref a0)), some (r1), some (r2), some (r3), some (r4), some (.int i5), o6, o7]) (r := [.int i5]) 2 rfl rfl (H.mono (fun v3 H => ?_))
    refine mm_R.wln (pc' := 47) (L' := [some ((.ref a0)), some (r1), some (r2), some (r3), some (r4), some (.int i5), o6, o7]) (r := [.int i5]) 0 rfl rfl (H.mono (fun x4 H => ?_))
    refine mm_R.br (L' := [some ((.ref a0)), some (r1), some (r2), some (r3), some (r4), some (.int i5), o6, o7]) (st' := []) (t := 122) (u := 51) (b := mm_cc .ge i5 x4) 1 rfl (fun c => ?_) (fun c => ?_)
    · replace H := H.1 (of_decide_eq_true c)
      obtain ⟨hr5, H⟩ := H
      refine mm_R.al (pc' := 122) (L' := [some ((.ref a0)), some (r1), some (r2), some (r3), some (r4), some (.int i5), o6, o7]) (r := []) (v := r3) 0 rfl rfl rfl rfl hr5 ?_
      exact mm_R.rt (pc' := 123) (L' := [some ((.ref a0)), some (r1), some (r2), some (r3), some (r4), some (.int i5), o6, o7]) (st1 := [r3]) 0 rfl rfl rfl rfl rfl (mw_rva (ty := (.object "StepRunner$Value")) H.1 rfl) H.2
    · replace H := H.2 (of_decide_eq_false c)
      refine mm_R.wgv (pc' := 52) (L' := [some ((.ref a0)), some (r1), some (r2), some (r3), some (r4), some (.int i5), o6, o7]) (r := []) 1 rfl rfl (H.mono (fun v6 H => ?_))
      refine mm_R.wai (pc' := 57) (L' := [some ((.ref a0)), some (r1), some (r2), some (r3), some (r4), some (.int i5), o6, o7]) (r := []) (t := 1000) 1 rfl rfl rfl rfl (H.mono (fun x7 H => ?_))
      refine mm_R.br (L' := [some ((.ref a0)), some (r1), some (r2), some (r3), some (r4), some (.int i5), some (.int x7), o7]) (st' := []) (t := 80) (u := 68) (b := mm_cc .ge x7 (200 : Int32)) 4 rfl (fun c => ?_) (fun c => ?_)
      · replace H := H.1 (of_decide_eq_true c)
        refine mm_R.br (L' := [some ((.ref a0)), some (r1), some (r2), some (r3), some (r4), some (.int i5), some (.int x7), o7]) (st' := []) (t := 116) (u := 88) (b := mm_cc .ge x7 (300 : Int32)) 3 rfl (fun c => ?_) (fun c => ?_)
        · replace H := H.1 (of_decide_eq_true c)
          exact mm_R.pn (pc' := 32) (L' := [some ((.ref a0)), some (r1), some (r2), some (r3), some (r4), some (.int (i5 + (1 : Int32))), some (.int x7), o7]) (st' := []) 2 rfl H
        · replace H := H.2 (of_decide_eq_false c)
          obtain ⟨hr8, H⟩ := H
          refine mm_R.al (pc' := 91) (L' := [some ((.ref a0)), some (r1), some (r2), some (r3), some (r4), some (.int i5), some (.int x7), o7]) (r := [.int i5, (.ref a0)]) (v := r1) 2 rfl rfl rfl rfl hr8 ?_
          obtain ⟨hr9, H⟩ := H
          refine mm_R.al (pc' := 92) (L' := [some ((.ref a0)), some (r1), some (r2), some (r3), some (r4), some (.int i5), some (.int x7), o7]) (r := [r1, .int i5, (.ref a0)]) (v := r2) 0 rfl rfl rfl rfl hr9 ?_
          obtain ⟨hr10, H⟩ := H
          refine mm_R.al (pc' := 93) (L' := [some ((.ref a0)), some (r1), some (r2), some (r3), some (r4), some (.int i5), some (.int x7), o7]) (r := [r2, r1, .int i5, (.ref a0)]) (v := r4) 0 rfl rfl rfl rfl hr10 ?_
          obtain ⟨hc11, H⟩ := H
          refine mm_R.cV (pc' := 95) (L' := [some ((.ref a0)), some (r1), some (r2), some (r3), some (r4), some (.int i5), some (.int x7), o7]) (st1 := [r4, r2, r1, .int i5, (.ref a0)]) (as := [.int i5, r1, r2, r4]) (rest := []) 0 rfl rfl (mw_sp rfl rfl (Nat.le_of_ble_eq_true rfl) (mw_ac rfl (mw_ac rfl (mw_ac (mw_c1 hr8) (mw_ac (mw_c1 hr9) (mw_ac (mw_c1 hr10) mw_an))))) mw_an) rfl rfl hc11 (H.mono (fun o hp12 H => ?_))
          obtain ⟨v13, rfl, H⟩ := H
          obtain ⟨hr14, H⟩ := H
          refine mm_R.as (pc' := 98) (L' := [some ((.ref a0)), some (r1), some (r2), some (r3), some (r4), some (.int i5), some (.int x7), o7]) (r := []) (v := v13) 0 rfl rfl rfl rfl hr14 ?_
          refine mm_R.al (pc' := 100) (L' := [some ((.ref a0)), some (r1), some (r2), some (r3), some (r4), some (.int i5), some (.int x7), some (v13)]) (r := []) (v := v13) 0 rfl rfl rfl rfl hr14 ?_
          refine mm_R.wnl (pc' := 102) (L' := [some ((.ref a0)), some (r1), some (r2), some (r3), some (r4), some (.int i5), some (.int x7), some (v13)]) (r := []) (v := v13) (t := 114) (u := 105) 0 rfl rfl rfl (H.mono (fun H => ?_) (fun H => ?_))
          · exact mm_R.rt (pc' := 115) (L' := [some ((.ref a0)), some (r1), some (r2), some (r3), some (r4), some (.int i5), some (.int x7), some (v13)]) (st1 := [.null]) 1 rfl rfl rfl rfl rfl rfl H
          · obtain ⟨hr15, H⟩ := H
            refine mm_R.al (pc' := 105) (L' := [some ((.ref a0)), some (r1), some (r2), some (r3), some (r4), some (.int i5), some (.int x7), some (v13)]) (r := []) (v := r3) 0 rfl rfl rfl rfl hr15 ?_
            refine mm_R.al (pc' := 106) (L' := [some ((.ref a0)), some (r1), some (r2), some (r3), some (r4), some (.int i5), some (.int x7), some (v13)]) (r := [r3]) (v := v13) 0 rfl rfl rfl rfl hr14 ?_
            obtain ⟨hc16, H⟩ := H
            refine mm_R.cV (pc' := 108) (L' := [some ((.ref a0)), some (r1), some (r2), some (r3), some (r4), some (.int i5), some (.int x7), some (v13)]) (st1 := [v13, r3]) (as := [v13]) (rest := []) 0 rfl rfl (mw_sp rfl rfl (Nat.le_of_ble_eq_true rfl) (mw_ac (mw_c1 hc16.isr) (mw_ac (mw_c1 hr14) mw_an)) mw_an) rfl rfl hc16 (H.mono (fun o hp17 H => ?_))
            obtain ⟨x18, rfl, H⟩ := H
            refine mm_R.br (L' := [some ((.ref a0)), some (r1), some (r2), some (r3), some (r4), some (.int i5), some (.int x7), some (v13)]) (st' := []) (t := 116) (u := 114) (b := mm_cc .ne x18 (0 : Int32)) 1 rfl (fun c => ?_) (fun c => ?_)
            · replace H := H.1 (of_decide_eq_true c)
              exact mm_R.pn (pc' := 32) (L' := [some ((.ref a0)), some (r1), some (r2), some (r3), some (r4), some (.int (i5 + (1 : Int32))), some (.int x7), some (v13)]) (st' := []) 2 rfl H
            · replace H := H.2 (Decidable.of_not_not (of_decide_eq_false c))
              exact mm_R.rt (pc' := 115) (L' := [some ((.ref a0)), some (r1), some (r2), some (r3), some (r4), some (.int i5), some (.int x7), some (v13)]) (st1 := [.null]) 1 rfl rfl rfl rfl rfl rfl H
      · replace H := H.2 (of_decide_eq_false c)
        obtain ⟨hr19, H⟩ := H
        refine mm_R.al (pc' := 68) (L' := [some ((.ref a0)), some (r1), some (r2), some (r3), some (r4), some (.int i5), some (.int x7), o7]) (r := []) (v := r3) 0 rfl rfl rfl rfl hr19 ?_
        obtain ⟨hc20, H⟩ := H
        refine mm_R.cV (pc' := 72) (L' := [some ((.ref a0)), some (r1), some (r2), some (r3), some (r4), some (.int i5), some (.int x7), o7]) (st1 := [.int ((Int32.toUInt32 x7 % 65536).toInt32), r3]) (as := [.int ((Int32.toUInt32 x7 % 65536).toInt32)]) (rest := []) 2 rfl rfl (mw_sp rfl rfl (Nat.le_of_ble_eq_true rfl) (mw_ac (mw_c1 hc20.isr) (mw_ac rfl mw_an)) mw_an) rfl rfl hc20 (H.mono (fun o hp21 H => ?_))
        obtain ⟨x22, rfl, H⟩ := H
        refine mm_R.br (L' := [some ((.ref a0)), some (r1), some (r2), some (r3), some (r4), some (.int i5), some (.int x7), o7]) (st' := []) (t := 116) (u := 78) (b := mm_cc .ne x22 (0 : Int32)) 1 rfl (fun c => ?_) (fun c => ?_)
        · replace H := H.1 (of_decide_eq_true c)
          exact mm_R.pn (pc' := 32) (L' := [some ((.ref a0)), some (r1), some (r2), some (r3), some (r4), some (.int (i5 + (1 : Int32))), some (.int x7), o7]) (st' := []) 2 rfl H
        · replace H := H.2 (Decidable.of_not_not (of_decide_eq_false c))
          exact mm_R.rt (pc' := 79) (L' := [some ((.ref a0)), some (r1), some (r2), some (r3), some (r4), some (.int i5), some (.int x7), o7]) (st1 := [.null]) 1 rfl rfl rfl rfl rfl rfl H
-- StepRunner$Rule.reach, from 0
set_option maxRecDepth 10000 in
theorem w77_0 {X : List Int32} {d : Nat} {a0 : Nat} {i1 : Int32} {r2 : Value} {r3 : Value} {r4 : Value} {hp : mm_H} {Q : Option Value → mm_H → Prop} (H : ((i1 < (0 : Int32) → Q (some .null) hp) ∧ (¬ i1 < (0 : Int32) → mw_gv 8 0 (.ref a0) hp (fun v1 => mw_ln v1 hp (fun x2 => ((i1 < x2 → mw_gv 8 0 (.ref a0) hp (fun v3 => mw_ai 1000 v3 i1 hp (fun x4 => (((x4 - (200 : Int32)) < (0 : Int32) → mm_isr r3 = true ∧ mm_R X (d + 1) 77 54 [some ((.ref a0)), some (.int i1), some (r2), some (r3), some (r4), some (.int (x4 - (200 : Int32))), some (r3), some (.int (i1 + (1 : Int32)))] [] hp Q) ∧ (¬ (x4 - (200 : Int32)) < (0 : Int32) → mm_isr r2 = true ∧ mw_ln r2 hp (fun x7 => ((x7 ≤ (x4 - (200 : Int32)) → mm_isr r3 = true ∧ mm_R X (d + 1) 77 54 [some ((.ref a0)), some (.int i1), some (r2), some (r3), some (r4), some (.int (x4 - (200 : Int32))), some (r3), some (.int (i1 + (1 : Int32)))] [] hp Q) ∧ (¬ x7 ≤ (x4 - (200 : Int32)) → mw_av r2 (x4 - (200 : Int32)) hp (fun v9 => mm_isr v9 = true ∧ mm_R X (d + 1) 77 54 [some ((.ref a0)), some (.int i1), some (r2), some (r3), some (r4), some (.int (x4 - (200 : Int32))), some (v9), some (.int (i1 + (1 : Int32)))] [] hp Q))))))))) ∧ (¬ i1 < x2 → Q (some .null) hp))))))) : mm_R X (d + 1) 77 0 (mm_L0 77 [(.ref a0), .int i1, r2, r3, r4]) [] hp Q := by
  show mm_R X (d + 1) 77 0 [some ((.ref a0)), some (.int i1), some (r2), some (r3), some (r4), none, none, none] [] hp Q
  refine mm_R.br (L' := [some ((.ref a0)), some (.int i1), some (r2), some (r3), some (r4), none, none, none]) (st' := []) (t := 13) (u := 4) (b := mm_cc .lt i1 (0 : Int32)) 2 rfl (fun c => ?_) (fun c => ?_)
  · replace H := H.1 (of_decide_eq_true c)
    exact mm_R.rt (pc' := 14) (L' := [some ((.ref a0)), some (.int i1), some (r2), some (r3), some (r4), none, none, none]) (st1 := [.null]) 1 rfl rfl rfl rfl rfl rfl H
  · replace H := H.2 (of_decide_eq_false c)
    refine mm_R.wgv (pc' := 6) (L' := [some ((.ref a0)), some (.int i1), some (r2), some (r3), some (r4), none, none, none]) (r := [.int i1]) 2 rfl rfl (H.mono (fun v1 H => ?_))
    refine mm_R.wln (pc' := 9) (L' := [some ((.ref a0)), some (.int i1), some (r2), some (r3), some (r4), none, none, none]) (r := [.int i1]) 0 rfl rfl (H.mono (fun x2 H => ?_))
    refine mm_R.br (L' := [some ((.ref a0)), some (.int i1), some (r2), some (r3), some (r4), none, none, none]) (st' := []) (t := 15) (u := 13) (b := mm_cc .lt i1 x2) 1 rfl (fun c => ?_) (fun c => ?_)
    · replace H := H.1 (of_decide_eq_true c)
      refine mm_R.wgv (pc' := 16) (L' := [some ((.ref a0)), some (.int i1), some (r2), some (r3), some (r4), none, none, none]) (r := []) 1 rfl rfl (H.mono (fun v3 H => ?_))
      refine mm_R.wai (pc' := 20) (L' := [some ((.ref a0)), some (.int i1), some (r2), some (r3), some (r4), none, none, none]) (r := []) (t := 1000) 1 rfl rfl rfl rfl (H.mono (fun x4 H => ?_))
      refine mm_R.br (L' := [some ((.ref a0)), some (.int i1), some (r2), some (r3), some (r4), some (.int (x4 - (200 : Int32))), none, none]) (st' := []) (t := 46) (u := 32) (b := mm_cc .lt (x4 - (200 : Int32)) (0 : Int32)) 5 rfl (fun c => ?_) (fun c => ?_)
      · replace H := H.1 (of_decide_eq_true c)
        obtain ⟨hr5, H⟩ := H
        refine mm_R.al (pc' := 46) (L' := [some ((.ref a0)), some (.int i1), some (r2), some (r3), some (r4), some (.int (x4 - (200 : Int32))), none, none]) (r := []) (v := r3) 0 rfl rfl rfl rfl hr5 ?_
        refine mm_R.as (pc' := 47) (L' := [some ((.ref a0)), some (.int i1), some (r2), some (r3), some (r4), some (.int (x4 - (200 : Int32))), none, none]) (r := []) (v := r3) 0 rfl rfl rfl rfl hr5 ?_
        exact mm_R.pn (pc' := 54) (L' := [some ((.ref a0)), some (.int i1), some (r2), some (r3), some (r4), some (.int (x4 - (200 : Int32))), some (r3), some (.int (i1 + (1 : Int32)))]) (st' := []) 4 rfl H
      · replace H := H.2 (of_decide_eq_false c)
        obtain ⟨hr6, H⟩ := H
        refine mm_R.al (pc' := 34) (L' := [some ((.ref a0)), some (.int i1), some (r2), some (r3), some (r4), some (.int (x4 - (200 : Int32))), none, none]) (r := [.int (x4 - (200 : Int32))]) (v := r2) 1 rfl rfl rfl rfl hr6 ?_
        refine mm_R.wln (pc' := 35) (L' := [some ((.ref a0)), some (.int i1), some (r2), some (r3), some (r4), some (.int (x4 - (200 : Int32))), none, none]) (r := [.int (x4 - (200 : Int32))]) 0 rfl rfl (H.mono (fun x7 H => ?_))
        refine mm_R.br (L' := [some ((.ref a0)), some (.int i1), some (r2), some (r3), some (r4), some (.int (x4 - (200 : Int32))), none, none]) (st' := []) (t := 46) (u := 39) (b := mm_cc .ge (x4 - (200 : Int32)) x7) 1 rfl (fun c => ?_) (fun c => ?_)
        · replace H := H.1 (of_decide_eq_true c)
          obtain ⟨hr8, H⟩ := H
          refine mm_R.al (pc' := 46) (L' := [some ((.ref a0)), some (.int i1), some (r2), some (r3), some (r4), some (.int (x4 - (200 : Int32))), none, none]) (r := []) (v := r3) 0 rfl rfl rfl rfl hr8 ?_
          refine mm_R.as (pc' := 47) (L' := [some ((.ref a0)), some (.int i1), some (r2), some (r3), some (r4), some (.int (x4 - (200 : Int32))), none, none]) (r := []) (v := r3) 0 rfl rfl rfl rfl hr8 ?_
          exact mm_R.pn (pc' := 54) (L' := [some ((.ref a0)), some (.int i1), some (r2), some (r3), some (r4), some (.int (x4 - (200 : Int32))), some (r3), some (.int (i1 + (1 : Int32)))]) (st' := []) 4 rfl H
        · replace H := H.2 (of_decide_eq_false c)
          refine mm_R.al (pc' := 39) (L' := [some ((.ref a0)), some (.int i1), some (r2), some (r3), some (r4), some (.int (x4 - (200 : Int32))), none, none]) (r := []) (v := r2) 0 rfl rfl rfl rfl hr6 ?_
          refine mm_R.wav (pc' := 42) (L' := [some ((.ref a0)), some (.int i1), some (r2), some (r3), some (r4), some (.int (x4 - (200 : Int32))), none, none]) (r := []) 1 rfl rfl (H.mono (fun v9 H => ?_))
          obtain ⟨hr10, H⟩ := H
          refine mm_R.as (pc' := 47) (L' := [some ((.ref a0)), some (.int i1), some (r2), some (r3), some (r4), some (.int (x4 - (200 : Int32))), none, none]) (r := []) (v := v9) 1 rfl rfl rfl rfl hr10 ?_
          exact mm_R.pn (pc' := 54) (L' := [some ((.ref a0)), some (.int i1), some (r2), some (r3), some (r4), some (.int (x4 - (200 : Int32))), some (v9), some (.int (i1 + (1 : Int32)))]) (st' := []) 4 rfl H
    · replace H := H.2 (of_decide_eq_false c)
      exact mm_R.rt (pc' := 14) (L' := [some ((.ref a0)), some (.int i1), some (r2), some (r3), some (r4), none, none, none]) (st1 := [.null]) 1 rfl rfl rfl rfl rfl rfl H
-- StepRunner$Rule.reach, from 54
set_option maxRecDepth 10000 in
theorem w77_54 {X : List Int32} {d : Nat} {a0 : Nat} {i1 : Int32} {r2 : Value} {r3 : Value} {r4 : Value} {i5 : Int32} {r6 : Value} {i7 : Int32} {hp : mm_H} {Q : Option Value → mm_H → Prop} (H : mw_gi 8 1 (.ref a0) hp (fun x1 => ((x1 ≤ i7 → mm_isr r6 = true ∧ mw_nr r6 ∧ Q (some r6) hp) ∧ (¬ x1 ≤ i7 → mw_gv 8 0 (.ref a0) hp (fun v3 => mw_ln v3 hp (fun x4 => ((x4 ≤ i7 → mm_isr r6 = true ∧ mw_nr r6 ∧ Q (some r6) hp) ∧ (¬ x4 ≤ i7 → mw_gv 8 0 (.ref a0) hp (fun v6 => mw_ai 1000 v6 i7 hp (fun x7 => ((x7 = (400 : Int32) → mm_isr r6 = true ∧ mw_nr r6 ∧ Q (some r6) hp) ∧ (¬ x7 = (400 : Int32) → mm_isr r6 = true ∧ mw_nl r6 (Q (some .null) hp) (mw_gv 8 0 (.ref a0) hp (fun v10 => mw_ai 1000 v10 i7 hp (fun x11 => ((¬ x11 = (308 : Int32) → mw_gv 8 0 (.ref a0) hp (fun v12 => mw_ai 1000 v12 i7 hp (fun x13 => mw_rc r6 67 hp ∧ mm_R X d 67 0 (mm_L0 67 [r6, .int (x13 - (300 : Int32))]) [] hp (mw_rv (fun v16 hp15 => mm_isr v16 = true ∧ mm_R X (d + 1) 77 54 [some ((.ref a0)), some (.int i1), some (r2), some (r3), some (r4), some (.int i5), some (v16), some (.int (i7 + (1 : Int32)))] [] hp15 Q))))) ∧ (x11 = (308 : Int32) → mw_rc r6 78 hp ∧ mm_R X d 78 0 (mm_L0 78 [r6]) [] hp (mw_ri (fun x20 hp19 => ((x20 = (0 : Int32) → mm_R X (d + 1) 77 54 [some ((.ref a0)), some (.int i1), some (r2), some (r3), some (r4), some (.int i5), some (.null), some (.int (i7 + (1 : Int32)))] [] hp19 Q) ∧ (¬ x20 = (0 : Int32) → mm_isr r4 = true ∧ mw_gi 2 4 r6 hp19 (fun x22 => mw_rc r4 40 hp19 ∧ mm_R X d 40 0 (mm_L0 40 [r4, .int x22]) [] hp19 (mw_ri (fun x25 hp24 => ((x25 = (0 : Int32) → mm_R X (d + 1) 77 54 [some ((.ref a0)), some (.int i1), some (r2), some (r3), some (r4), some (.int i5), some (.null), some (.int (i7 + (1 : Int32)))] [] hp24 Q) ∧ (¬ x25 = (0 : Int32) → mm_R X (d + 1) 77 54 [some ((.ref a0)), some (.int i1), some (r2), some (r3), some (r4), some (.int i5), some (r4), some (.int (i7 + (1 : Int32)))] [] hp24 Q)))))))))))))))))))))))))) : mm_R X (d + 1) 77 54 [some ((.ref a0)), some (.int i1), some (r2), some (r3), some (r4), some (.int i5), some (r6), some (.int i7)] [] hp Q := by
  refine mm_R.wgi (pc' := 57) (L' := [some ((.ref a0)), some (.int i1), some (r2), some (r3), some (r4), some (.int i5), some (r6), some (.int i7)]) (r := [.int i7]) 2 rfl rfl (H.mono (fun x1 H => ?_))
  refine mm_R.br (L' := [some ((.ref a0)), some (.int i1), some (r2), some (r3), some (r4), some (.int i5), some (r6), some (.int i7)]) (st' := []) (t := 162) (u := 63) (b := mm_cc .ge i7 x1) 1 rfl (fun c => ?_) (fun c => ?_)
  · replace H := H.1 (of_decide_eq_true c)
    obtain ⟨hr2, H⟩ := H
    refine mm_R.al (pc' := 162) (L' := [some ((.ref a0)), some (.int i1), some (r2), some (r3), some (r4), some (.int i5), some (r6), some (.int i7)]) (r := []) (v := r6) 0 rfl rfl rfl rfl hr2 ?_
    exact mm_R.rt (pc' := 164) (L' := [some ((.ref a0)), some (.int i1), some (r2), some (r3), some (r4), some (.int i5), some (r6), some (.int i7)]) (st1 := [r6]) 0 rfl rfl rfl rfl rfl (mw_rva (ty := (.object "StepRunner$Value")) H.1 rfl) H.2
  · replace H := H.2 (of_decide_eq_false c)
    refine mm_R.wgv (pc' := 66) (L' := [some ((.ref a0)), some (.int i1), some (r2), some (r3), some (r4), some (.int i5), some (r6), some (.int i7)]) (r := [.int i7]) 2 rfl rfl (H.mono (fun v3 H => ?_))
    refine mm_R.wln (pc' := 69) (L' := [some ((.ref a0)), some (.int i1), some (r2), some (r3), some (r4), some (.int i5), some (r6), some (.int i7)]) (r := [.int i7]) 0 rfl rfl (H.mono (fun x4 H => ?_))
    refine mm_R.br (L' := [some ((.ref a0)), some (.int i1), some (r2), some (r3), some (r4), some (.int i5), some (r6), some (.int i7)]) (st' := []) (t := 162) (u := 73) (b := mm_cc .ge i7 x4) 1 rfl (fun c => ?_) (fun c => ?_)
    · replace H := H.1 (of_decide_eq_true c)
      obtain ⟨hr5, H⟩ := H
      refine mm_R.al (pc' := 162) (L' := [some ((.ref a0)), some (.int i1), some (r2), some (r3), some (r4), some (.int i5), some (r6), some (.int i7)]) (r := []) (v := r6) 0 rfl rfl rfl rfl hr5 ?_
      exact mm_R.rt (pc' := 164) (L' := [some ((.ref a0)), some (.int i1), some (r2), some (r3), some (r4), some (.int i5), some (r6), some (.int i7)]) (st1 := [r6]) 0 rfl rfl rfl rfl rfl (mw_rva (ty := (.object "StepRunner$Value")) H.1 rfl) H.2
    · replace H := H.2 (of_decide_eq_false c)
      refine mm_R.wgv (pc' := 74) (L' := [some ((.ref a0)), some (.int i1), some (r2), some (r3), some (r4), some (.int i5), some (r6), some (.int i7)]) (r := []) 1 rfl rfl (H.mono (fun v6 H => ?_))
      refine mm_R.wai (pc' := 79) (L' := [some ((.ref a0)), some (.int i1), some (r2), some (r3), some (r4), some (.int i5), some (r6), some (.int i7)]) (r := []) (t := 1000) 1 rfl rfl rfl rfl (H.mono (fun x7 H => ?_))
      refine mm_R.br (L' := [some ((.ref a0)), some (.int i1), some (r2), some (r3), some (r4), some (.int i5), some (r6), some (.int i7)]) (st' := []) (t := 162) (u := 86) (b := mm_cc .eq x7 (400 : Int32)) 2 rfl (fun c => ?_) (fun c => ?_)
      · replace H := H.1 (of_decide_eq_true c)
        obtain ⟨hr8, H⟩ := H
        refine mm_R.al (pc' := 162) (L' := [some ((.ref a0)), some (.int i1), some (r2), some (r3), some (r4), some (.int i5), some (r6), some (.int i7)]) (r := []) (v := r6) 0 rfl rfl rfl rfl hr8 ?_
        exact mm_R.rt (pc' := 164) (L' := [some ((.ref a0)), some (.int i1), some (r2), some (r3), some (r4), some (.int i5), some (r6), some (.int i7)]) (st1 := [r6]) 0 rfl rfl rfl rfl rfl (mw_rva (ty := (.object "StepRunner$Value")) H.1 rfl) H.2
      · replace H := H.2 (of_decide_eq_false c)
        obtain ⟨hr9, H⟩ := H
        refine mm_R.al (pc' := 86) (L' := [some ((.ref a0)), some (.int i1), some (r2), some (r3), some (r4), some (.int i5), some (r6), some (.int i7)]) (r := []) (v := r6) 0 rfl rfl rfl rfl hr9 ?_
        refine mm_R.wnl (pc' := 88) (L' := [some ((.ref a0)), some (.int i1), some (r2), some (r3), some (r4), some (.int i5), some (r6), some (.int i7)]) (r := []) (v := r6) (t := 91) (u := 93) 0 rfl rfl rfl (H.mono (fun H => ?_) (fun H => ?_))
        · exact mm_R.rt (pc' := 92) (L' := [some ((.ref a0)), some (.int i1), some (r2), some (r3), some (r4), some (.int i5), some (r6), some (.int i7)]) (st1 := [.null]) 1 rfl rfl rfl rfl rfl rfl H
        · refine mm_R.wgv (pc' := 94) (L' := [some ((.ref a0)), some (.int i1), some (r2), some (r3), some (r4), some (.int i5), some (r6), some (.int i7)]) (r := []) 1 rfl rfl (H.mono (fun v10 H => ?_))
          refine mm_R.wai (pc' := 99) (L' := [some ((.ref a0)), some (.int i1), some (r2), some (r3), some (r4), some (.int i5), some (r6), some (.int i7)]) (r := []) (t := 1000) 1 rfl rfl rfl rfl (H.mono (fun x11 H => ?_))
          refine mm_R.br (L' := [some ((.ref a0)), some (.int i1), some (r2), some (r3), some (r4), some (.int i5), some (r6), some (.int i7)]) (st' := []) (t := 138) (u := 106) (b := mm_cc .ne x11 (308 : Int32)) 2 rfl (fun c => ?_) (fun c => ?_)
          · replace H := H.1 (of_decide_eq_true c)
            refine mm_R.al (pc' := 138) (L' := [some ((.ref a0)), some (.int i1), some (r2), some (r3), some (r4), some (.int i5), some (r6), some (.int i7)]) (r := []) (v := r6) 0 rfl rfl rfl rfl hr9 ?_
            refine mm_R.wgv (pc' := 141) (L' := [some ((.ref a0)), some (.int i1), some (r2), some (r3), some (r4), some (.int i5), some (r6), some (.int i7)]) (r := [r6]) 1 rfl rfl (H.mono (fun v12 H => ?_))
            refine mm_R.wai (pc' := 146) (L' := [some ((.ref a0)), some (.int i1), some (r2), some (r3), some (r4), some (.int i5), some (r6), some (.int i7)]) (r := [r6]) (t := 1000) 1 rfl rfl rfl rfl (H.mono (fun x13 H => ?_))
            obtain ⟨hc14, H⟩ := H
            refine mm_R.cV (pc' := 151) (L' := [some ((.ref a0)), some (.int i1), some (r2), some (r3), some (r4), some (.int i5), some (r6), some (.int i7)]) (st1 := [.int (x13 - (300 : Int32)), r6]) (as := [.int (x13 - (300 : Int32))]) (rest := []) 2 rfl rfl (mw_sp rfl rfl (Nat.le_of_ble_eq_true rfl) (mw_ac (mw_c1 hc14.isr) (mw_ac rfl mw_an)) mw_an) rfl rfl hc14 (H.mono (fun o hp15 H => ?_))
            obtain ⟨v16, rfl, H⟩ := H
            obtain ⟨hr17, H⟩ := H
            refine mm_R.as (pc' := 154) (L' := [some ((.ref a0)), some (.int i1), some (r2), some (r3), some (r4), some (.int i5), some (r6), some (.int i7)]) (r := []) (v := v16) 0 rfl rfl rfl rfl hr17 ?_
            exact mm_R.pn (pc' := 54) (L' := [some ((.ref a0)), some (.int i1), some (r2), some (r3), some (r4), some (.int i5), some (v16), some (.int (i7 + (1 : Int32)))]) (st' := []) 2 rfl H
          · replace H := H.2 (Decidable.of_not_not (of_decide_eq_false c))
            refine mm_R.al (pc' := 106) (L' := [some ((.ref a0)), some (.int i1), some (r2), some (r3), some (r4), some (.int i5), some (r6), some (.int i7)]) (r := []) (v := r6) 0 rfl rfl rfl rfl hr9 ?_
            obtain ⟨hc18, H⟩ := H
            refine mm_R.cV (pc' := 108) (L' := [some ((.ref a0)), some (.int i1), some (r2), some (r3), some (r4), some (.int i5), some (r6), some (.int i7)]) (st1 := [r6]) (as := []) (rest := []) 0 rfl rfl (mw_sp rfl rfl (Nat.le_of_ble_eq_true rfl) (mw_ac (mw_c1 hc18.isr) mw_an) mw_an) rfl rfl hc18 (H.mono (fun o hp19 H => ?_))
            obtain ⟨x20, rfl, H⟩ := H
            refine mm_R.br (L' := [some ((.ref a0)), some (.int i1), some (r2), some (r3), some (r4), some (.int i5), some (r6), some (.int i7)]) (st' := []) (t := 132) (u := 114) (b := mm_cc .eq x20 (0 : Int32)) 1 rfl (fun c => ?_) (fun c => ?_)
            · replace H := H.1 (of_decide_eq_true c)
              exact mm_R.pn (pc' := 54) (L' := [some ((.ref a0)), some (.int i1), some (r2), some (r3), some (r4), some (.int i5), some (.null), some (.int (i7 + (1 : Int32)))]) (st' := []) 5 rfl H
            · replace H := H.2 (of_decide_eq_false c)
              obtain ⟨hr21, H⟩ := H
              refine mm_R.al (pc' := 114) (L' := [some ((.ref a0)), some (.int i1), some (r2), some (r3), some (r4), some (.int i5), some (r6), some (.int i7)]) (r := []) (v := r4) 0 rfl rfl rfl rfl hr21 ?_
              refine mm_R.al (pc' := 116) (L' := [some ((.ref a0)), some (.int i1), some (r2), some (r3), some (r4), some (.int i5), some (r6), some (.int i7)]) (r := [r4]) (v := r6) 0 rfl rfl rfl rfl hc18.isr ?_
              refine mm_R.wgi (pc' := 118) (L' := [some ((.ref a0)), some (.int i1), some (r2), some (r3), some (r4), some (.int i5), some (r6), some (.int i7)]) (r := [r4]) 0 rfl rfl (H.mono (fun x22 H => ?_))
              obtain ⟨hc23, H⟩ := H
              refine mm_R.cV (pc' := 121) (L' := [some ((.ref a0)), some (.int i1), some (r2), some (r3), some (r4), some (.int i5), some (r6), some (.int i7)]) (st1 := [.int x22, r4]) (as := [.int x22]) (rest := []) 0 rfl rfl (mw_sp rfl rfl (Nat.le_of_ble_eq_true rfl) (mw_ac (mw_c1 hc23.isr) (mw_ac rfl mw_an)) mw_an) rfl rfl hc23 (H.mono (fun o hp24 H => ?_))
              obtain ⟨x25, rfl, H⟩ := H
              refine mm_R.br (L' := [some ((.ref a0)), some (.int i1), some (r2), some (r3), some (r4), some (.int i5), some (r6), some (.int i7)]) (st' := []) (t := 132) (u := 127) (b := mm_cc .eq x25 (0 : Int32)) 1 rfl (fun c => ?_) (fun c => ?_)
              · replace H := H.1 (of_decide_eq_true c)
                exact mm_R.pn (pc' := 54) (L' := [some ((.ref a0)), some (.int i1), some (r2), some (r3), some (r4), some (.int i5), some (.null), some (.int (i7 + (1 : Int32)))]) (st' := []) 5 rfl H
              · replace H := H.2 (of_decide_eq_false c)
                refine mm_R.al (pc' := 127) (L' := [some ((.ref a0)), some (.int i1), some (r2), some (r3), some (r4), some (.int i5), some (r6), some (.int i7)]) (r := []) (v := r4) 0 rfl rfl rfl rfl hc23.isr ?_
                refine mm_R.as (pc' := 133) (L' := [some ((.ref a0)), some (.int i1), some (r2), some (r3), some (r4), some (.int i5), some (r6), some (.int i7)]) (r := []) (v := r4) 1 rfl rfl rfl rfl hc23.isr ?_
                exact mm_R.pn (pc' := 54) (L' := [some ((.ref a0)), some (.int i1), some (r2), some (r3), some (r4), some (.int i5), some (r4), some (.int (i7 + (1 : Int32)))]) (st' := []) 3 rfl H
-- StepRunner$Value.hasLength, from 0
set_option maxRecDepth 10000 in
theorem w78_0 {X : List Int32} {d : Nat} {a0 : Nat} {hp : mm_H} {Q : Option Value → mm_H → Prop} (H : mw_gi 2 2 (.ref a0) hp (fun x1 => ((x1 = (3 : Int32) → Q (some (.int (1 : Int32))) hp) ∧ (¬ x1 = (3 : Int32) → mw_gi 2 2 (.ref a0) hp (fun x2 => ((¬ x2 = (2 : Int32) → Q (some (.int (0 : Int32))) hp) ∧ (x2 = (2 : Int32) → Q (some (.int (1 : Int32))) hp))))))) : mm_R X (d + 1) 78 0 (mm_L0 78 [(.ref a0)]) [] hp Q := by
  show mm_R X (d + 1) 78 0 [some ((.ref a0))] [] hp Q
  refine mm_R.wgi (pc' := 1) (L' := [some ((.ref a0))]) (r := []) 1 rfl rfl (H.mono (fun x1 H => ?_))
  refine mm_R.br (L' := [some ((.ref a0))]) (st' := []) (t := 16) (u := 8) (b := mm_cc .eq x1 (3 : Int32)) 2 rfl (fun c => ?_) (fun c => ?_)
  · replace H := H.1 (of_decide_eq_true c)
    exact mm_R.rt (pc' := 21) (L' := [some ((.ref a0))]) (st1 := [.int (1 : Int32)]) 2 rfl rfl rfl rfl rfl rfl H
  · replace H := H.2 (of_decide_eq_false c)
    refine mm_R.wgi (pc' := 9) (L' := [some ((.ref a0))]) (r := []) 1 rfl rfl (H.mono (fun x2 H => ?_))
    refine mm_R.br (L' := [some ((.ref a0))]) (st' := []) (t := 20) (u := 16) (b := mm_cc .ne x2 (2 : Int32)) 2 rfl (fun c => ?_) (fun c => ?_)
    · replace H := H.1 (of_decide_eq_true c)
      exact mm_R.rt (pc' := 21) (L' := [some ((.ref a0))]) (st1 := [.int (0 : Int32)]) 1 rfl rfl rfl rfl rfl rfl H
    · replace H := H.2 (Decidable.of_not_not (of_decide_eq_false c))
      exact mm_R.rt (pc' := 21) (L' := [some ((.ref a0))]) (st1 := [.int (1 : Int32)]) 2 rfl rfl rfl rfl rfl rfl H
-- StepRunner$Value.addPlain, from 0
set_option maxRecDepth 10000 in
theorem w79_0 {X : List Int32} {d : Nat} {a0 : Nat} {r1 : Value} {hp : mm_H} {Q : Option Value → mm_H → Prop} (H : mm_isr r1 = true ∧ mw_rc r1 80 hp ∧ mm_R X d 80 0 (mm_L0 80 [r1]) [] hp (mw_ri (fun x4 hp3 => mw_rc r1 81 hp3 ∧ mm_R X d 81 0 (mm_L0 81 [r1]) [] hp3 (mw_ri (fun x7 hp6 => (((x7 - x4) ≤ (24 : Int32) → mm_R X (d + 1) 79 23 [some ((.ref a0)), some (r1), some (.int x4), some (.int x7), some (.int x4)] [] hp6 Q) ∧ (¬ (x7 - x4) ≤ (24 : Int32) → Q (some (.int (0 : Int32))) hp6))))))) : mm_R X (d + 1) 79 0 (mm_L0 79 [(.ref a0), r1]) [] hp Q := by
  show mm_R X (d + 1) 79 0 [some ((.ref a0)), some (r1), none, none, none] [] hp Q
  obtain ⟨hr1, H⟩ := H
  refine mm_R.al (pc' := 0) (L' := [some ((.ref a0)), some (r1), none, none, none]) (r := []) (v := r1) 0 rfl rfl rfl rfl hr1 ?_
  obtain ⟨hc2, H⟩ := H
  refine mm_R.cV (pc' := 1) (L' := [some ((.ref a0)), some (r1), none, none, none]) (st1 := [r1]) (as := []) (rest := []) 0 rfl rfl (mw_sp rfl rfl (Nat.le_of_ble_eq_true rfl) (mw_ac (mw_c1 hc2.isr) mw_an) mw_an) rfl rfl hc2 (H.mono (fun o hp3 H => ?_))
  obtain ⟨x4, rfl, H⟩ := H
  refine mm_R.al (pc' := 5) (L' := [some ((.ref a0)), some (r1), some (.int x4), none, none]) (r := []) (v := r1) 1 rfl rfl rfl rfl hc2.isr ?_
  obtain ⟨hc5, H⟩ := H
  refine mm_R.cV (pc' := 6) (L' := [some ((.ref a0)), some (r1), some (.int x4), none, none]) (st1 := [r1]) (as := []) (rest := []) 0 rfl rfl (mw_sp rfl rfl (Nat.le_of_ble_eq_true rfl) (mw_ac (mw_c1 hc5.isr) mw_an) mw_an) rfl rfl hc5 (H.mono (fun o hp6 H => ?_))
  obtain ⟨x7, rfl, H⟩ := H
  refine mm_R.br (L' := [some ((.ref a0)), some (r1), some (.int x4), some (.int x7), none]) (st' := []) (t := 20) (u := 18) (b := mm_cc .le (x7 - x4) (24 : Int32)) 6 rfl (fun c => ?_) (fun c => ?_)
  · replace H := H.1 (of_decide_eq_true c)
    exact mm_R.pn (pc' := 23) (L' := [some ((.ref a0)), some (r1), some (.int x4), some (.int x7), some (.int x4)]) (st' := []) 2 rfl H
  · replace H := H.2 (of_decide_eq_false c)
    exact mm_R.rt (pc' := 19) (L' := [some ((.ref a0)), some (r1), some (.int x4), some (.int x7), none]) (st1 := [.int (0 : Int32)]) 1 rfl rfl rfl rfl rfl rfl H
-- StepRunner$Value.addPlain, from 23
set_option maxRecDepth 10000 in
theorem w79_23 {X : List Int32} {d : Nat} {a0 : Nat} {r1 : Value} {i2 : Int32} {i3 : Int32} {i4 : Int32} {hp : mm_H} {Q : Option Value → mm_H → Prop} (H : ((i3 ≤ i4 → Q (some (.int (1 : Int32))) hp) ∧ (¬ i3 ≤ i4 → mm_isr r1 = true ∧ mw_rc r1 82 hp ∧ mm_R X d 82 0 (mm_L0 82 [r1, .int i4]) [] hp (mw_ri (fun x4 hp3 => mw_rc (.ref a0) 34 hp3 ∧ mm_R X d 34 0 (mm_L0 34 [(.ref a0), .int ((Int32.toUInt32 x4 % 65536).toInt32)]) [] hp3 (mw_ri (fun x7 hp6 => ((¬ x7 = (0 : Int32) → mm_R X (d + 1) 79 23 [some ((.ref a0)), some (r1), some (.int i2), some (.int i3), some (.int (i4 + (1 : Int32)))] [] hp6 Q) ∧ (x7 = (0 : Int32) → Q (some (.int (0 : Int32))) hp6))))))))) : mm_R X (d + 1) 79 23 [some ((.ref a0)), some (r1), some (.int i2), some (.int i3), some (.int i4)] [] hp Q := by
  refine mm_R.br (L' := [some ((.ref a0)), some (r1), some (.int i2), some (.int i3), some (.int i4)]) (st' := []) (t := 51) (u := 29) (b := mm_cc .ge i4 i3) 3 rfl (fun c => ?_) (fun c => ?_)
  · replace H := H.1 (of_decide_eq_true c)
    exact mm_R.rt (pc' := 52) (L' := [some ((.ref a0)), some (r1), some (.int i2), some (.int i3), some (.int i4)]) (st1 := [.int (1 : Int32)]) 1 rfl rfl rfl rfl rfl rfl H
  · replace H := H.2 (of_decide_eq_false c)
    obtain ⟨hr1, H⟩ := H
    refine mm_R.al (pc' := 30) (L' := [some ((.ref a0)), some (r1), some (.int i2), some (.int i3), some (.int i4)]) (r := [(.ref a0)]) (v := r1) 1 rfl rfl rfl rfl hr1 ?_
    obtain ⟨hc2, H⟩ := H
    refine mm_R.cV (pc' := 33) (L' := [some ((.ref a0)), some (r1), some (.int i2), some (.int i3), some (.int i4)]) (st1 := [.int i4, r1, (.ref a0)]) (as := [.int i4]) (rest := [(.ref a0)]) 1 rfl rfl (mw_sp rfl rfl (Nat.le_of_ble_eq_true rfl) (mw_ac (mw_c1 hc2.isr) (mw_ac rfl mw_an)) (mw_ac rfl mw_an)) rfl rfl hc2 (H.mono (fun o hp3 H => ?_))
    obtain ⟨x4, rfl, H⟩ := H
    obtain ⟨hc5, H⟩ := H
    refine mm_R.cV (pc' := 37) (L' := [some ((.ref a0)), some (r1), some (.int i2), some (.int i3), some (.int i4)]) (st1 := [.int ((Int32.toUInt32 x4 % 65536).toInt32), (.ref a0)]) (as := [.int ((Int32.toUInt32 x4 % 65536).toInt32)]) (rest := []) 1 rfl rfl (mw_sp rfl rfl (Nat.le_of_ble_eq_true rfl) (mw_ac rfl (mw_ac rfl mw_an)) mw_an) rfl rfl hc5 (H.mono (fun o hp6 H => ?_))
    obtain ⟨x7, rfl, H⟩ := H
    refine mm_R.br (L' := [some ((.ref a0)), some (r1), some (.int i2), some (.int i3), some (.int i4)]) (st' := []) (t := 45) (u := 43) (b := mm_cc .ne x7 (0 : Int32)) 1 rfl (fun c => ?_) (fun c => ?_)
    · replace H := H.1 (of_decide_eq_true c)
      exact mm_R.pn (pc' := 23) (L' := [some ((.ref a0)), some (r1), some (.int i2), some (.int i3), some (.int (i4 + (1 : Int32)))]) (st' := []) 2 rfl H
    · replace H := H.2 (Decidable.of_not_not (of_decide_eq_false c))
      exact mm_R.rt (pc' := 44) (L' := [some ((.ref a0)), some (r1), some (.int i2), some (.int i3), some (.int i4)]) (st1 := [.int (0 : Int32)]) 1 rfl rfl rfl rfl rfl rfl H
-- StepRunner$Value.plainBegin, from 0
set_option maxRecDepth 10000 in
theorem w80_0 {X : List Int32} {d : Nat} {a0 : Nat} {hp : mm_H} {Q : Option Value → mm_H → Prop} (H : mw_gi 2 2 (.ref a0) hp (fun x1 => ((¬ x1 = (2 : Int32) → Q (some (.int (0 : Int32))) hp) ∧ (x1 = (2 : Int32) → Q (some (.int (1 : Int32))) hp)))) : mm_R X (d + 1) 80 0 (mm_L0 80 [(.ref a0)]) [] hp Q := by
  show mm_R X (d + 1) 80 0 [some ((.ref a0))] [] hp Q
  refine mm_R.wgi (pc' := 1) (L' := [some ((.ref a0))]) (r := []) 1 rfl rfl (H.mono (fun x1 H => ?_))
  refine mm_R.br (L' := [some ((.ref a0))]) (st' := []) (t := 12) (u := 8) (b := mm_cc .ne x1 (2 : Int32)) 2 rfl (fun c => ?_) (fun c => ?_)
  · replace H := H.1 (of_decide_eq_true c)
    exact mm_R.rt (pc' := 13) (L' := [some ((.ref a0))]) (st1 := [.int (0 : Int32)]) 1 rfl rfl rfl rfl rfl rfl H
  · replace H := H.2 (Decidable.of_not_not (of_decide_eq_false c))
    exact mm_R.rt (pc' := 13) (L' := [some ((.ref a0))]) (st1 := [.int (1 : Int32)]) 2 rfl rfl rfl rfl rfl rfl H
-- StepRunner$Value.plainEnd, from 0
set_option maxRecDepth 10000 in
theorem w81_0 {X : List Int32} {d : Nat} {a0 : Nat} {hp : mm_H} {Q : Option Value → mm_H → Prop} (H : mw_gi 2 2 (.ref a0) hp (fun x1 => ((¬ x1 = (2 : Int32) → mw_gi 2 6 (.ref a0) hp (fun x2 => Q (some (.int x2)) hp)) ∧ (x1 = (2 : Int32) → mw_gi 2 6 (.ref a0) hp (fun x3 => Q (some (.int (x3 - (1 : Int32)))) hp))))) : mm_R X (d + 1) 81 0 (mm_L0 81 [(.ref a0)]) [] hp Q := by
  show mm_R X (d + 1) 81 0 [some ((.ref a0))] [] hp Q
  refine mm_R.wgi (pc' := 1) (L' := [some ((.ref a0))]) (r := []) 1 rfl rfl (H.mono (fun x1 H => ?_))
  refine mm_R.br (L' := [some ((.ref a0))]) (st' := []) (t := 17) (u := 8) (b := mm_cc .ne x1 (2 : Int32)) 2 rfl (fun c => ?_) (fun c => ?_)
  · replace H := H.1 (of_decide_eq_true c)
    refine mm_R.wgi (pc' := 18) (L' := [some ((.ref a0))]) (r := []) 1 rfl rfl (H.mono (fun x2 H => ?_))
    exact mm_R.rt (pc' := 21) (L' := [some ((.ref a0))]) (st1 := [.int x2]) 0 rfl rfl rfl rfl rfl rfl H
  · replace H := H.2 (Decidable.of_not_not (of_decide_eq_false c))
    refine mm_R.wgi (pc' := 9) (L' := [some ((.ref a0))]) (r := []) 1 rfl rfl (H.mono (fun x3 H => ?_))
    exact mm_R.rt (pc' := 21) (L' := [some ((.ref a0))]) (st1 := [.int (x3 - (1 : Int32))]) 3 rfl rfl rfl rfl rfl rfl H
-- StepRunner$Value.formAt, from 0
set_option maxRecDepth 10000 in
theorem w82_0 {X : List Int32} {d : Nat} {a0 : Nat} {i1 : Int32} {hp : mm_H} {Q : Option Value → mm_H → Prop} (H : mm_R X (d + 1) 82 7 [some ((.ref a0)), some (.int i1), some ((.ref a0)), some (.int i1), some (.int (0 : Int32)), none, none] [] hp Q) : mm_R X (d + 1) 82 0 (mm_L0 82 [(.ref a0), .int i1]) [] hp Q := by
  show mm_R X (d + 1) 82 0 [some ((.ref a0)), some (.int i1), none, none, none, none, none] [] hp Q
  exact mm_R.pn (pc' := 7) (L' := [some ((.ref a0)), some (.int i1), some ((.ref a0)), some (.int i1), some (.int (0 : Int32)), none, none]) (st' := []) 6 rfl H
-- StepRunner$Value.formAt, from 7
set_option maxRecDepth 10000 in
theorem w82_7 {X : List Int32} {d : Nat} {a0 : Nat} {i1 : Int32} {r2 : Value} {i3 : Int32} {i4 : Int32} {o5 : Option Value} {o6 : Option Value} {hp : mm_H} {Q : Option Value → mm_H → Prop} (H : (((3 : Int32) < i4 → Q (some (.int (-1 : Int32))) hp) ∧ (¬ (3 : Int32) < i4 → ((i3 < (0 : Int32) → Q (some (.int (-1 : Int32))) hp) ∧ (¬ i3 < (0 : Int32) → mm_isr r2 = true ∧ mw_gi 2 6 r2 hp (fun x2 => ((i3 < x2 → mw_gi 2 2 r2 hp (fun x3 => ((x3 = (3 : Int32) → ((i3 = (0 : Int32) → ((¬ i3 = (0 : Int32) → Q (some (.int (93 : Int32))) hp) ∧ (i3 = (0 : Int32) → Q (some (.int (91 : Int32))) hp))) ∧ (¬ i3 = (0 : Int32) → mw_gi 2 6 r2 hp (fun x4 => ((¬ i3 = (x4 - (1 : Int32)) → mm_R X (d + 1) 82 97 [some ((.ref a0)), some (.int i1), some (r2), some (.int (i3 + (-1 : Int32))), some (.int i4), some (.null), some (.int (0 : Int32))] [] hp Q) ∧ (i3 = (x4 - (1 : Int32)) → ((¬ i3 = (0 : Int32) → Q (some (.int (93 : Int32))) hp) ∧ (i3 = (0 : Int32) → Q (some (.int (91 : Int32))) hp)))))))) ∧ (¬ x3 = (3 : Int32) → mw_gv 2 0 r2 hp (fun v5 => mw_nl v5 (Q (some (.int (-1 : Int32))) hp) (mw_gv 2 0 r2 hp (fun v6 => mw_ln v6 hp (fun x7 => ((i3 < x7 → mw_gv 2 0 r2 hp (fun v8 => mw_ai 1001 v8 i3 hp (fun x9 => Q (some (.int x9)) hp))) ∧ (¬ i3 < x7 → Q (some (.int (-1 : Int32))) hp)))))))))) ∧ (¬ i3 < x2 → Q (some (.int (-1 : Int32))) hp)))))))) : mm_R X (d + 1) 82 7 [some ((.ref a0)), some (.int i1), some (r2), some (.int i3), some (.int i4), o5, o6] [] hp Q := by
  refine mm_R.br (L' := [some ((.ref a0)), some (.int i1), some (r2), some (.int i3), some (.int i4), o5, o6]) (st' := []) (t := 200) (u := 13) (b := mm_cc .gt i4 (3 : Int32)) 3 rfl (fun c => ?_) (fun c => ?_)
  · replace H := H.1 (of_decide_eq_true c)
    exact mm_R.rt (pc' := 201) (L' := [some ((.ref a0)), some (.int i1), some (r2), some (.int i3), some (.int i4), o5, o6]) (st1 := [.int (-1 : Int32)]) 1 rfl rfl rfl rfl rfl rfl H
  · replace H := H.2 (of_decide_eq_false c)
    refine mm_R.br (L' := [some ((.ref a0)), some (.int i1), some (r2), some (.int i3), some (.int i4), o5, o6]) (st' := []) (t := 25) (u := 17) (b := mm_cc .lt i3 (0 : Int32)) 2 rfl (fun c => ?_) (fun c => ?_)
    · replace H := H.1 (of_decide_eq_true c)
      exact mm_R.rt (pc' := 26) (L' := [some ((.ref a0)), some (.int i1), some (r2), some (.int i3), some (.int i4), o5, o6]) (st1 := [.int (-1 : Int32)]) 1 rfl rfl rfl rfl rfl rfl H
    · replace H := H.2 (of_decide_eq_false c)
      obtain ⟨hr1, H⟩ := H
      refine mm_R.al (pc' := 18) (L' := [some ((.ref a0)), some (.int i1), some (r2), some (.int i3), some (.int i4), o5, o6]) (r := [.int i3]) (v := r2) 1 rfl rfl rfl rfl hr1 ?_
      refine mm_R.wgi (pc' := 19) (L' := [some ((.ref a0)), some (.int i1), some (r2), some (.int i3), some (.int i4), o5, o6]) (r := [.int i3]) 0 rfl rfl (H.mono (fun x2 H => ?_))
      refine mm_R.br (L' := [some ((.ref a0)), some (.int i1), some (r2), some (.int i3), some (.int i4), o5, o6]) (st' := []) (t := 27) (u := 25) (b := mm_cc .lt i3 x2) 1 rfl (fun c => ?_) (fun c => ?_)
      · replace H := H.1 (of_decide_eq_true c)
        refine mm_R.al (pc' := 27) (L' := [some ((.ref a0)), some (.int i1), some (r2), some (.int i3), some (.int i4), o5, o6]) (r := []) (v := r2) 0 rfl rfl rfl rfl hr1 ?_
        refine mm_R.wgi (pc' := 28) (L' := [some ((.ref a0)), some (.int i1), some (r2), some (.int i3), some (.int i4), o5, o6]) (r := []) 0 rfl rfl (H.mono (fun x3 H => ?_))
        refine mm_R.br (L' := [some ((.ref a0)), some (.int i1), some (r2), some (.int i3), some (.int i4), o5, o6]) (st' := []) (t := 62) (u := 35) (b := mm_cc .eq x3 (3 : Int32)) 2 rfl (fun c => ?_) (fun c => ?_)
        · replace H := H.1 (of_decide_eq_true c)
          refine mm_R.br (L' := [some ((.ref a0)), some (.int i1), some (r2), some (.int i3), some (.int i4), o5, o6]) (st' := []) (t := 76) (u := 66) (b := mm_cc .eq i3 (0 : Int32)) 2 rfl (fun c => ?_) (fun c => ?_)
          · replace H := H.1 (of_decide_eq_true c)
            refine mm_R.br (L' := [some ((.ref a0)), some (.int i1), some (r2), some (.int i3), some (.int i4), o5, o6]) (st' := []) (t := 85) (u := 80) (b := mm_cc .ne i3 (0 : Int32)) 2 rfl (fun c => ?_) (fun c => ?_)
            · replace H := H.1 (of_decide_eq_true c)
              exact mm_R.rt (pc' := 87) (L' := [some ((.ref a0)), some (.int i1), some (r2), some (.int i3), some (.int i4), o5, o6]) (st1 := [.int (93 : Int32)]) 1 rfl rfl rfl rfl rfl rfl H
            · replace H := H.2 (Decidable.of_not_not (of_decide_eq_false c))
              exact mm_R.rt (pc' := 87) (L' := [some ((.ref a0)), some (.int i1), some (r2), some (.int i3), some (.int i4), o5, o6]) (st1 := [.int (91 : Int32)]) 2 rfl rfl rfl rfl rfl rfl H
          · replace H := H.2 (of_decide_eq_false c)
            refine mm_R.al (pc' := 67) (L' := [some ((.ref a0)), some (.int i1), some (r2), some (.int i3), some (.int i4), o5, o6]) (r := [.int i3]) (v := r2) 1 rfl rfl rfl rfl hr1 ?_
            refine mm_R.wgi (pc' := 68) (L' := [some ((.ref a0)), some (.int i1), some (r2), some (.int i3), some (.int i4), o5, o6]) (r := [.int i3]) 0 rfl rfl (H.mono (fun x4 H => ?_))
            refine mm_R.br (L' := [some ((.ref a0)), some (.int i1), some (r2), some (.int i3), some (.int i4), o5, o6]) (st' := []) (t := 88) (u := 76) (b := mm_cc .ne i3 (x4 - (1 : Int32))) 3 rfl (fun c => ?_) (fun c => ?_)
            · replace H := H.1 (of_decide_eq_true c)
              exact mm_R.pn (pc' := 97) (L' := [some ((.ref a0)), some (.int i1), some (r2), some (.int (i3 + (-1 : Int32))), some (.int i4), some (.null), some (.int (0 : Int32))]) (st' := []) 5 rfl H
            · replace H := H.2 (Decidable.of_not_not (of_decide_eq_false c))
              refine mm_R.br (L' := [some ((.ref a0)), some (.int i1), some (r2), some (.int i3), some (.int i4), o5, o6]) (st' := []) (t := 85) (u := 80) (b := mm_cc .ne i3 (0 : Int32)) 2 rfl (fun c => ?_) (fun c => ?_)
              · replace H := H.1 (of_decide_eq_true c)
                exact mm_R.rt (pc' := 87) (L' := [some ((.ref a0)), some (.int i1), some (r2), some (.int i3), some (.int i4), o5, o6]) (st1 := [.int (93 : Int32)]) 1 rfl rfl rfl rfl rfl rfl H
              · replace H := H.2 (Decidable.of_not_not (of_decide_eq_false c))
                exact mm_R.rt (pc' := 87) (L' := [some ((.ref a0)), some (.int i1), some (r2), some (.int i3), some (.int i4), o5, o6]) (st1 := [.int (91 : Int32)]) 2 rfl rfl rfl rfl rfl rfl H
        · replace H := H.2 (of_decide_eq_false c)
          refine mm_R.al (pc' := 35) (L' := [some ((.ref a0)), some (.int i1), some (r2), some (.int i3), some (.int i4), o5, o6]) (r := []) (v := r2) 0 rfl rfl rfl rfl hr1 ?_
          refine mm_R.wgv (pc' := 36) (L' := [some ((.ref a0)), some (.int i1), some (r2), some (.int i3), some (.int i4), o5, o6]) (r := []) 0 rfl rfl (H.mono (fun v5 H => ?_))
          refine mm_R.wnl (pc' := 39) (L' := [some ((.ref a0)), some (.int i1), some (r2), some (.int i3), some (.int i4), o5, o6]) (r := []) (v := v5) (t := 51) (u := 42) 0 rfl rfl rfl (H.mono (fun H => ?_) (fun H => ?_))
          · exact mm_R.rt (pc' := 61) (L' := [some ((.ref a0)), some (.int i1), some (r2), some (.int i3), some (.int i4), o5, o6]) (st1 := [.int (-1 : Int32)]) 2 rfl rfl rfl rfl rfl rfl H
          · refine mm_R.al (pc' := 43) (L' := [some ((.ref a0)), some (.int i1), some (r2), some (.int i3), some (.int i4), o5, o6]) (r := [.int i3]) (v := r2) 1 rfl rfl rfl rfl hr1 ?_
            refine mm_R.wgv (pc' := 44) (L' := [some ((.ref a0)), some (.int i1), some (r2), some (.int i3), some (.int i4), o5, o6]) (r := [.int i3]) 0 rfl rfl (H.mono (fun v6 H => ?_))
            refine mm_R.wln (pc' := 47) (L' := [some ((.ref a0)), some (.int i1), some (r2), some (.int i3), some (.int i4), o5, o6]) (r := [.int i3]) 0 rfl rfl (H.mono (fun x7 H => ?_))
            refine mm_R.br (L' := [some ((.ref a0)), some (.int i1), some (r2), some (.int i3), some (.int i4), o5, o6]) (st' := []) (t := 55) (u := 51) (b := mm_cc .lt i3 x7) 1 rfl (fun c => ?_) (fun c => ?_)
            · replace H := H.1 (of_decide_eq_true c)
              refine mm_R.al (pc' := 55) (L' := [some ((.ref a0)), some (.int i1), some (r2), some (.int i3), some (.int i4), o5, o6]) (r := []) (v := r2) 0 rfl rfl rfl rfl hr1 ?_
              refine mm_R.wgv (pc' := 56) (L' := [some ((.ref a0)), some (.int i1), some (r2), some (.int i3), some (.int i4), o5, o6]) (r := []) 0 rfl rfl (H.mono (fun v8 H => ?_))
              refine mm_R.wai (pc' := 60) (L' := [some ((.ref a0)), some (.int i1), some (r2), some (.int i3), some (.int i4), o5, o6]) (r := []) (t := 1001) 1 rfl rfl rfl rfl (H.mono (fun x9 H => ?_))
              exact mm_R.rt (pc' := 61) (L' := [some ((.ref a0)), some (.int i1), some (r2), some (.int i3), some (.int i4), o5, o6]) (st1 := [.int x9]) 0 rfl rfl rfl rfl rfl rfl H
            · replace H := H.2 (of_decide_eq_false c)
              exact mm_R.rt (pc' := 61) (L' := [some ((.ref a0)), some (.int i1), some (r2), some (.int i3), some (.int i4), o5, o6]) (st1 := [.int (-1 : Int32)]) 2 rfl rfl rfl rfl rfl rfl H
      · replace H := H.2 (of_decide_eq_false c)
        exact mm_R.rt (pc' := 26) (L' := [some ((.ref a0)), some (.int i1), some (r2), some (.int i3), some (.int i4), o5, o6]) (st1 := [.int (-1 : Int32)]) 1 rfl rfl rfl rfl rfl rfl H
-- StepRunner$Value.formAt, from 97
set_option maxRecDepth 10000 in
theorem w82_97 {X : List Int32} {d : Nat} {a0 : Nat} {i1 : Int32} {r2 : Value} {i3 : Int32} {i4 : Int32} {r5 : Value} {i6 : Int32} {hp : mm_H} {Q : Option Value → mm_H → Prop} (H : mm_isr r2 = true ∧ mw_gv 2 1 r2 hp (fun v2 => mw_nl v2 (mm_R X (d + 1) 82 165 [some ((.ref a0)), some (.int i1), some (r2), some (.int i3), some (.int i4), some (r5), some (.int i6)] [] hp Q) (mw_gi 2 4 r2 hp (fun x3 => ((x3 ≤ i6 → mm_R X (d + 1) 82 165 [some ((.ref a0)), some (.int i1), some (r2), some (.int i3), some (.int i4), some (r5), some (.int i6)] [] hp Q) ∧ (¬ x3 ≤ i6 → mw_gv 2 1 r2 hp (fun v4 => mw_ln v4 hp (fun x5 => ((x5 ≤ i6 → mm_R X (d + 1) 82 165 [some ((.ref a0)), some (.int i1), some (r2), some (.int i3), some (.int i4), some (r5), some (.int i6)] [] hp Q) ∧ (¬ x5 ≤ i6 → mw_gv 2 1 r2 hp (fun v6 => mw_av v6 i6 hp (fun v7 => mm_isr v7 = true ∧ mw_nl v7 (mm_R X (d + 1) 82 165 [some ((.ref a0)), some (.int i1), some (r2), some (.int i3), some (.int i4), some (v7), some (.int i6)] [] hp Q) (mw_gi 2 6 v7 hp (fun x9 => ((x9 < i3 → mw_gi 2 6 v7 hp (fun x10 => mm_R X (d + 1) 82 97 [some ((.ref a0)), some (.int i1), some (r2), some (.int (i3 - (x10 + (1 : Int32)))), some (.int i4), some (v7), some (.int (i6 + (1 : Int32)))] [] hp Q)) ∧ (¬ x9 < i3 → mm_R X (d + 1) 82 165 [some ((.ref a0)), some (.int i1), some (r2), some (.int i3), some (.int i4), some (v7), some (.int i6)] [] hp Q)))))))))))))))) : mm_R X (d + 1) 82 97 [some ((.ref a0)), some (.int i1), some (r2), some (.int i3), some (.int i4), some (r5), some (.int i6)] [] hp Q := by
  obtain ⟨hr1, H⟩ := H
  refine mm_R.al (pc' := 97) (L' := [some ((.ref a0)), some (.int i1), some (r2), some (.int i3), some (.int i4), some (r5), some (.int i6)]) (r := []) (v := r2) 0 rfl rfl rfl rfl hr1 ?_
  refine mm_R.wgv (pc' := 98) (L' := [some ((.ref a0)), some (.int i1), some (r2), some (.int i3), some (.int i4), some (r5), some (.int i6)]) (r := []) 0 rfl rfl (H.mono (fun v2 H => ?_))
  refine mm_R.wnl (pc' := 101) (L' := [some ((.ref a0)), some (.int i1), some (r2), some (.int i3), some (.int i4), some (r5), some (.int i6)]) (r := []) (v := v2) (t := 165) (u := 104) 0 rfl rfl rfl (H.mono (fun H => ?_) (fun H => ?_))
  · exact H
  · refine mm_R.al (pc' := 106) (L' := [some ((.ref a0)), some (.int i1), some (r2), some (.int i3), some (.int i4), some (r5), some (.int i6)]) (r := [.int i6]) (v := r2) 1 rfl rfl rfl rfl hr1 ?_
    refine mm_R.wgi (pc' := 107) (L' := [some ((.ref a0)), some (.int i1), some (r2), some (.int i3), some (.int i4), some (r5), some (.int i6)]) (r := [.int i6]) 0 rfl rfl (H.mono (fun x3 H => ?_))
    refine mm_R.br (L' := [some ((.ref a0)), some (.int i1), some (r2), some (.int i3), some (.int i4), some (r5), some (.int i6)]) (st' := []) (t := 165) (u := 113) (b := mm_cc .ge i6 x3) 1 rfl (fun c => ?_) (fun c => ?_)
    · replace H := H.1 (of_decide_eq_true c)
      exact H
    · replace H := H.2 (of_decide_eq_false c)
      refine mm_R.al (pc' := 115) (L' := [some ((.ref a0)), some (.int i1), some (r2), some (.int i3), some (.int i4), some (r5), some (.int i6)]) (r := [.int i6]) (v := r2) 1 rfl rfl rfl rfl hr1 ?_
      refine mm_R.wgv (pc' := 116) (L' := [some ((.ref a0)), some (.int i1), some (r2), some (.int i3), some (.int i4), some (r5), some (.int i6)]) (r := [.int i6]) 0 rfl rfl (H.mono (fun v4 H => ?_))
      refine mm_R.wln (pc' := 119) (L' := [some ((.ref a0)), some (.int i1), some (r2), some (.int i3), some (.int i4), some (r5), some (.int i6)]) (r := [.int i6]) 0 rfl rfl (H.mono (fun x5 H => ?_))
      refine mm_R.br (L' := [some ((.ref a0)), some (.int i1), some (r2), some (.int i3), some (.int i4), some (r5), some (.int i6)]) (st' := []) (t := 165) (u := 123) (b := mm_cc .ge i6 x5) 1 rfl (fun c => ?_) (fun c => ?_)
      · replace H := H.1 (of_decide_eq_true c)
        exact H
      · replace H := H.2 (of_decide_eq_false c)
        refine mm_R.al (pc' := 123) (L' := [some ((.ref a0)), some (.int i1), some (r2), some (.int i3), some (.int i4), some (r5), some (.int i6)]) (r := []) (v := r2) 0 rfl rfl rfl rfl hr1 ?_
        refine mm_R.wgv (pc' := 124) (L' := [some ((.ref a0)), some (.int i1), some (r2), some (.int i3), some (.int i4), some (r5), some (.int i6)]) (r := []) 0 rfl rfl (H.mono (fun v6 H => ?_))
        refine mm_R.wav (pc' := 129) (L' := [some ((.ref a0)), some (.int i1), some (r2), some (.int i3), some (.int i4), some (r5), some (.int i6)]) (r := []) 1 rfl rfl (H.mono (fun v7 H => ?_))
        obtain ⟨hr8, H⟩ := H
        refine mm_R.as (pc' := 130) (L' := [some ((.ref a0)), some (.int i1), some (r2), some (.int i3), some (.int i4), some (r5), some (.int i6)]) (r := []) (v := v7) 0 rfl rfl rfl rfl hr8 ?_
        refine mm_R.al (pc' := 132) (L' := [some ((.ref a0)), some (.int i1), some (r2), some (.int i3), some (.int i4), some (v7), some (.int i6)]) (r := []) (v := v7) 0 rfl rfl rfl rfl hr8 ?_
        refine mm_R.wnl (pc' := 134) (L' := [some ((.ref a0)), some (.int i1), some (r2), some (.int i3), some (.int i4), some (v7), some (.int i6)]) (r := []) (v := v7) (t := 165) (u := 137) 0 rfl rfl rfl (H.mono (fun H => ?_) (fun H => ?_))
        · exact H
        · refine mm_R.al (pc' := 138) (L' := [some ((.ref a0)), some (.int i1), some (r2), some (.int i3), some (.int i4), some (v7), some (.int i6)]) (r := [.int i3]) (v := v7) 1 rfl rfl rfl rfl hr8 ?_
          refine mm_R.wgi (pc' := 140) (L' := [some ((.ref a0)), some (.int i1), some (r2), some (.int i3), some (.int i4), some (v7), some (.int i6)]) (r := [.int i3]) 0 rfl rfl (H.mono (fun x9 H => ?_))
          refine mm_R.br (L' := [some ((.ref a0)), some (.int i1), some (r2), some (.int i3), some (.int i4), some (v7), some (.int i6)]) (st' := []) (t := 149) (u := 146) (b := mm_cc .gt i3 x9) 1 rfl (fun c => ?_) (fun c => ?_)
          · replace H := H.1 (of_decide_eq_true c)
            refine mm_R.al (pc' := 150) (L' := [some ((.ref a0)), some (.int i1), some (r2), some (.int i3), some (.int i4), some (v7), some (.int i6)]) (r := [.int i3]) (v := v7) 1 rfl rfl rfl rfl hr8 ?_
            refine mm_R.wgi (pc' := 152) (L' := [some ((.ref a0)), some (.int i1), some (r2), some (.int i3), some (.int i4), some (v7), some (.int i6)]) (r := [.int i3]) 0 rfl rfl (H.mono (fun x10 H => ?_))
            exact mm_R.pn (pc' := 97) (L' := [some ((.ref a0)), some (.int i1), some (r2), some (.int (i3 - (x10 + (1 : Int32)))), some (.int i4), some (v7), some (.int (i6 + (1 : Int32)))]) (st' := []) 6 rfl H
          · replace H := H.2 (of_decide_eq_false c)
            exact mm_R.pn (pc' := 165) (L' := [some ((.ref a0)), some (.int i1), some (r2), some (.int i3), some (.int i4), some (v7), some (.int i6)]) (st' := []) 1 rfl H
-- StepRunner$Value.formAt, from 165
set_option maxRecDepth 10000 in
theorem w82_165 {X : List Int32} {d : Nat} {a0 : Nat} {i1 : Int32} {r2 : Value} {i3 : Int32} {i4 : Int32} {r5 : Value} {i6 : Int32} {hp : mm_H} {Q : Option Value → mm_H → Prop} (H : mm_isr r5 = true ∧ mw_nl r5 (mw_nl r5 (Q (some (.int (-1 : Int32))) hp) (Q (some (.int (44 : Int32))) hp)) (mw_gi 2 6 r5 hp (fun x2 => ((¬ i3 = x2 → mm_R X (d + 1) 82 7 [some ((.ref a0)), some (.int i1), some (r5), some (.int i3), some (.int (i4 + (1 : Int32))), some (r5), some (.int i6)] [] hp Q) ∧ (i3 = x2 → mw_nl r5 (Q (some (.int (-1 : Int32))) hp) (Q (some (.int (44 : Int32))) hp)))))) : mm_R X (d + 1) 82 165 [some ((.ref a0)), some (.int i1), some (r2), some (.int i3), some (.int i4), some (r5), some (.int i6)] [] hp Q := by
  obtain ⟨hr1, H⟩ := H
  refine mm_R.al (pc' := 165) (L' := [some ((.ref a0)), some (.int i1), some (r2), some (.int i3), some (.int i4), some (r5), some (.int i6)]) (r := []) (v := r5) 0 rfl rfl rfl rfl hr1 ?_
  refine mm_R.wnl (pc' := 167) (L' := [some ((.ref a0)), some (.int i1), some (r2), some (.int i3), some (.int i4), some (r5), some (.int i6)]) (r := []) (v := r5) (t := 179) (u := 170) 0 rfl rfl rfl (H.mono (fun H => ?_) (fun H => ?_))
  · refine mm_R.al (pc' := 179) (L' := [some ((.ref a0)), some (.int i1), some (r2), some (.int i3), some (.int i4), some (r5), some (.int i6)]) (r := []) (v := r5) 0 rfl rfl rfl rfl hr1 ?_
    refine mm_R.wnl (pc' := 181) (L' := [some ((.ref a0)), some (.int i1), some (r2), some (.int i3), some (.int i4), some (r5), some (.int i6)]) (r := []) (v := r5) (t := 184) (u := 188) 0 rfl rfl rfl (H.mono (fun H => ?_) (fun H => ?_))
    · exact mm_R.rt (pc' := 190) (L' := [some ((.ref a0)), some (.int i1), some (r2), some (.int i3), some (.int i4), some (r5), some (.int i6)]) (st1 := [.int (-1 : Int32)]) 2 rfl rfl rfl rfl rfl rfl H
    · exact mm_R.rt (pc' := 190) (L' := [some ((.ref a0)), some (.int i1), some (r2), some (.int i3), some (.int i4), some (r5), some (.int i6)]) (st1 := [.int (44 : Int32)]) 1 rfl rfl rfl rfl rfl rfl H
  · refine mm_R.al (pc' := 171) (L' := [some ((.ref a0)), some (.int i1), some (r2), some (.int i3), some (.int i4), some (r5), some (.int i6)]) (r := [.int i3]) (v := r5) 1 rfl rfl rfl rfl hr1 ?_
    refine mm_R.wgi (pc' := 173) (L' := [some ((.ref a0)), some (.int i1), some (r2), some (.int i3), some (.int i4), some (r5), some (.int i6)]) (r := [.int i3]) 0 rfl rfl (H.mono (fun x2 H => ?_))
    refine mm_R.br (L' := [some ((.ref a0)), some (.int i1), some (r2), some (.int i3), some (.int i4), some (r5), some (.int i6)]) (st' := []) (t := 191) (u := 179) (b := mm_cc .ne i3 x2) 1 rfl (fun c => ?_) (fun c => ?_)
    · replace H := H.1 (of_decide_eq_true c)
      refine mm_R.al (pc' := 191) (L' := [some ((.ref a0)), some (.int i1), some (r2), some (.int i3), some (.int i4), some (r5), some (.int i6)]) (r := []) (v := r5) 0 rfl rfl rfl rfl hr1 ?_
      refine mm_R.as (pc' := 193) (L' := [some ((.ref a0)), some (.int i1), some (r2), some (.int i3), some (.int i4), some (r5), some (.int i6)]) (r := []) (v := r5) 0 rfl rfl rfl rfl hr1 ?_
      exact mm_R.pn (pc' := 7) (L' := [some ((.ref a0)), some (.int i1), some (r5), some (.int i3), some (.int (i4 + (1 : Int32))), some (r5), some (.int i6)]) (st' := []) 2 rfl H
    · replace H := H.2 (Decidable.of_not_not (of_decide_eq_false c))
      refine mm_R.al (pc' := 179) (L' := [some ((.ref a0)), some (.int i1), some (r2), some (.int i3), some (.int i4), some (r5), some (.int i6)]) (r := []) (v := r5) 0 rfl rfl rfl rfl hr1 ?_
      refine mm_R.wnl (pc' := 181) (L' := [some ((.ref a0)), some (.int i1), some (r2), some (.int i3), some (.int i4), some (r5), some (.int i6)]) (r := []) (v := r5) (t := 184) (u := 188) 0 rfl rfl rfl (H.mono (fun H => ?_) (fun H => ?_))
      · exact mm_R.rt (pc' := 190) (L' := [some ((.ref a0)), some (.int i1), some (r2), some (.int i3), some (.int i4), some (r5), some (.int i6)]) (st1 := [.int (-1 : Int32)]) 2 rfl rfl rfl rfl rfl rfl H
      · exact mm_R.rt (pc' := 190) (L' := [some ((.ref a0)), some (.int i1), some (r2), some (.int i3), some (.int i4), some (r5), some (.int i6)]) (st1 := [.int (44 : Int32)]) 1 rfl rfl rfl rfl rfl rfl H
