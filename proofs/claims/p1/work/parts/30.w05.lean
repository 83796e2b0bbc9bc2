-- StepRunner$Expander.expand, from 0
set_option maxRecDepth 10000 in
theorem w61_0 {X : List Int32} {d : Nat} {a0 : Nat} {r1 : Value} {r2 : Value} {r3 : Value} {r4 : Value} {hp : mm_H} {Q : Option Value → mm_H → Prop} (H : mm_isr r1 = true ∧ mm_isr r3 = true ∧ mm_isr r4 = true ∧ mw_rc (.ref a0) 62 hp ∧ mm_R X d 62 0 (mm_L0 62 [(.ref a0), r1, r3, r4]) [] hp (mw_ri (fun x6 hp5 => ((¬ x6 = (0 : Int32) → mm_isr r2 = true ∧ mw_rc (.ref a0) 70 hp5 ∧ mm_R X d 70 0 (mm_L0 70 [(.ref a0), r1, r2]) [] hp5 (mw_ri (fun x10 hp9 => ((x10 < (0 : Int32) → Q (some (.int (0 : Int32))) hp9) ∧ (¬ x10 < (0 : Int32) → ((x10 ≤ (16 : Int32) → mm_R X (d + 1) 61 38 [some ((.ref a0)), some (r1), some (r2), some (r3), some (r4), some (.int x10), some (.int (0 : Int32)), none, none, none] [] hp9 Q) ∧ (¬ x10 ≤ (16 : Int32) → Q (some (.int (0 : Int32))) hp9))))))) ∧ (x6 = (0 : Int32) → Q (some (.int (0 : Int32))) hp5))))) : mm_R X (d + 1) 61 0 (mm_L0 61 [(.ref a0), r1, r2, r3, r4]) [] hp Q := by
  show mm_R X (d + 1) 61 0 [some ((.ref a0)), some (r1), some (r2), some (r3), some (r4), none, none, none, none, none] [] hp Q
  obtain ⟨hr1, H⟩ := H
  refine mm_R.al (pc' := 1) (L' := [some ((.ref a0)), some (r1), some (r2), some (r3), some (r4), none, none, none, none, none]) (r := [(.ref a0)]) (v := r1) 1 rfl rfl rfl rfl hr1 ?_
  obtain ⟨hr2, H⟩ := H
  refine mm_R.al (pc' := 2) (L' := [some ((.ref a0)), some (r1), some (r2), some (r3), some (r4), none, none, none, none, none]) (r := [r1, (.ref a0)]) (v := r3) 0 rfl rfl rfl rfl hr2 ?_
  obtain ⟨hr3, H⟩ := H
  refine mm_R.al (pc' := 3) (L' := [some ((.ref a0)), some (r1), some (r2), some (r3), some (r4), none, none, none, none, none]) (r := [r3, r1, (.ref a0)]) (v := r4) 0 rfl rfl rfl rfl hr3 ?_
  obtain ⟨hc4, H⟩ := H
  refine mm_R.cV (pc' := 5) (L' := [some ((.ref a0)), some (r1), some (r2), some (r3), some (r4), none, none, none, none, none]) (st1 := [r4, r3, r1, (.ref a0)]) (as := [r1, r3, r4]) (rest := []) 0 rfl rfl (mw_sp rfl rfl (Nat.le_of_ble_eq_true rfl) (mw_ac rfl (mw_ac (mw_c1 hr1) (mw_ac (mw_c1 hr2) (mw_ac (mw_c1 hr3) mw_an)))) mw_an) rfl rfl hc4 (H.mono (fun o hp5 H => ?_))
  obtain ⟨x6, rfl, H⟩ := H
  refine mm_R.br (L' := [some ((.ref a0)), some (r1), some (r2), some (r3), some (r4), none, none, none, none, none]) (st' := []) (t := 13) (u := 11) (b := mm_cc .ne x6 (0 : Int32)) 1 rfl (fun c => ?_) (fun c => ?_)
  · replace H := H.1 (of_decide_eq_true c)
    refine mm_R.al (pc' := 14) (L' := [some ((.ref a0)), some (r1), some (r2), some (r3), some (r4), none, none, none, none, none]) (r := [(.ref a0)]) (v := r1) 1 rfl rfl rfl rfl hr1 ?_
    obtain ⟨hr7, H⟩ := H
    refine mm_R.al (pc' := 15) (L' := [some ((.ref a0)), some (r1), some (r2), some (r3), some (r4), none, none, none, none, none]) (r := [r1, (.ref a0)]) (v := r2) 0 rfl rfl rfl rfl hr7 ?_
    obtain ⟨hc8, H⟩ := H
    refine mm_R.cV (pc' := 16) (L' := [some ((.ref a0)), some (r1), some (r2), some (r3), some (r4), none, none, none, none, none]) (st1 := [r2, r1, (.ref a0)]) (as := [r1, r2]) (rest := []) 0 rfl rfl (mw_sp rfl rfl (Nat.le_of_ble_eq_true rfl) (mw_ac rfl (mw_ac (mw_c1 hr1) (mw_ac (mw_c1 hr7) mw_an))) mw_an) rfl rfl hc8 (H.mono (fun o hp9 H => ?_))
    obtain ⟨x10, rfl, H⟩ := H
    refine mm_R.br (L' := [some ((.ref a0)), some (r1), some (r2), some (r3), some (r4), some (.int x10), none, none, none, none]) (st' := []) (t := 33) (u := 26) (b := mm_cc .lt x10 (0 : Int32)) 3 rfl (fun c => ?_) (fun c => ?_)
    · replace H := H.1 (of_decide_eq_true c)
      exact mm_R.rt (pc' := 34) (L' := [some ((.ref a0)), some (r1), some (r2), some (r3), some (r4), some (.int x10), none, none, none, none]) (st1 := [.int (0 : Int32)]) 1 rfl rfl rfl rfl rfl rfl H
    · replace H := H.2 (of_decide_eq_false c)
      refine mm_R.br (L' := [some ((.ref a0)), some (r1), some (r2), some (r3), some (r4), some (.int x10), none, none, none, none]) (st' := []) (t := 35) (u := 33) (b := mm_cc .le x10 (16 : Int32)) 3 rfl (fun c => ?_) (fun c => ?_)
      · replace H := H.1 (of_decide_eq_true c)
        exact mm_R.pn (pc' := 38) (L' := [some ((.ref a0)), some (r1), some (r2), some (r3), some (r4), some (.int x10), some (.int (0 : Int32)), none, none, none]) (st' := []) 2 rfl H
      · replace H := H.2 (of_decide_eq_false c)
        exact mm_R.rt (pc' := 34) (L' := [some ((.ref a0)), some (r1), some (r2), some (r3), some (r4), some (.int x10), none, none, none, none]) (st1 := [.int (0 : Int32)]) 1 rfl rfl rfl rfl rfl rfl H
  · replace H := H.2 (Decidable.of_not_not (of_decide_eq_false c))
    exact mm_R.rt (pc' := 12) (L' := [some ((.ref a0)), some (r1), some (r2), some (r3), some (r4), none, none, none, none, none]) (st1 := [.int (0 : Int32)]) 1 rfl rfl rfl rfl rfl rfl H
-- StepRunner$Expander.expand, from 38
set_option maxRecDepth 10000 in
theorem w61_38 {X : List Int32} {d : Nat} {a0 : Nat} {r1 : Value} {r2 : Value} {r3 : Value} {r4 : Value} {i5 : Int32} {i6 : Int32} {o7 : Option Value} {o8 : Option Value} {o9 : Option Value} {hp : mm_H} {Q : Option Value → mm_H → Prop} (H : ((i5 ≤ i6 → mm_isr r2 = true ∧ mw_pt 5 6 r2 (.int i5) hp (fun hp2 => Q (some (.int (1 : Int32))) hp2)) ∧ (¬ i5 ≤ i6 → mm_isr r1 = true ∧ mw_rc (.ref a0) 74 hp ∧ mm_R X d 74 0 (mm_L0 74 [(.ref a0), r1, .int i6]) [] hp (mw_r0 (fun hp5 => mw_rc (.ref a0) 75 hp5 ∧ mm_R X d 75 0 (mm_L0 75 [(.ref a0), r1]) [] hp5 (mw_ri (fun x8 hp7 => ((¬ x8 = (0 : Int32) → mw_gv 7 7 r1 hp7 (fun v9 => mm_isr v9 = true ∧ mw_nl v9 (mw_gv 4 1 (.ref a0) hp7 (fun v11 => mm_R X (d + 1) 61 101 [some ((.ref a0)), some (r1), some (r2), some (r3), some (r4), some (.int i5), some (.int i6), some (v9), o8, o9] [v11] hp7 Q)) (mw_gv 4 9 (.ref a0) hp7 (fun v12 => mw_gv 4 0 (.ref a0) hp7 (fun v13 => mw_gv 4 5 (.ref a0) hp7 (fun v14 => mw_gv 4 6 (.ref a0) hp7 (fun v15 => mw_rc v9 76 hp7 ∧ mm_isr v12 = true ∧ mm_isr v13 = true ∧ mm_isr v14 = true ∧ mm_isr v15 = true ∧ mm_R X d 76 0 (mm_L0 76 [v9, v12, v13, v14, v15]) [] hp7 (mw_rv (fun v22 hp21 => mm_R X (d + 1) 61 101 [some ((.ref a0)), some (r1), some (r2), some (r3), some (r4), some (.int i5), some (.int i6), some (v9), o8, o9] [v22] hp21 Q))))))))) ∧ (x8 = (0 : Int32) → Q (some (.int (0 : Int32))) hp7))))))))) : mm_R X (d + 1) 61 38 [some ((.ref a0)), some (r1), some (r2), some (r3), some (r4), some (.int i5), some (.int i6), o7, o8, o9] [] hp Q := by
  refine mm_R.br (L' := [some ((.ref a0)), some (r1), some (r2), some (r3), some (r4), some (.int i5), some (.int i6), o7, o8, o9]) (st' := []) (t := 168) (u := 45) (b := mm_cc .ge i6 i5) 3 rfl (fun c => ?_) (fun c => ?_)
  · replace H := H.1 (of_decide_eq_true c)
    obtain ⟨hr1, H⟩ := H
    refine mm_R.al (pc' := 168) (L' := [some ((.ref a0)), some (r1), some (r2), some (r3), some (r4), some (.int i5), some (.int i6), o7, o8, o9]) (r := []) (v := r2) 0 rfl rfl rfl rfl hr1 ?_
    refine mm_R.wpt (pc' := 171) (L' := [some ((.ref a0)), some (r1), some (r2), some (r3), some (r4), some (.int i5), some (.int i6), o7, o8, o9]) (r := []) 1 rfl rfl (H.mono (fun hp2 H => ?_))
    exact mm_R.rt (pc' := 175) (L' := [some ((.ref a0)), some (r1), some (r2), some (r3), some (r4), some (.int i5), some (.int i6), o7, o8, o9]) (st1 := [.int (1 : Int32)]) 1 rfl rfl rfl rfl rfl rfl H
  · replace H := H.2 (of_decide_eq_false c)
    obtain ⟨hr3, H⟩ := H
    refine mm_R.al (pc' := 46) (L' := [some ((.ref a0)), some (r1), some (r2), some (r3), some (r4), some (.int i5), some (.int i6), o7, o8, o9]) (r := [(.ref a0)]) (v := r1) 1 rfl rfl rfl rfl hr3 ?_
    obtain ⟨hc4, H⟩ := H
    refine mm_R.cV (pc' := 49) (L' := [some ((.ref a0)), some (r1), some (r2), some (r3), some (r4), some (.int i5), some (.int i6), o7, o8, o9]) (st1 := [.int i6, r1, (.ref a0)]) (as := [r1, .int i6]) (rest := []) 1 rfl rfl (mw_sp rfl rfl (Nat.le_of_ble_eq_true rfl) (mw_ac rfl (mw_ac (mw_c1 hr3) (mw_ac rfl mw_an))) mw_an) rfl rfl hc4 (H.mono (fun o hp5 H => ?_))
    obtain ⟨rfl, H⟩ := H
    refine mm_R.al (pc' := 53) (L' := [some ((.ref a0)), some (r1), some (r2), some (r3), some (r4), some (.int i5), some (.int i6), o7, o8, o9]) (r := [(.ref a0)]) (v := r1) 1 rfl rfl rfl rfl hr3 ?_
    obtain ⟨hc6, H⟩ := H
    refine mm_R.cV (pc' := 54) (L' := [some ((.ref a0)), some (r1), some (r2), some (r3), some (r4), some (.int i5), some (.int i6), o7, o8, o9]) (st1 := [r1, (.ref a0)]) (as := [r1]) (rest := []) 0 rfl rfl (mw_sp rfl rfl (Nat.le_of_ble_eq_true rfl) (mw_ac rfl (mw_ac (mw_c1 hr3) mw_an)) mw_an) rfl rfl hc6 (H.mono (fun o hp7 H => ?_))
    obtain ⟨x8, rfl, H⟩ := H
    refine mm_R.br (L' := [some ((.ref a0)), some (r1), some (r2), some (r3), some (r4), some (.int i5), some (.int i6), o7, o8, o9]) (st' := []) (t := 62) (u := 60) (b := mm_cc .ne x8 (0 : Int32)) 1 rfl (fun c => ?_) (fun c => ?_)
    · replace H := H.1 (of_decide_eq_true c)
      refine mm_R.al (pc' := 62) (L' := [some ((.ref a0)), some (r1), some (r2), some (r3), some (r4), some (.int i5), some (.int i6), o7, o8, o9]) (r := []) (v := r1) 0 rfl rfl rfl rfl hr3 ?_
      refine mm_R.wgv (pc' := 63) (L' := [some ((.ref a0)), some (r1), some (r2), some (r3), some (r4), some (.int i5), some (.int i6), o7, o8, o9]) (r := []) 0 rfl rfl (H.mono (fun v9 H => ?_))
      obtain ⟨hr10, H⟩ := H
      refine mm_R.as (pc' := 66) (L' := [some ((.ref a0)), some (r1), some (r2), some (r3), some (r4), some (.int i5), some (.int i6), o7, o8, o9]) (r := []) (v := v9) 0 rfl rfl rfl rfl hr10 ?_
      refine mm_R.al (pc' := 68) (L' := [some ((.ref a0)), some (r1), some (r2), some (r3), some (r4), some (.int i5), some (.int i6), some (v9), o8, o9]) (r := []) (v := v9) 0 rfl rfl rfl rfl hr10 ?_
      refine mm_R.wnl (pc' := 70) (L' := [some ((.ref a0)), some (r1), some (r2), some (r3), some (r4), some (.int i5), some (.int i6), some (v9), o8, o9]) (r := []) (v := v9) (t := 73) (u := 80) 0 rfl rfl rfl (H.mono (fun H => ?_) (fun H => ?_))
      · refine mm_R.wgv (pc' := 74) (L' := [some ((.ref a0)), some (r1), some (r2), some (r3), some (r4), some (.int i5), some (.int i6), some (v9), o8, o9]) (r := []) 1 rfl rfl (H.mono (fun v11 H => ?_))
        exact mm_R.pn (pc' := 101) (L' := [some ((.ref a0)), some (r1), some (r2), some (r3), some (r4), some (.int i5), some (.int i6), some (v9), o8, o9]) (st' := [v11]) 1 rfl H
      · refine mm_R.al (pc' := 80) (L' := [some ((.ref a0)), some (r1), some (r2), some (r3), some (r4), some (.int i5), some (.int i6), some (v9), o8, o9]) (r := []) (v := v9) 0 rfl rfl rfl rfl hr10 ?_
        refine mm_R.wgv (pc' := 83) (L' := [some ((.ref a0)), some (r1), some (r2), some (r3), some (r4), some (.int i5), some (.int i6), some (v9), o8, o9]) (r := [v9]) 1 rfl rfl (H.mono (fun v12 H => ?_))
        refine mm_R.wgv (pc' := 87) (L' := [some ((.ref a0)), some (r1), some (r2), some (r3), some (r4), some (.int i5), some (.int i6), some (v9), o8, o9]) (r := [v12, v9]) 1 rfl rfl (H.mono (fun v13 H => ?_))
        refine mm_R.wgv (pc' := 91) (L' := [some ((.ref a0)), some (r1), some (r2), some (r3), some (r4), some (.int i5), some (.int i6), some (v9), o8, o9]) (r := [v13, v12, v9]) 1 rfl rfl (H.mono (fun v14 H => ?_))
        refine mm_R.wgv (pc' := 95) (L' := [some ((.ref a0)), some (r1), some (r2), some (r3), some (r4), some (.int i5), some (.int i6), some (v9), o8, o9]) (r := [v14, v13, v12, v9]) 1 rfl rfl (H.mono (fun v15 H => ?_))
        obtain ⟨hc16, H⟩ := H
        obtain ⟨hr17, H⟩ := H
        obtain ⟨hr18, H⟩ := H
        obtain ⟨hr19, H⟩ := H
        obtain ⟨hr20, H⟩ := H
        refine mm_R.cV (pc' := 98) (L' := [some ((.ref a0)), some (r1), some (r2), some (r3), some (r4), some (.int i5), some (.int i6), some (v9), o8, o9]) (st1 := [v15, v14, v13, v12, v9]) (as := [v12, v13, v14, v15]) (rest := []) 0 rfl rfl (mw_sp rfl rfl (Nat.le_of_ble_eq_true rfl) (mw_ac (mw_c1 hc16.isr) (mw_ac (mw_c1 hr17) (mw_ac (mw_c1 hr18) (mw_ac (mw_c1 hr19) (mw_ac (mw_c1 hr20) mw_an))))) mw_an) rfl rfl hc16 (H.mono (fun o hp21 H => ?_))
        obtain ⟨v22, rfl, H⟩ := H
        exact H
    · replace H := H.2 (Decidable.of_not_not (of_decide_eq_false c))
      exact mm_R.rt (pc' := 61) (L' := [some ((.ref a0)), some (r1), some (r2), some (r3), some (r4), some (.int i5), some (.int i6), o7, o8, o9]) (st1 := [.int (0 : Int32)]) 1 rfl rfl rfl rfl rfl rfl H
-- StepRunner$Expander.expand, from 101
set_option maxRecDepth 10000 in
theorem w61_101 {X : List Int32} {d : Nat} {a0 : Nat} {r1 : Value} {r2 : Value} {r3 : Value} {r4 : Value} {i5 : Int32} {i6 : Int32} {r7 : Value} {o8 : Option Value} {o9 : Option Value} {s0 : Value} {hp : mm_H} {Q : Option Value → mm_H → Prop} (H : mm_isr s0 = true ∧ mw_nl s0 (Q (some (.int (0 : Int32))) hp) (mw_rc s0 83 hp ∧ mm_R X d 83 0 (mm_L0 83 [s0]) [] hp (mw_ri (fun x4 hp3 => ((x4 = (0 : Int32) → mm_isr r2 = true ∧ mw_rc r2 85 hp3 ∧ mm_R X d 85 0 (mm_L0 85 [r2, .int i6]) [] hp3 (mw_rv (fun v8 hp7 => mm_isr v8 = true ∧ mw_nl v8 (Q (some (.int (0 : Int32))) hp7) (mm_isr r1 = true ∧ mw_gv 7 0 r1 hp7 (fun v11 => mw_gv 4 9 (.ref a0) hp7 (fun v12 => mw_rc v8 87 hp7 ∧ mm_isr v11 = true ∧ mm_isr v12 = true ∧ mm_R X d 87 0 (mm_L0 87 [v8, v11, v12]) [] hp7 (mw_ri (fun x17 hp16 => ((¬ x17 = (0 : Int32) → mm_R X (d + 1) 61 38 [some ((.ref a0)), some (r1), some (r2), some (r3), some (r4), some (.int i5), some (.int (i6 + (1 : Int32))), some (r7), some (s0), some (v8)] [] hp16 Q) ∧ (x17 = (0 : Int32) → Q (some (.int (0 : Int32))) hp16)))))))))) ∧ (¬ x4 = (0 : Int32) → mm_isr r2 = true ∧ mw_gv 4 0 (.ref a0) hp3 (fun v19 => mw_rc r2 84 hp3 ∧ mm_isr v19 = true ∧ mm_R X d 84 0 (mm_L0 84 [r2, .int i6, v19]) [] hp3 (mw_r0 (fun hp22 => mm_R X (d + 1) 61 38 [some ((.ref a0)), some (r1), some (r2), some (r3), some (r4), some (.int i5), some (.int (i6 + (1 : Int32))), some (r7), some (s0), o9] [] hp22 Q))))))))) : mm_R X (d + 1) 61 101 [some ((.ref a0)), some (r1), some (r2), some (r3), some (r4), some (.int i5), some (.int i6), some (r7), o8, o9] [s0] hp Q := by
  obtain ⟨hr1, H⟩ := H
  refine mm_R.as (pc' := 101) (L' := [some ((.ref a0)), some (r1), some (r2), some (r3), some (r4), some (.int i5), some (.int i6), some (r7), o8, o9]) (r := []) (v := s0) 0 rfl rfl rfl rfl hr1 ?_
  refine mm_R.al (pc' := 103) (L' := [some ((.ref a0)), some (r1), some (r2), some (r3), some (r4), some (.int i5), some (.int i6), some (r7), some (s0), o9]) (r := []) (v := s0) 0 rfl rfl rfl rfl hr1 ?_
  refine mm_R.wnl (pc' := 105) (L' := [some ((.ref a0)), some (r1), some (r2), some (r3), some (r4), some (.int i5), some (.int i6), some (r7), some (s0), o9]) (r := []) (v := s0) (t := 108) (u := 110) 0 rfl rfl rfl (H.mono (fun H => ?_) (fun H => ?_))
  · exact mm_R.rt (pc' := 109) (L' := [some ((.ref a0)), some (r1), some (r2), some (r3), some (r4), some (.int i5), some (.int i6), some (r7), some (s0), o9]) (st1 := [.int (0 : Int32)]) 1 rfl rfl rfl rfl rfl rfl H
  · refine mm_R.al (pc' := 110) (L' := [some ((.ref a0)), some (r1), some (r2), some (r3), some (r4), some (.int i5), some (.int i6), some (r7), some (s0), o9]) (r := []) (v := s0) 0 rfl rfl rfl rfl hr1 ?_
    obtain ⟨hc2, H⟩ := H
    refine mm_R.cV (pc' := 112) (L' := [some ((.ref a0)), some (r1), some (r2), some (r3), some (r4), some (.int i5), some (.int i6), some (r7), some (s0), o9]) (st1 := [s0]) (as := []) (rest := []) 0 rfl rfl (mw_sp rfl rfl (Nat.le_of_ble_eq_true rfl) (mw_ac (mw_c1 hc2.isr) mw_an) mw_an) rfl rfl hc2 (H.mono (fun o hp3 H => ?_))
    obtain ⟨x4, rfl, H⟩ := H
    refine mm_R.br (L' := [some ((.ref a0)), some (r1), some (r2), some (r3), some (r4), some (.int i5), some (.int i6), some (r7), some (s0), o9]) (st' := []) (t := 131) (u := 118) (b := mm_cc .eq x4 (0 : Int32)) 1 rfl (fun c => ?_) (fun c => ?_)
    · replace H := H.1 (of_decide_eq_true c)
      obtain ⟨hr5, H⟩ := H
      refine mm_R.al (pc' := 131) (L' := [some ((.ref a0)), some (r1), some (r2), some (r3), some (r4), some (.int i5), some (.int i6), some (r7), some (s0), o9]) (r := []) (v := r2) 0 rfl rfl rfl rfl hr5 ?_
      obtain ⟨hc6, H⟩ := H
      refine mm_R.cV (pc' := 134) (L' := [some ((.ref a0)), some (r1), some (r2), some (r3), some (r4), some (.int i5), some (.int i6), some (r7), some (s0), o9]) (st1 := [.int i6, r2]) (as := [.int i6]) (rest := []) 1 rfl rfl (mw_sp rfl rfl (Nat.le_of_ble_eq_true rfl) (mw_ac (mw_c1 hc6.isr) (mw_ac rfl mw_an)) mw_an) rfl rfl hc6 (H.mono (fun o hp7 H => ?_))
      obtain ⟨v8, rfl, H⟩ := H
      obtain ⟨hr9, H⟩ := H
      refine mm_R.as (pc' := 137) (L' := [some ((.ref a0)), some (r1), some (r2), some (r3), some (r4), some (.int i5), some (.int i6), some (r7), some (s0), o9]) (r := []) (v := v8) 0 rfl rfl rfl rfl hr9 ?_
      refine mm_R.al (pc' := 139) (L' := [some ((.ref a0)), some (r1), some (r2), some (r3), some (r4), some (.int i5), some (.int i6), some (r7), some (s0), some (v8)]) (r := []) (v := v8) 0 rfl rfl rfl rfl hr9 ?_
      refine mm_R.wnl (pc' := 141) (L' := [some ((.ref a0)), some (r1), some (r2), some (r3), some (r4), some (.int i5), some (.int i6), some (r7), some (s0), some (v8)]) (r := []) (v := v8) (t := 160) (u := 144) 0 rfl rfl rfl (H.mono (fun H => ?_) (fun H => ?_))
      · exact mm_R.rt (pc' := 161) (L' := [some ((.ref a0)), some (r1), some (r2), some (r3), some (r4), some (.int i5), some (.int i6), some (r7), some (s0), some (v8)]) (st1 := [.int (0 : Int32)]) 1 rfl rfl rfl rfl rfl rfl H
      · refine mm_R.al (pc' := 144) (L' := [some ((.ref a0)), some (r1), some (r2), some (r3), some (r4), some (.int i5), some (.int i6), some (r7), some (s0), some (v8)]) (r := []) (v := v8) 0 rfl rfl rfl rfl hr9 ?_
        obtain ⟨hr10, H⟩ := H
        refine mm_R.al (pc' := 146) (L' := [some ((.ref a0)), some (r1), some (r2), some (r3), some (r4), some (.int i5), some (.int i6), some (r7), some (s0), some (v8)]) (r := [v8]) (v := r1) 0 rfl rfl rfl rfl hr10 ?_
        refine mm_R.wgv (pc' := 147) (L' := [some ((.ref a0)), some (r1), some (r2), some (r3), some (r4), some (.int i5), some (.int i6), some (r7), some (s0), some (v8)]) (r := [v8]) 0 rfl rfl (H.mono (fun v11 H => ?_))
        refine mm_R.wgv (pc' := 151) (L' := [some ((.ref a0)), some (r1), some (r2), some (r3), some (r4), some (.int i5), some (.int i6), some (r7), some (s0), some (v8)]) (r := [v11, v8]) 1 rfl rfl (H.mono (fun v12 H => ?_))
        obtain ⟨hc13, H⟩ := H
        obtain ⟨hr14, H⟩ := H
        obtain ⟨hr15, H⟩ := H
        refine mm_R.cV (pc' := 154) (L' := [some ((.ref a0)), some (r1), some (r2), some (r3), some (r4), some (.int i5), some (.int i6), some (r7), some (s0), some (v8)]) (st1 := [v12, v11, v8]) (as := [v11, v12]) (rest := []) 0 rfl rfl (mw_sp rfl rfl (Nat.le_of_ble_eq_true rfl) (mw_ac (mw_c1 hc13.isr) (mw_ac (mw_c1 hr14) (mw_ac (mw_c1 hr15) mw_an))) mw_an) rfl rfl hc13 (H.mono (fun o hp16 H => ?_))
        obtain ⟨x17, rfl, H⟩ := H
        refine mm_R.br (L' := [some ((.ref a0)), some (r1), some (r2), some (r3), some (r4), some (.int i5), some (.int i6), some (r7), some (s0), some (v8)]) (st' := []) (t := 162) (u := 160) (b := mm_cc .ne x17 (0 : Int32)) 1 rfl (fun c => ?_) (fun c => ?_)
        · replace H := H.1 (of_decide_eq_true c)
          exact mm_R.pn (pc' := 38) (L' := [some ((.ref a0)), some (r1), some (r2), some (r3), some (r4), some (.int i5), some (.int (i6 + (1 : Int32))), some (r7), some (s0), some (v8)]) (st' := []) 2 rfl H
        · replace H := H.2 (Decidable.of_not_not (of_decide_eq_false c))
          exact mm_R.rt (pc' := 161) (L' := [some ((.ref a0)), some (r1), some (r2), some (r3), some (r4), some (.int i5), some (.int i6), some (r7), some (s0), some (v8)]) (st1 := [.int (0 : Int32)]) 1 rfl rfl rfl rfl rfl rfl H
    · replace H := H.2 (of_decide_eq_false c)
      obtain ⟨hr18, H⟩ := H
      refine mm_R.al (pc' := 118) (L' := [some ((.ref a0)), some (r1), some (r2), some (r3), some (r4), some (.int i5), some (.int i6), some (r7), some (s0), o9]) (r := []) (v := r2) 0 rfl rfl rfl rfl hr18 ?_
      refine mm_R.wgv (pc' := 122) (L' := [some ((.ref a0)), some (r1), some (r2), some (r3), some (r4), some (.int i5), some (.int i6), some (r7), some (s0), o9]) (r := [.int i6, r2]) 2 rfl rfl (H.mono (fun v19 H => ?_))
      obtain ⟨hc20, H⟩ := H
      obtain ⟨hr21, H⟩ := H
      refine mm_R.cV (pc' := 125) (L' := [some ((.ref a0)), some (r1), some (r2), some (r3), some (r4), some (.int i5), some (.int i6), some (r7), some (s0), o9]) (st1 := [v19, .int i6, r2]) (as := [.int i6, v19]) (rest := []) 0 rfl rfl (mw_sp rfl rfl (Nat.le_of_ble_eq_true rfl) (mw_ac (mw_c1 hc20.isr) (mw_ac rfl (mw_ac (mw_c1 hr21) mw_an))) mw_an) rfl rfl hc20 (H.mono (fun o hp22 H => ?_))
      obtain ⟨rfl, H⟩ := H
      exact mm_R.pn (pc' := 38) (L' := [some ((.ref a0)), some (r1), some (r2), some (r3), some (r4), some (.int i5), some (.int (i6 + (1 : Int32))), some (r7), some (s0), o9]) (st' := []) 3 rfl H
-- StepRunner$Expander.fillPorts, from 0
set_option maxRecDepth 10000 in
theorem w62_0 {X : List Int32} {d : Nat} {a0 : Nat} {r1 : Value} {r2 : Value} {r3 : Value} {hp : mm_H} {Q : Option Value → mm_H → Prop} (H : mm_R X (d + 1) 62 3 [some ((.ref a0)), some (r1), some (r2), some (r3), some (.int (0 : Int32)), none, none] [] hp Q) : mm_R X (d + 1) 62 0 (mm_L0 62 [(.ref a0), r1, r2, r3]) [] hp Q := by
  show mm_R X (d + 1) 62 0 [some ((.ref a0)), some (r1), some (r2), some (r3), none, none, none] [] hp Q
  exact mm_R.pn (pc' := 3) (L' := [some ((.ref a0)), some (r1), some (r2), some (r3), some (.int (0 : Int32)), none, none]) (st' := []) 2 rfl H
-- StepRunner$Expander.fillPorts, from 3
set_option maxRecDepth 10000 in
theorem w62_3 {X : List Int32} {d : Nat} {a0 : Nat} {r1 : Value} {r2 : Value} {r3 : Value} {i4 : Int32} {o5 : Option Value} {o6 : Option Value} {hp : mm_H} {Q : Option Value → mm_H → Prop} (H : (((4 : Int32) ≤ i4 → Q (some (.int (1 : Int32))) hp) ∧ (¬ (4 : Int32) ≤ i4 → mw_gv 4 7 (.ref a0) hp (fun v1 => mw_gv 4 0 (.ref a0) hp (fun v2 => mw_sv v1 i4 v2 hp (fun hp3 => mm_isr r1 = true ∧ mw_gv 7 0 r1 hp3 (fun v5 => mw_gi 6 5 v5 hp3 (fun x6 => ((x6 ≤ i4 → mm_R X (d + 1) 62 3 [some ((.ref a0)), some (r1), some (r2), some (r3), some (.int (i4 + (1 : Int32))), o5, o6] [] hp3 Q) ∧ (¬ x6 ≤ i4 → mm_isr r2 = true ∧ mm_isr r3 = true ∧ mw_rc (.ref a0) 63 hp3 ∧ mm_R X d 63 0 (mm_L0 63 [(.ref a0), r1, .int i4, r2, r3]) [] hp3 (mw_rv (fun v11 hp10 => mm_isr v11 = true ∧ mw_nl v11 (mm_R X (d + 1) 62 71 [some ((.ref a0)), some (r1), some (r2), some (r3), some (.int i4), some (v11), o6] [.null] hp10 Q) (mw_gv 7 4 r1 hp10 (fun v13 => mw_ai 1000 v13 i4 hp10 (fun x14 => mw_gv 4 3 (.ref a0) hp10 (fun v15 => mw_av v15 i4 hp10 (fun v16 => mm_isr v16 = true ∧ mm_R X d 68 0 (mm_L0 68 [.int x14, v11, v16]) [] hp10 (mw_rv (fun v19 hp18 => mm_R X (d + 1) 62 71 [some ((.ref a0)), some (r1), some (r2), some (r3), some (.int i4), some (v11), o6] [v19] hp18 Q))))))))))))))))))) : mm_R X (d + 1) 62 3 [some ((.ref a0)), some (r1), some (r2), some (r3), some (.int i4), o5, o6] [] hp Q := by
  refine mm_R.br (L' := [some ((.ref a0)), some (r1), some (r2), some (r3), some (.int i4), o5, o6]) (st' := []) (t := 122) (u := 9) (b := mm_cc .ge i4 (4 : Int32)) 3 rfl (fun c => ?_) (fun c => ?_)
  · replace H := H.1 (of_decide_eq_true c)
    exact mm_R.rt (pc' := 123) (L' := [some ((.ref a0)), some (r1), some (r2), some (r3), some (.int i4), o5, o6]) (st1 := [.int (1 : Int32)]) 1 rfl rfl rfl rfl rfl rfl H
  · replace H := H.2 (of_decide_eq_false c)
    refine mm_R.wgv (pc' := 10) (L' := [some ((.ref a0)), some (r1), some (r2), some (r3), some (.int i4), o5, o6]) (r := []) 1 rfl rfl (H.mono (fun v1 H => ?_))
    refine mm_R.wgv (pc' := 16) (L' := [some ((.ref a0)), some (r1), some (r2), some (r3), some (.int i4), o5, o6]) (r := [.int i4, v1]) 2 rfl rfl (H.mono (fun v2 H => ?_))
    refine mm_R.wsv (pc' := 19) (L' := [some ((.ref a0)), some (r1), some (r2), some (r3), some (.int i4), o5, o6]) (r := []) 0 rfl rfl (H.mono (fun hp3 H => ?_))
    obtain ⟨hr4, H⟩ := H
    refine mm_R.al (pc' := 22) (L' := [some ((.ref a0)), some (r1), some (r2), some (r3), some (.int i4), o5, o6]) (r := [.int i4]) (v := r1) 1 rfl rfl rfl rfl hr4 ?_
    refine mm_R.wgv (pc' := 23) (L' := [some ((.ref a0)), some (r1), some (r2), some (r3), some (.int i4), o5, o6]) (r := [.int i4]) 0 rfl rfl (H.mono (fun v5 H => ?_))
    refine mm_R.wgi (pc' := 26) (L' := [some ((.ref a0)), some (r1), some (r2), some (r3), some (.int i4), o5, o6]) (r := [.int i4]) 0 rfl rfl (H.mono (fun x6 H => ?_))
    refine mm_R.br (L' := [some ((.ref a0)), some (r1), some (r2), some (r3), some (.int i4), o5, o6]) (st' := []) (t := 116) (u := 32) (b := mm_cc .ge i4 x6) 1 rfl (fun c => ?_) (fun c => ?_)
    · replace H := H.1 (of_decide_eq_true c)
      exact mm_R.pn (pc' := 3) (L' := [some ((.ref a0)), some (r1), some (r2), some (r3), some (.int (i4 + (1 : Int32))), o5, o6]) (st' := []) 2 rfl H
    · replace H := H.2 (of_decide_eq_false c)
      refine mm_R.al (pc' := 33) (L' := [some ((.ref a0)), some (r1), some (r2), some (r3), some (.int i4), o5, o6]) (r := [(.ref a0)]) (v := r1) 1 rfl rfl rfl rfl hr4 ?_
      obtain ⟨hr7, H⟩ := H
      refine mm_R.al (pc' := 36) (L' := [some ((.ref a0)), some (r1), some (r2), some (r3), some (.int i4), o5, o6]) (r := [.int i4, r1, (.ref a0)]) (v := r2) 1 rfl rfl rfl rfl hr7 ?_
      obtain ⟨hr8, H⟩ := H
      refine mm_R.al (pc' := 37) (L' := [some ((.ref a0)), some (r1), some (r2), some (r3), some (.int i4), o5, o6]) (r := [r2, .int i4, r1, (.ref a0)]) (v := r3) 0 rfl rfl rfl rfl hr8 ?_
      obtain ⟨hc9, H⟩ := H
      refine mm_R.cV (pc' := 38) (L' := [some ((.ref a0)), some (r1), some (r2), some (r3), some (.int i4), o5, o6]) (st1 := [r3, r2, .int i4, r1, (.ref a0)]) (as := [r1, .int i4, r2, r3]) (rest := []) 0 rfl rfl (mw_sp rfl rfl (Nat.le_of_ble_eq_true rfl) (mw_ac rfl (mw_ac (mw_c1 hr4) (mw_ac rfl (mw_ac (mw_c1 hr7) (mw_ac (mw_c1 hr8) mw_an))))) mw_an) rfl rfl hc9 (H.mono (fun o hp10 H => ?_))
      obtain ⟨v11, rfl, H⟩ := H
      obtain ⟨hr12, H⟩ := H
      refine mm_R.as (pc' := 41) (L' := [some ((.ref a0)), some (r1), some (r2), some (r3), some (.int i4), o5, o6]) (r := []) (v := v11) 0 rfl rfl rfl rfl hr12 ?_
      refine mm_R.al (pc' := 43) (L' := [some ((.ref a0)), some (r1), some (r2), some (r3), some (.int i4), some (v11), o6]) (r := []) (v := v11) 0 rfl rfl rfl rfl hr12 ?_
      refine mm_R.wnl (pc' := 45) (L' := [some ((.ref a0)), some (r1), some (r2), some (r3), some (.int i4), some (v11), o6]) (r := []) (v := v11) (t := 48) (u := 52) 0 rfl rfl rfl (H.mono (fun H => ?_) (fun H => ?_))
      · exact mm_R.pn (pc' := 71) (L' := [some ((.ref a0)), some (r1), some (r2), some (r3), some (.int i4), some (v11), o6]) (st' := [.null]) 2 rfl H
      · refine mm_R.al (pc' := 52) (L' := [some ((.ref a0)), some (r1), some (r2), some (r3), some (.int i4), some (v11), o6]) (r := []) (v := r1) 0 rfl rfl rfl rfl hr4 ?_
        refine mm_R.wgv (pc' := 53) (L' := [some ((.ref a0)), some (r1), some (r2), some (r3), some (.int i4), some (v11), o6]) (r := []) 0 rfl rfl (H.mono (fun v13 H => ?_))
        refine mm_R.wai (pc' := 58) (L' := [some ((.ref a0)), some (r1), some (r2), some (r3), some (.int i4), some (v11), o6]) (r := []) (t := 1000) 1 rfl rfl rfl rfl (H.mono (fun x14 H => ?_))
        refine mm_R.al (pc' := 59) (L' := [some ((.ref a0)), some (r1), some (r2), some (r3), some (.int i4), some (v11), o6]) (r := [.int x14]) (v := v11) 0 rfl rfl rfl rfl hr12 ?_
        refine mm_R.wgv (pc' := 62) (L' := [some ((.ref a0)), some (r1), some (r2), some (r3), some (.int i4), some (v11), o6]) (r := [v11, .int x14]) 1 rfl rfl (H.mono (fun v15 H => ?_))
        refine mm_R.wav (pc' := 67) (L' := [some ((.ref a0)), some (r1), some (r2), some (r3), some (.int i4), some (v11), o6]) (r := [v11, .int x14]) 1 rfl rfl (H.mono (fun v16 H => ?_))
        obtain ⟨hr17, H⟩ := H
        refine mm_R.cS (pc' := 68) (L' := [some ((.ref a0)), some (r1), some (r2), some (r3), some (.int i4), some (v11), o6]) (st1 := [v16, v11, .int x14]) (as := [.int x14, v11, v16]) (rest := []) 0 rfl rfl (mw_sp rfl rfl (Nat.le_of_ble_eq_true rfl) (mw_ac rfl (mw_ac (mw_c1 hr12) (mw_ac (mw_c1 hr17) mw_an))) mw_an) rfl rfl (H.mono (fun o hp18 H => ?_))
        obtain ⟨v19, rfl, H⟩ := H
        exact H
-- StepRunner$Expander.fillPorts, from 71
set_option maxRecDepth 10000 in
theorem w62_71 {X : List Int32} {d : Nat} {a0 : Nat} {r1 : Value} {r2 : Value} {r3 : Value} {i4 : Int32} {r5 : Value} {o6 : Option Value} {s0 : Value} {hp : mm_H} {Q : Option Value → mm_H → Prop} (H : mm_isr s0 = true ∧ mw_nl s0 (Q (some (.int (0 : Int32))) hp) (mm_isr r1 = true ∧ mw_gv 7 5 r1 hp (fun v3 => mw_av v3 i4 hp (fun v4 => mm_isr v4 = true ∧ mw_gv 4 7 (.ref a0) hp (fun v6 => mw_rc s0 69 hp ∧ mm_isr v6 = true ∧ mm_R X d 69 0 (mm_L0 69 [s0]) [] hp (mw_ri (fun x10 hp9 => ((x10 = (0 : Int32) → mw_sv v6 i4 s0 hp9 (fun hp11 => mm_R X (d + 1) 62 3 [some ((.ref a0)), some (r1), some (r2), some (r3), some (.int (i4 + (1 : Int32))), some (s0), some (v4)] [] hp11 Q)) ∧ (¬ x10 = (0 : Int32) → mw_nl v4 (mw_sv v6 i4 s0 hp9 (fun hp12 => mm_R X (d + 1) 62 3 [some ((.ref a0)), some (r1), some (r2), some (r3), some (.int (i4 + (1 : Int32))), some (s0), some (v4)] [] hp12 Q)) (mw_sv v6 i4 v4 hp9 (fun hp13 => mm_R X (d + 1) 62 3 [some ((.ref a0)), some (r1), some (r2), some (r3), some (.int (i4 + (1 : Int32))), some (s0), some (v4)] [] hp13 Q))))))))))) : mm_R X (d + 1) 62 71 [some ((.ref a0)), some (r1), some (r2), some (r3), some (.int i4), some (r5), o6] [s0] hp Q := by
  obtain ⟨hr1, H⟩ := H
  refine mm_R.as (pc' := 71) (L' := [some ((.ref a0)), some (r1), some (r2), some (r3), some (.int i4), some (r5), o6]) (r := []) (v := s0) 0 rfl rfl rfl rfl hr1 ?_
  refine mm_R.al (pc' := 73) (L' := [some ((.ref a0)), some (r1), some (r2), some (r3), some (.int i4), some (s0), o6]) (r := []) (v := s0) 0 rfl rfl rfl rfl hr1 ?_
  refine mm_R.wnl (pc' := 75) (L' := [some ((.ref a0)), some (r1), some (r2), some (r3), some (.int i4), some (s0), o6]) (r := []) (v := s0) (t := 78) (u := 80) 0 rfl rfl rfl (H.mono (fun H => ?_) (fun H => ?_))
  · exact mm_R.rt (pc' := 79) (L' := [some ((.ref a0)), some (r1), some (r2), some (r3), some (.int i4), some (s0), o6]) (st1 := [.int (0 : Int32)]) 1 rfl rfl rfl rfl rfl rfl H
  · obtain ⟨hr2, H⟩ := H
    refine mm_R.al (pc' := 80) (L' := [some ((.ref a0)), some (r1), some (r2), some (r3), some (.int i4), some (s0), o6]) (r := []) (v := r1) 0 rfl rfl rfl rfl hr2 ?_
    refine mm_R.wgv (pc' := 81) (L' := [some ((.ref a0)), some (r1), some (r2), some (r3), some (.int i4), some (s0), o6]) (r := []) 0 rfl rfl (H.mono (fun v3 H => ?_))
    refine mm_R.wav (pc' := 86) (L' := [some ((.ref a0)), some (r1), some (r2), some (r3), some (.int i4), some (s0), o6]) (r := []) 1 rfl rfl (H.mono (fun v4 H => ?_))
    obtain ⟨hr5, H⟩ := H
    refine mm_R.as (pc' := 87) (L' := [some ((.ref a0)), some (r1), some (r2), some (r3), some (.int i4), some (s0), o6]) (r := []) (v := v4) 0 rfl rfl rfl rfl hr5 ?_
    refine mm_R.wgv (pc' := 90) (L' := [some ((.ref a0)), some (r1), some (r2), some (r3), some (.int i4), some (s0), some (v4)]) (r := []) 1 rfl rfl (H.mono (fun v6 H => ?_))
    refine mm_R.al (pc' := 95) (L' := [some ((.ref a0)), some (r1), some (r2), some (r3), some (.int i4), some (s0), some (v4)]) (r := [.int i4, v6]) (v := s0) 1 rfl rfl rfl rfl hr1 ?_
    obtain ⟨hc7, H⟩ := H
    obtain ⟨hr8, H⟩ := H
    refine mm_R.cV (pc' := 97) (L' := [some ((.ref a0)), some (r1), some (r2), some (r3), some (.int i4), some (s0), some (v4)]) (st1 := [s0, .int i4, v6]) (as := []) (rest := [.int i4, v6]) 0 rfl rfl (mw_sp rfl rfl (Nat.le_of_ble_eq_true rfl) (mw_ac (mw_c1 hc7.isr) mw_an) (mw_ac rfl (mw_ac (mw_c1 hr8) mw_an))) rfl rfl hc7 (H.mono (fun o hp9 H => ?_))
    obtain ⟨x10, rfl, H⟩ := H
    refine mm_R.br (L' := [some ((.ref a0)), some (r1), some (r2), some (r3), some (.int i4), some (s0), some (v4)]) (st' := [.int i4, v6]) (t := 113) (u := 103) (b := mm_cc .eq x10 (0 : Int32)) 1 rfl (fun c => ?_) (fun c => ?_)
    · replace H := H.1 (of_decide_eq_true c)
      refine mm_R.al (pc' := 113) (L' := [some ((.ref a0)), some (r1), some (r2), some (r3), some (.int i4), some (s0), some (v4)]) (r := [.int i4, v6]) (v := s0) 0 rfl rfl rfl rfl hc7.isr ?_
      refine mm_R.wsv (pc' := 115) (L' := [some ((.ref a0)), some (r1), some (r2), some (r3), some (.int i4), some (s0), some (v4)]) (r := []) 0 rfl rfl (H.mono (fun hp11 H => ?_))
      exact mm_R.pn (pc' := 3) (L' := [some ((.ref a0)), some (r1), some (r2), some (r3), some (.int (i4 + (1 : Int32))), some (s0), some (v4)]) (st' := []) 2 rfl H
    · replace H := H.2 (of_decide_eq_false c)
      refine mm_R.al (pc' := 103) (L' := [some ((.ref a0)), some (r1), some (r2), some (r3), some (.int i4), some (s0), some (v4)]) (r := [.int i4, v6]) (v := v4) 0 rfl rfl rfl rfl hr5 ?_
      refine mm_R.wnl (pc' := 105) (L' := [some ((.ref a0)), some (r1), some (r2), some (r3), some (.int i4), some (s0), some (v4)]) (r := [.int i4, v6]) (v := v4) (t := 113) (u := 108) 0 rfl rfl rfl (H.mono (fun H => ?_) (fun H => ?_))
      · refine mm_R.al (pc' := 113) (L' := [some ((.ref a0)), some (r1), some (r2), some (r3), some (.int i4), some (s0), some (v4)]) (r := [.int i4, v6]) (v := s0) 0 rfl rfl rfl rfl hc7.isr ?_
        refine mm_R.wsv (pc' := 115) (L' := [some ((.ref a0)), some (r1), some (r2), some (r3), some (.int i4), some (s0), some (v4)]) (r := []) 0 rfl rfl (H.mono (fun hp12 H => ?_))
        exact mm_R.pn (pc' := 3) (L' := [some ((.ref a0)), some (r1), some (r2), some (r3), some (.int (i4 + (1 : Int32))), some (s0), some (v4)]) (st' := []) 2 rfl H
      · refine mm_R.al (pc' := 108) (L' := [some ((.ref a0)), some (r1), some (r2), some (r3), some (.int i4), some (s0), some (v4)]) (r := [.int i4, v6]) (v := v4) 0 rfl rfl rfl rfl hr5 ?_
        refine mm_R.wsv (pc' := 115) (L' := [some ((.ref a0)), some (r1), some (r2), some (r3), some (.int i4), some (s0), some (v4)]) (r := []) 1 rfl rfl (H.mono (fun hp13 H => ?_))
        exact mm_R.pn (pc' := 3) (L' := [some ((.ref a0)), some (r1), some (r2), some (r3), some (.int (i4 + (1 : Int32))), some (s0), some (v4)]) (st' := []) 2 rfl H
-- StepRunner$Expander.merge, from 0
set_option maxRecDepth 10000 in
theorem w63_0 {X : List Int32} {d : Nat} {a0 : Nat} {r1 : Value} {i2 : Int32} {r3 : Value} {r4 : Value} {hp : mm_H} {Q : Option Value → mm_H → Prop} (H : mm_isr r1 = true ∧ mw_gv 7 2 r1 hp (fun v2 => mw_ai 1000 v2 i2 hp (fun x3 => ((¬ (if (3 : Int32) < x3 then (3 : Int32) else x3) = (0 : Int32) → ((¬ (if (3 : Int32) < x3 then (3 : Int32) else x3) = (1 : Int32) → mw_gv 4 2 (.ref a0) hp (fun v4 => mw_av v4 i2 hp (fun v5 => mm_isr v5 = true ∧ mw_rc v5 10 hp ∧ mm_R X d 10 0 (mm_L0 10 [v5]) [] hp (mw_r0 (fun hp8 => mm_R X (d + 1) 63 72 [some ((.ref a0)), some (r1), some (.int i2), some (r3), some (r4), some (.int (if (3 : Int32) < x3 then (3 : Int32) else x3)), some (.int (i2 * (3 : Int32))), some (v5), some (.int (0 : Int32)), none, none] [] hp8 Q))))) ∧ ((if (3 : Int32) < x3 then (3 : Int32) else x3) = (1 : Int32) → mw_gv 7 3 r1 hp (fun v9 => mw_ai 1000 v9 i2 hp (fun x10 => ((¬ x10 = (0 : Int32) → mw_gv 4 2 (.ref a0) hp (fun v11 => mw_av v11 i2 hp (fun v12 => mm_isr v12 = true ∧ mw_rc v12 10 hp ∧ mm_R X d 10 0 (mm_L0 10 [v12]) [] hp (mw_r0 (fun hp15 => mm_R X (d + 1) 63 72 [some ((.ref a0)), some (r1), some (.int i2), some (r3), some (r4), some (.int (if (3 : Int32) < x3 then (3 : Int32) else x3)), some (.int (i2 * (3 : Int32))), some (v12), some (.int (0 : Int32)), none, none] [] hp15 Q))))) ∧ (x10 = (0 : Int32) → mw_gv 7 1 r1 hp (fun v16 => mw_ai 1000 v16 (i2 * (3 : Int32)) hp (fun x17 => mm_isr r3 = true ∧ mm_isr r4 = true ∧ mm_R X d 64 0 (mm_L0 64 [.int x17, r3, r4]) [] hp (mw_rv (fun v21 hp20 => mw_nr v21 ∧ Q (some v21) hp20))))))))))) ∧ ((if (3 : Int32) < x3 then (3 : Int32) else x3) = (0 : Int32) → mw_gv 4 0 (.ref a0) hp (fun v22 => mw_nr v22 ∧ Q (some v22) hp)))))) : mm_R X (d + 1) 63 0 (mm_L0 63 [(.ref a0), r1, .int i2, r3, r4]) [] hp Q := by
  show mm_R X (d + 1) 63 0 [some ((.ref a0)), some (r1), some (.int i2), some (r3), some (r4), none, none, none, none, none, none] [] hp Q
  obtain ⟨hr1, H⟩ := H
  refine mm_R.al (pc' := 0) (L' := [some ((.ref a0)), some (r1), some (.int i2), some (r3), some (r4), none, none, none, none, none, none]) (r := []) (v := r1) 0 rfl rfl rfl rfl hr1 ?_
  refine mm_R.wgv (pc' := 1) (L' := [some ((.ref a0)), some (r1), some (.int i2), some (r3), some (r4), none, none, none, none, none, none]) (r := []) 0 rfl rfl (H.mono (fun v2 H => ?_))
  refine mm_R.wai (pc' := 5) (L' := [some ((.ref a0)), some (r1), some (.int i2), some (r3), some (r4), none, none, none, none, none, none]) (r := []) (t := 1000) 1 rfl rfl rfl rfl (H.mono (fun x3 H => ?_))
  refine mm_R.cP (pc' := 7) (L' := [some ((.ref a0)), some (r1), some (.int i2), some (r3), some (r4), none, none, none, none, none, none]) (st1 := [.int (3 : Int32), .int x3]) (as := [.int x3, .int (3 : Int32)]) (rest := []) (o := some (.int (if (3 : Int32) < x3 then (3 : Int32) else x3))) 1 rfl rfl rfl rfl rfl (mw_sp rfl rfl (Nat.le_of_ble_eq_true rfl) (mw_ac rfl (mw_ac rfl mw_an)) mw_an) rfl rfl ?_
  refine mm_R.br (L' := [some ((.ref a0)), some (r1), some (.int i2), some (r3), some (r4), some (.int (if (3 : Int32) < x3 then (3 : Int32) else x3)), some (.int (i2 * (3 : Int32))), none, none, none, none]) (st' := []) (t := 27) (u := 22) (b := mm_cc .ne (if (3 : Int32) < x3 then (3 : Int32) else x3) (0 : Int32)) 7 rfl (fun c => ?_) (fun c => ?_)
  · replace H := H.1 (of_decide_eq_true c)
    refine mm_R.br (L' := [some ((.ref a0)), some (r1), some (.int i2), some (r3), some (r4), some (.int (if (3 : Int32) < x3 then (3 : Int32) else x3)), some (.int (i2 * (3 : Int32))), none, none, none, none]) (st' := []) (t := 56) (u := 33) (b := mm_cc .ne (if (3 : Int32) < x3 then (3 : Int32) else x3) (1 : Int32)) 3 rfl (fun c => ?_) (fun c => ?_)
    · replace H := H.1 (of_decide_eq_true c)
      refine mm_R.wgv (pc' := 57) (L' := [some ((.ref a0)), some (r1), some (.int i2), some (r3), some (r4), some (.int (if (3 : Int32) < x3 then (3 : Int32) else x3)), some (.int (i2 * (3 : Int32))), none, none, none, none]) (r := []) 1 rfl rfl (H.mono (fun v4 H => ?_))
      refine mm_R.wav (pc' := 61) (L' := [some ((.ref a0)), some (r1), some (.int i2), some (r3), some (r4), some (.int (if (3 : Int32) < x3 then (3 : Int32) else x3)), some (.int (i2 * (3 : Int32))), none, none, none, none]) (r := []) 1 rfl rfl (H.mono (fun v5 H => ?_))
      obtain ⟨hr6, H⟩ := H
      refine mm_R.as (pc' := 62) (L' := [some ((.ref a0)), some (r1), some (.int i2), some (r3), some (r4), some (.int (if (3 : Int32) < x3 then (3 : Int32) else x3)), some (.int (i2 * (3 : Int32))), none, none, none, none]) (r := []) (v := v5) 0 rfl rfl rfl rfl hr6 ?_
      refine mm_R.al (pc' := 64) (L' := [some ((.ref a0)), some (r1), some (.int i2), some (r3), some (r4), some (.int (if (3 : Int32) < x3 then (3 : Int32) else x3)), some (.int (i2 * (3 : Int32))), some (v5), none, none, none]) (r := []) (v := v5) 0 rfl rfl rfl rfl hr6 ?_
      obtain ⟨hc7, H⟩ := H
      refine mm_R.cV (pc' := 66) (L' := [some ((.ref a0)), some (r1), some (.int i2), some (r3), some (r4), some (.int (if (3 : Int32) < x3 then (3 : Int32) else x3)), some (.int (i2 * (3 : Int32))), some (v5), none, none, none]) (st1 := [v5]) (as := []) (rest := []) 0 rfl rfl (mw_sp rfl rfl (Nat.le_of_ble_eq_true rfl) (mw_ac (mw_c1 hc7.isr) mw_an) mw_an) rfl rfl hc7 (H.mono (fun o hp8 H => ?_))
      obtain ⟨rfl, H⟩ := H
      exact mm_R.pn (pc' := 72) (L' := [some ((.ref a0)), some (r1), some (.int i2), some (r3), some (r4), some (.int (if (3 : Int32) < x3 then (3 : Int32) else x3)), some (.int (i2 * (3 : Int32))), some (v5), some (.int (0 : Int32)), none, none]) (st' := []) 2 rfl H
    · replace H := H.2 (Decidable.of_not_not (of_decide_eq_false c))
      refine mm_R.al (pc' := 33) (L' := [some ((.ref a0)), some (r1), some (.int i2), some (r3), some (r4), some (.int (if (3 : Int32) < x3 then (3 : Int32) else x3)), some (.int (i2 * (3 : Int32))), none, none, none, none]) (r := []) (v := r1) 0 rfl rfl rfl rfl hr1 ?_
      refine mm_R.wgv (pc' := 34) (L' := [some ((.ref a0)), some (r1), some (.int i2), some (r3), some (r4), some (.int (if (3 : Int32) < x3 then (3 : Int32) else x3)), some (.int (i2 * (3 : Int32))), none, none, none, none]) (r := []) 0 rfl rfl (H.mono (fun v9 H => ?_))
      refine mm_R.wai (pc' := 38) (L' := [some ((.ref a0)), some (r1), some (.int i2), some (r3), some (r4), some (.int (if (3 : Int32) < x3 then (3 : Int32) else x3)), some (.int (i2 * (3 : Int32))), none, none, none, none]) (r := []) (t := 1000) 1 rfl rfl rfl rfl (H.mono (fun x10 H => ?_))
      refine mm_R.br (L' := [some ((.ref a0)), some (r1), some (.int i2), some (r3), some (r4), some (.int (if (3 : Int32) < x3 then (3 : Int32) else x3)), some (.int (i2 * (3 : Int32))), none, none, none, none]) (st' := []) (t := 56) (u := 42) (b := mm_cc .ne x10 (0 : Int32)) 1 rfl (fun c => ?_) (fun c => ?_)
      · replace H := H.1 (of_decide_eq_true c)
        refine mm_R.wgv (pc' := 57) (L' := [some ((.ref a0)), some (r1), some (.int i2), some (r3), some (r4), some (.int (if (3 : Int32) < x3 then (3 : Int32) else x3)), some (.int (i2 * (3 : Int32))), none, none, none, none]) (r := []) 1 rfl rfl (H.mono (fun v11 H => ?_))
        refine mm_R.wav (pc' := 61) (L' := [some ((.ref a0)), some (r1), some (.int i2), some (r3), some (r4), some (.int (if (3 : Int32) < x3 then (3 : Int32) else x3)), some (.int (i2 * (3 : Int32))), none, none, none, none]) (r := []) 1 rfl rfl (H.mono (fun v12 H => ?_))
        obtain ⟨hr13, H⟩ := H
        refine mm_R.as (pc' := 62) (L' := [some ((.ref a0)), some (r1), some (.int i2), some (r3), some (r4), some (.int (if (3 : Int32) < x3 then (3 : Int32) else x3)), some (.int (i2 * (3 : Int32))), none, none, none, none]) (r := []) (v := v12) 0 rfl rfl rfl rfl hr13 ?_
        refine mm_R.al (pc' := 64) (L' := [some ((.ref a0)), some (r1), some (.int i2), some (r3), some (r4), some (.int (if (3 : Int32) < x3 then (3 : Int32) else x3)), some (.int (i2 * (3 : Int32))), some (v12), none, none, none]) (r := []) (v := v12) 0 rfl rfl rfl rfl hr13 ?_
        obtain ⟨hc14, H⟩ := H
        refine mm_R.cV (pc' := 66) (L' := [some ((.ref a0)), some (r1), some (.int i2), some (r3), some (r4), some (.int (if (3 : Int32) < x3 then (3 : Int32) else x3)), some (.int (i2 * (3 : Int32))), some (v12), none, none, none]) (st1 := [v12]) (as := []) (rest := []) 0 rfl rfl (mw_sp rfl rfl (Nat.le_of_ble_eq_true rfl) (mw_ac (mw_c1 hc14.isr) mw_an) mw_an) rfl rfl hc14 (H.mono (fun o hp15 H => ?_))
        obtain ⟨rfl, H⟩ := H
        exact mm_R.pn (pc' := 72) (L' := [some ((.ref a0)), some (r1), some (.int i2), some (r3), some (r4), some (.int (if (3 : Int32) < x3 then (3 : Int32) else x3)), some (.int (i2 * (3 : Int32))), some (v12), some (.int (0 : Int32)), none, none]) (st' := []) 2 rfl H
      · replace H := H.2 (Decidable.of_not_not (of_decide_eq_false c))
        refine mm_R.al (pc' := 42) (L' := [some ((.ref a0)), some (r1), some (.int i2), some (r3), some (r4), some (.int (if (3 : Int32) < x3 then (3 : Int32) else x3)), some (.int (i2 * (3 : Int32))), none, none, none, none]) (r := []) (v := r1) 0 rfl rfl rfl rfl hr1 ?_
        refine mm_R.wgv (pc' := 43) (L' := [some ((.ref a0)), some (r1), some (.int i2), some (r3), some (r4), some (.int (if (3 : Int32) < x3 then (3 : Int32) else x3)), some (.int (i2 * (3 : Int32))), none, none, none, none]) (r := []) 0 rfl rfl (H.mono (fun v16 H => ?_))
        refine mm_R.wai (pc' := 48) (L' := [some ((.ref a0)), some (r1), some (.int i2), some (r3), some (r4), some (.int (if (3 : Int32) < x3 then (3 : Int32) else x3)), some (.int (i2 * (3 : Int32))), none, none, none, none]) (r := []) (t := 1000) 1 rfl rfl rfl rfl (H.mono (fun x17 H => ?_))
        obtain ⟨hr18, H⟩ := H
        refine mm_R.al (pc' := 49) (L' := [some ((.ref a0)), some (r1), some (.int i2), some (r3), some (r4), some (.int (if (3 : Int32) < x3 then (3 : Int32) else x3)), some (.int (i2 * (3 : Int32))), none, none, none, none]) (r := [.int x17]) (v := r3) 0 rfl rfl rfl rfl hr18 ?_
        obtain ⟨hr19, H⟩ := H
        refine mm_R.al (pc' := 50) (L' := [some ((.ref a0)), some (r1), some (.int i2), some (r3), some (r4), some (.int (if (3 : Int32) < x3 then (3 : Int32) else x3)), some (.int (i2 * (3 : Int32))), none, none, none, none]) (r := [r3, .int x17]) (v := r4) 0 rfl rfl rfl rfl hr19 ?_
        refine mm_R.cS (pc' := 52) (L' := [some ((.ref a0)), some (r1), some (.int i2), some (r3), some (r4), some (.int (if (3 : Int32) < x3 then (3 : Int32) else x3)), some (.int (i2 * (3 : Int32))), none, none, none, none]) (st1 := [r4, r3, .int x17]) (as := [.int x17, r3, r4]) (rest := []) 0 rfl rfl (mw_sp rfl rfl (Nat.le_of_ble_eq_true rfl) (mw_ac rfl (mw_ac (mw_c1 hr18) (mw_ac (mw_c1 hr19) mw_an))) mw_an) rfl rfl (H.mono (fun o hp20 H => ?_))
        obtain ⟨v21, rfl, H⟩ := H
        exact mm_R.rt (pc' := 55) (L' := [some ((.ref a0)), some (r1), some (.int i2), some (r3), some (r4), some (.int (if (3 : Int32) < x3 then (3 : Int32) else x3)), some (.int (i2 * (3 : Int32))), none, none, none, none]) (st1 := [v21]) 0 rfl rfl rfl rfl rfl (mw_rva (ty := (.object "StepRunner$Value")) H.1 rfl) H.2
  · replace H := H.2 (Decidable.of_not_not (of_decide_eq_false c))
    refine mm_R.wgv (pc' := 23) (L' := [some ((.ref a0)), some (r1), some (.int i2), some (r3), some (r4), some (.int (if (3 : Int32) < x3 then (3 : Int32) else x3)), some (.int (i2 * (3 : Int32))), none, none, none, none]) (r := []) 1 rfl rfl (H.mono (fun v22 H => ?_))
    exact mm_R.rt (pc' := 26) (L' := [some ((.ref a0)), some (r1), some (.int i2), some (r3), some (r4), some (.int (if (3 : Int32) < x3 then (3 : Int32) else x3)), some (.int (i2 * (3 : Int32))), none, none, none, none]) (st1 := [v22]) 0 rfl rfl rfl rfl rfl (mw_rva (ty := (.object "StepRunner$Value")) H.1 rfl) H.2
-- StepRunner$Expander.merge, from 72
set_option maxRecDepth 10000 in
theorem w63_72 {X : List Int32} {d : Nat} {a0 : Nat} {r1 : Value} {i2 : Int32} {r3 : Value} {r4 : Value} {i5 : Int32} {i6 : Int32} {r7 : Value} {i8 : Int32} {o9 : Option Value} {o10 : Option Value} {hp : mm_H} {Q : Option Value → mm_H → Prop} (H : ((i5 ≤ i8 → mm_isr r7 = true ∧ mw_nr r7 ∧ Q (some r7) hp) ∧ (¬ i5 ≤ i8 → mm_isr r1 = true ∧ mw_gv 7 1 r1 hp (fun v3 => mw_ai 1000 v3 (i6 + i8) hp (fun x4 => mm_isr r3 = true ∧ mm_isr r4 = true ∧ mm_R X d 64 0 (mm_L0 64 [.int x4, r3, r4]) [] hp (mw_rv (fun v8 hp7 => mm_isr v8 = true ∧ mw_nl v8 (Q (some .null) hp7) (mw_gv 7 3 r1 hp7 (fun v10 => mw_ai 1000 v10 i2 hp7 (fun x11 => ((¬ x11 = (2 : Int32) → mm_R X (d + 1) 63 127 [some ((.ref a0)), some (r1), some (.int i2), some (r3), some (r4), some (.int i5), some (.int i6), some (r7), some (.int i8), some (v8), o10] [.int (0 : Int32)] hp7 Q) ∧ (x11 = (2 : Int32) → mw_rc v8 65 hp7 ∧ mm_R X d 65 0 (mm_L0 65 [v8]) [] hp7 (mw_ri (fun x14 hp13 => ((x14 = (0 : Int32) → mm_R X (d + 1) 63 127 [some ((.ref a0)), some (r1), some (.int i2), some (r3), some (r4), some (.int i5), some (.int i6), some (r7), some (.int i8), some (v8), o10] [.int (0 : Int32)] hp13 Q) ∧ (¬ x14 = (0 : Int32) → mm_R X (d + 1) 63 127 [some ((.ref a0)), some (r1), some (.int i2), some (r3), some (r4), some (.int i5), some (.int i6), some (r7), some (.int i8), some (v8), o10] [.int (1 : Int32)] hp13 Q)))))))))))))))) : mm_R X (d + 1) 63 72 [some ((.ref a0)), some (r1), some (.int i2), some (r3), some (r4), some (.int i5), some (.int i6), some (r7), some (.int i8), o9, o10] [] hp Q := by
  refine mm_R.br (L' := [some ((.ref a0)), some (r1), some (.int i2), some (r3), some (r4), some (.int i5), some (.int i6), some (r7), some (.int i8), o9, o10]) (st' := []) (t := 165) (u := 79) (b := mm_cc .ge i8 i5) 3 rfl (fun c => ?_) (fun c => ?_)
  · replace H := H.1 (of_decide_eq_true c)
    obtain ⟨hr1, H⟩ := H
    refine mm_R.al (pc' := 165) (L' := [some ((.ref a0)), some (r1), some (.int i2), some (r3), some (r4), some (.int i5), some (.int i6), some (r7), some (.int i8), o9, o10]) (r := []) (v := r7) 0 rfl rfl rfl rfl hr1 ?_
    exact mm_R.rt (pc' := 167) (L' := [some ((.ref a0)), some (r1), some (.int i2), some (r3), some (r4), some (.int i5), some (.int i6), some (r7), some (.int i8), o9, o10]) (st1 := [r7]) 0 rfl rfl rfl rfl rfl (mw_rva (ty := (.object "StepRunner$Value")) H.1 rfl) H.2
  · replace H := H.2 (of_decide_eq_false c)
    obtain ⟨hr2, H⟩ := H
    refine mm_R.al (pc' := 79) (L' := [some ((.ref a0)), some (r1), some (.int i2), some (r3), some (r4), some (.int i5), some (.int i6), some (r7), some (.int i8), o9, o10]) (r := []) (v := r1) 0 rfl rfl rfl rfl hr2 ?_
    refine mm_R.wgv (pc' := 80) (L' := [some ((.ref a0)), some (r1), some (.int i2), some (r3), some (r4), some (.int i5), some (.int i6), some (r7), some (.int i8), o9, o10]) (r := []) 0 rfl rfl (H.mono (fun v3 H => ?_))
    refine mm_R.wai (pc' := 88) (L' := [some ((.ref a0)), some (r1), some (.int i2), some (r3), some (r4), some (.int i5), some (.int i6), some (r7), some (.int i8), o9, o10]) (r := []) (t := 1000) 3 rfl rfl rfl rfl (H.mono (fun x4 H => ?_))
    obtain ⟨hr5, H⟩ := H
    refine mm_R.al (pc' := 89) (L' := [some ((.ref a0)), some (r1), some (.int i2), some (r3), some (r4), some (.int i5), some (.int i6), some (r7), some (.int i8), o9, o10]) (r := [.int x4]) (v := r3) 0 rfl rfl rfl rfl hr5 ?_
    obtain ⟨hr6, H⟩ := H
    refine mm_R.al (pc' := 90) (L' := [some ((.ref a0)), some (r1), some (.int i2), some (r3), some (r4), some (.int i5), some (.int i6), some (r7), some (.int i8), o9, o10]) (r := [r3, .int x4]) (v := r4) 0 rfl rfl rfl rfl hr6 ?_
    refine mm_R.cS (pc' := 92) (L' := [some ((.ref a0)), some (r1), some (.int i2), some (r3), some (r4), some (.int i5), some (.int i6), some (r7), some (.int i8), o9, o10]) (st1 := [r4, r3, .int x4]) (as := [.int x4, r3, r4]) (rest := []) 0 rfl rfl (mw_sp rfl rfl (Nat.le_of_ble_eq_true rfl) (mw_ac rfl (mw_ac (mw_c1 hr5) (mw_ac (mw_c1 hr6) mw_an))) mw_an) rfl rfl (H.mono (fun o hp7 H => ?_))
    obtain ⟨v8, rfl, H⟩ := H
    obtain ⟨hr9, H⟩ := H
    refine mm_R.as (pc' := 95) (L' := [some ((.ref a0)), some (r1), some (.int i2), some (r3), some (r4), some (.int i5), some (.int i6), some (r7), some (.int i8), o9, o10]) (r := []) (v := v8) 0 rfl rfl rfl rfl hr9 ?_
    refine mm_R.al (pc' := 97) (L' := [some ((.ref a0)), some (r1), some (.int i2), some (r3), some (r4), some (.int i5), some (.int i6), some (r7), some (.int i8), some (v8), o10]) (r := []) (v := v8) 0 rfl rfl rfl rfl hr9 ?_
    refine mm_R.wnl (pc' := 99) (L' := [some ((.ref a0)), some (r1), some (.int i2), some (r3), some (r4), some (.int i5), some (.int i6), some (r7), some (.int i8), some (v8), o10]) (r := []) (v := v8) (t := 102) (u := 104) 0 rfl rfl rfl (H.mono (fun H => ?_) (fun H => ?_))
    · exact mm_R.rt (pc' := 103) (L' := [some ((.ref a0)), some (r1), some (.int i2), some (r3), some (r4), some (.int i5), some (.int i6), some (r7), some (.int i8), some (v8), o10]) (st1 := [.null]) 1 rfl rfl rfl rfl rfl rfl H
    · refine mm_R.al (pc' := 104) (L' := [some ((.ref a0)), some (r1), some (.int i2), some (r3), some (r4), some (.int i5), some (.int i6), some (r7), some (.int i8), some (v8), o10]) (r := []) (v := r1) 0 rfl rfl rfl rfl hr2 ?_
      refine mm_R.wgv (pc' := 105) (L' := [some ((.ref a0)), some (r1), some (.int i2), some (r3), some (r4), some (.int i5), some (.int i6), some (r7), some (.int i8), some (v8), o10]) (r := []) 0 rfl rfl (H.mono (fun v10 H => ?_))
      refine mm_R.wai (pc' := 109) (L' := [some ((.ref a0)), some (r1), some (.int i2), some (r3), some (r4), some (.int i5), some (.int i6), some (r7), some (.int i8), some (v8), o10]) (r := []) (t := 1000) 1 rfl rfl rfl rfl (H.mono (fun x11 H => ?_))
      refine mm_R.br (L' := [some ((.ref a0)), some (r1), some (.int i2), some (r3), some (r4), some (.int i5), some (.int i6), some (r7), some (.int i8), some (v8), o10]) (st' := []) (t := 126) (u := 114) (b := mm_cc .ne x11 (2 : Int32)) 2 rfl (fun c => ?_) (fun c => ?_)
      · replace H := H.1 (of_decide_eq_true c)
        exact mm_R.pn (pc' := 127) (L' := [some ((.ref a0)), some (r1), some (.int i2), some (r3), some (r4), some (.int i5), some (.int i6), some (r7), some (.int i8), some (v8), o10]) (st' := [.int (0 : Int32)]) 1 rfl H
      · replace H := H.2 (Decidable.of_not_not (of_decide_eq_false c))
        refine mm_R.al (pc' := 114) (L' := [some ((.ref a0)), some (r1), some (.int i2), some (r3), some (r4), some (.int i5), some (.int i6), some (r7), some (.int i8), some (v8), o10]) (r := []) (v := v8) 0 rfl rfl rfl rfl hr9 ?_
        obtain ⟨hc12, H⟩ := H
        refine mm_R.cV (pc' := 116) (L' := [some ((.ref a0)), some (r1), some (.int i2), some (r3), some (r4), some (.int i5), some (.int i6), some (r7), some (.int i8), some (v8), o10]) (st1 := [v8]) (as := []) (rest := []) 0 rfl rfl (mw_sp rfl rfl (Nat.le_of_ble_eq_true rfl) (mw_ac (mw_c1 hc12.isr) mw_an) mw_an) rfl rfl hc12 (H.mono (fun o hp13 H => ?_))
        obtain ⟨x14, rfl, H⟩ := H
        refine mm_R.br (L' := [some ((.ref a0)), some (r1), some (.int i2), some (r3), some (r4), some (.int i5), some (.int i6), some (r7), some (.int i8), some (v8), o10]) (st' := []) (t := 126) (u := 122) (b := mm_cc .eq x14 (0 : Int32)) 1 rfl (fun c => ?_) (fun c => ?_)
        · replace H := H.1 (of_decide_eq_true c)
          exact mm_R.pn (pc' := 127) (L' := [some ((.ref a0)), some (r1), some (.int i2), some (r3), some (r4), some (.int i5), some (.int i6), some (r7), some (.int i8), some (v8), o10]) (st' := [.int (0 : Int32)]) 1 rfl H
        · replace H := H.2 (of_decide_eq_false c)
          exact mm_R.pn (pc' := 127) (L' := [some ((.ref a0)), some (r1), some (.int i2), some (r3), some (r4), some (.int i5), some (.int i6), some (r7), some (.int i8), some (v8), o10]) (st' := [.int (1 : Int32)]) 2 rfl H
-- StepRunner$Expander.merge, from 127
set_option maxRecDepth 10000 in
theorem w63_127 {X : List Int32} {d : Nat} {a0 : Nat} {r1 : Value} {i2 : Int32} {r3 : Value} {r4 : Value} {i5 : Int32} {i6 : Int32} {r7 : Value} {i8 : Int32} {r9 : Value} {o10 : Option Value} {s0 : Int32} {hp : mm_H} {Q : Option Value → mm_H → Prop} (H : ((s0 = (0 : Int32) → mm_isr r7 = true ∧ mm_isr r9 = true ∧ mw_rc r7 32 hp ∧ mm_R X d 32 0 (mm_L0 32 [r7, r9]) [] hp (mw_ri (fun x5 hp4 => ((¬ x5 = (0 : Int32) → mm_R X (d + 1) 63 72 [some ((.ref a0)), some (r1), some (.int i2), some (r3), some (r4), some (.int i5), some (.int i6), some (r7), some (.int (i8 + (1 : Int32))), some (r9), some (.int s0)] [] hp4 Q) ∧ (x5 = (0 : Int32) → Q (some .null) hp4))))) ∧ (¬ s0 = (0 : Int32) → mm_isr r7 = true ∧ mm_isr r9 = true ∧ mw_rc r7 66 hp ∧ mm_R X d 66 0 (mm_L0 66 [r7, r9]) [] hp (mw_ri (fun x10 hp9 => ((¬ x10 = (0 : Int32) → mm_R X (d + 1) 63 72 [some ((.ref a0)), some (r1), some (.int i2), some (r3), some (r4), some (.int i5), some (.int i6), some (r7), some (.int (i8 + (1 : Int32))), some (r9), some (.int s0)] [] hp9 Q) ∧ (x10 = (0 : Int32) → Q (some .null) hp9))))))) : mm_R X (d + 1) 63 127 [some ((.ref a0)), some (r1), some (.int i2), some (r3), some (r4), some (.int i5), some (.int i6), some (r7), some (.int i8), some (r9), o10] [.int s0] hp Q := by
  refine mm_R.br (L' := [some ((.ref a0)), some (r1), some (.int i2), some (r3), some (r4), some (.int i5), some (.int i6), some (r7), some (.int i8), some (r9), some (.int s0)]) (st' := []) (t := 147) (u := 134) (b := mm_cc .eq s0 (0 : Int32)) 3 rfl (fun c => ?_) (fun c => ?_)
  · replace H := H.1 (of_decide_eq_true c)
    obtain ⟨hr1, H⟩ := H
    refine mm_R.al (pc' := 147) (L' := [some ((.ref a0)), some (r1), some (.int i2), some (r3), some (r4), some (.int i5), some (.int i6), some (r7), some (.int i8), some (r9), some (.int s0)]) (r := []) (v := r7) 0 rfl rfl rfl rfl hr1 ?_
    obtain ⟨hr2, H⟩ := H
    refine mm_R.al (pc' := 149) (L' := [some ((.ref a0)), some (r1), some (.int i2), some (r3), some (r4), some (.int i5), some (.int i6), some (r7), some (.int i8), some (r9), some (.int s0)]) (r := [r7]) (v := r9) 0 rfl rfl rfl rfl hr2 ?_
    obtain ⟨hc3, H⟩ := H
    refine mm_R.cV (pc' := 151) (L' := [some ((.ref a0)), some (r1), some (.int i2), some (r3), some (r4), some (.int i5), some (.int i6), some (r7), some (.int i8), some (r9), some (.int s0)]) (st1 := [r9, r7]) (as := [r9]) (rest := []) 0 rfl rfl (mw_sp rfl rfl (Nat.le_of_ble_eq_true rfl) (mw_ac (mw_c1 hc3.isr) (mw_ac (mw_c1 hr2) mw_an)) mw_an) rfl rfl hc3 (H.mono (fun o hp4 H => ?_))
    obtain ⟨x5, rfl, H⟩ := H
    refine mm_R.br (L' := [some ((.ref a0)), some (r1), some (.int i2), some (r3), some (r4), some (.int i5), some (.int i6), some (r7), some (.int i8), some (r9), some (.int s0)]) (st' := []) (t := 159) (u := 157) (b := mm_cc .ne x5 (0 : Int32)) 1 rfl (fun c => ?_) (fun c => ?_)
    · replace H := H.1 (of_decide_eq_true c)
      exact mm_R.pn (pc' := 72) (L' := [some ((.ref a0)), some (r1), some (.int i2), some (r3), some (r4), some (.int i5), some (.int i6), some (r7), some (.int (i8 + (1 : Int32))), some (r9), some (.int s0)]) (st' := []) 2 rfl H
    · replace H := H.2 (Decidable.of_not_not (of_decide_eq_false c))
      exact mm_R.rt (pc' := 158) (L' := [some ((.ref a0)), some (r1), some (.int i2), some (r3), some (r4), some (.int i5), some (.int i6), some (r7), some (.int i8), some (r9), some (.int s0)]) (st1 := [.null]) 1 rfl rfl rfl rfl rfl rfl H
  · replace H := H.2 (of_decide_eq_false c)
    obtain ⟨hr6, H⟩ := H
    refine mm_R.al (pc' := 134) (L' := [some ((.ref a0)), some (r1), some (.int i2), some (r3), some (r4), some (.int i5), some (.int i6), some (r7), some (.int i8), some (r9), some (.int s0)]) (r := []) (v := r7) 0 rfl rfl rfl rfl hr6 ?_
    obtain ⟨hr7, H⟩ := H
    refine mm_R.al (pc' := 136) (L' := [some ((.ref a0)), some (r1), some (.int i2), some (r3), some (r4), some (.int i5), some (.int i6), some (r7), some (.int i8), some (r9), some (.int s0)]) (r := [r7]) (v := r9) 0 rfl rfl rfl rfl hr7 ?_
    obtain ⟨hc8, H⟩ := H
    refine mm_R.cV (pc' := 138) (L' := [some ((.ref a0)), some (r1), some (.int i2), some (r3), some (r4), some (.int i5), some (.int i6), some (r7), some (.int i8), some (r9), some (.int s0)]) (st1 := [r9, r7]) (as := [r9]) (rest := []) 0 rfl rfl (mw_sp rfl rfl (Nat.le_of_ble_eq_true rfl) (mw_ac (mw_c1 hc8.isr) (mw_ac (mw_c1 hr7) mw_an)) mw_an) rfl rfl hc8 (H.mono (fun o hp9 H => ?_))
    obtain ⟨x10, rfl, H⟩ := H
    refine mm_R.br (L' := [some ((.ref a0)), some (r1), some (.int i2), some (r3), some (r4), some (.int i5), some (.int i6), some (r7), some (.int i8), some (r9), some (.int s0)]) (st' := []) (t := 159) (u := 144) (b := mm_cc .ne x10 (0 : Int32)) 1 rfl (fun c => ?_) (fun c => ?_)
    · replace H := H.1 (of_decide_eq_true c)
      exact mm_R.pn (pc' := 72) (L' := [some ((.ref a0)), some (r1), some (.int i2), some (r3), some (r4), some (.int i5), some (.int i6), some (r7), some (.int (i8 + (1 : Int32))), some (r9), some (.int s0)]) (st' := []) 2 rfl H
    · replace H := H.2 (Decidable.of_not_not (of_decide_eq_false c))
      exact mm_R.rt (pc' := 158) (L' := [some ((.ref a0)), some (r1), some (.int i2), some (r3), some (r4), some (.int i5), some (.int i6), some (r7), some (.int i8), some (r9), some (.int s0)]) (st1 := [.null]) 2 rfl rfl rfl rfl rfl rfl H
-- StepRunner$Expander.sourceValue, from 0
set_option maxRecDepth 10000 in
theorem w64_0 {X : List Int32} {d : Nat} {i0 : Int32} {r1 : Value} {r2 : Value} {hp : mm_H} {Q : Option Value → mm_H → Prop} (H : ((i0 < (0 : Int32) → mm_R X (d + 1) 64 14 [some (.int i0), some (r1), some (r2), none, none] [] hp Q) ∧ (¬ i0 < (0 : Int32) → mm_isr r2 = true ∧ mw_ln r2 hp (fun x2 => ((x2 ≤ i0 → mm_R X (d + 1) 64 14 [some (.int i0), some (r1), some (r2), none, none] [] hp Q) ∧ (¬ x2 ≤ i0 → mw_av r2 i0 hp (fun v3 => mw_nr v3 ∧ Q (some v3) hp))))))) : mm_R X (d + 1) 64 0 (mm_L0 64 [.int i0, r1, r2]) [] hp Q := by
  show mm_R X (d + 1) 64 0 [some (.int i0), some (r1), some (r2), none, none] [] hp Q
  refine mm_R.br (L' := [some (.int i0), some (r1), some (r2), none, none]) (st' := []) (t := 14) (u := 4) (b := mm_cc .lt i0 (0 : Int32)) 2 rfl (fun c => ?_) (fun c => ?_)
  · replace H := H.1 (of_decide_eq_true c)
    exact H
  · replace H := H.2 (of_decide_eq_false c)
    obtain ⟨hr1, H⟩ := H
    refine mm_R.al (pc' := 5) (L' := [some (.int i0), some (r1), some (r2), none, none]) (r := [.int i0]) (v := r2) 1 rfl rfl rfl rfl hr1 ?_
    refine mm_R.wln (pc' := 6) (L' := [some (.int i0), some (r1), some (r2), none, none]) (r := [.int i0]) 0 rfl rfl (H.mono (fun x2 H => ?_))
    refine mm_R.br (L' := [some (.int i0), some (r1), some (r2), none, none]) (st' := []) (t := 14) (u := 10) (b := mm_cc .ge i0 x2) 1 rfl (fun c => ?_) (fun c => ?_)
    · replace H := H.1 (of_decide_eq_true c)
      exact H
    · replace H := H.2 (of_decide_eq_false c)
      refine mm_R.al (pc' := 10) (L' := [some (.int i0), some (r1), some (r2), none, none]) (r := []) (v := r2) 0 rfl rfl rfl rfl hr1 ?_
      refine mm_R.wav (pc' := 12) (L' := [some (.int i0), some (r1), some (r2), none, none]) (r := []) 1 rfl rfl (H.mono (fun v3 H => ?_))
      exact mm_R.rt (pc' := 13) (L' := [some (.int i0), some (r1), some (r2), none, none]) (st1 := [v3]) 0 rfl rfl rfl rfl rfl (mw_rva (ty := (.object "StepRunner$Value")) H.1 rfl) H.2
-- StepRunner$Expander.sourceValue, from 14
set_option maxRecDepth 10000 in
theorem w64_14 {X : List Int32} {d : Nat} {i0 : Int32} {r1 : Value} {r2 : Value} {o3 : Option Value} {o4 : Option Value} {hp : mm_H} {Q : Option Value → mm_H → Prop} (H : (((i0 - (10 : Int32)) < (0 : Int32) → Q (some .null) hp) ∧ (¬ (i0 - (10 : Int32)) < (0 : Int32) → mm_isr r1 = true ∧ mw_ln r1 hp (fun x2 => ((x2 ≤ (i0 - (10 : Int32)) → Q (some .null) hp) ∧ (¬ x2 ≤ (i0 - (10 : Int32)) → mw_av r1 (i0 - (10 : Int32)) hp (fun v3 => mm_isr v3 = true ∧ mw_nl v3 (Q (some .null) hp) (mw_gv 5 11 v3 hp (fun v5 => mw_nr v5 ∧ Q (some v5) hp))))))))) : mm_R X (d + 1) 64 14 [some (.int i0), some (r1), some (r2), o3, o4] [] hp Q := by
  refine mm_R.br (L' := [some (.int i0), some (r1), some (r2), some (.int (i0 - (10 : Int32))), o4]) (st' := []) (t := 35) (u := 23) (b := mm_cc .lt (i0 - (10 : Int32)) (0 : Int32)) 6 rfl (fun c => ?_) (fun c => ?_)
  · replace H := H.1 (of_decide_eq_true c)
    exact mm_R.rt (pc' := 52) (L' := [some (.int i0), some (r1), some (r2), some (.int (i0 - (10 : Int32))), some (.null)]) (st1 := [.null]) 6 rfl rfl rfl rfl rfl rfl H
  · replace H := H.2 (of_decide_eq_false c)
    obtain ⟨hr1, H⟩ := H
    refine mm_R.al (pc' := 24) (L' := [some (.int i0), some (r1), some (r2), some (.int (i0 - (10 : Int32))), o4]) (r := [.int (i0 - (10 : Int32))]) (v := r1) 1 rfl rfl rfl rfl hr1 ?_
    refine mm_R.wln (pc' := 25) (L' := [some (.int i0), some (r1), some (r2), some (.int (i0 - (10 : Int32))), o4]) (r := [.int (i0 - (10 : Int32))]) 0 rfl rfl (H.mono (fun x2 H => ?_))
    refine mm_R.br (L' := [some (.int i0), some (r1), some (r2), some (.int (i0 - (10 : Int32))), o4]) (st' := []) (t := 35) (u := 29) (b := mm_cc .ge (i0 - (10 : Int32)) x2) 1 rfl (fun c => ?_) (fun c => ?_)
    · replace H := H.1 (of_decide_eq_true c)
      exact mm_R.rt (pc' := 52) (L' := [some (.int i0), some (r1), some (r2), some (.int (i0 - (10 : Int32))), some (.null)]) (st1 := [.null]) 6 rfl rfl rfl rfl rfl rfl H
    · replace H := H.2 (of_decide_eq_false c)
      refine mm_R.al (pc' := 29) (L' := [some (.int i0), some (r1), some (r2), some (.int (i0 - (10 : Int32))), o4]) (r := []) (v := r1) 0 rfl rfl rfl rfl hr1 ?_
      refine mm_R.wav (pc' := 31) (L' := [some (.int i0), some (r1), some (r2), some (.int (i0 - (10 : Int32))), o4]) (r := []) 1 rfl rfl (H.mono (fun v3 H => ?_))
      obtain ⟨hr4, H⟩ := H
      refine mm_R.as (pc' := 36) (L' := [some (.int i0), some (r1), some (r2), some (.int (i0 - (10 : Int32))), o4]) (r := []) (v := v3) 1 rfl rfl rfl rfl hr4 ?_
      refine mm_R.al (pc' := 38) (L' := [some (.int i0), some (r1), some (r2), some (.int (i0 - (10 : Int32))), some (v3)]) (r := []) (v := v3) 0 rfl rfl rfl rfl hr4 ?_
      refine mm_R.wnl (pc' := 40) (L' := [some (.int i0), some (r1), some (r2), some (.int (i0 - (10 : Int32))), some (v3)]) (r := []) (v := v3) (t := 43) (u := 47) 0 rfl rfl rfl (H.mono (fun H => ?_) (fun H => ?_))
      · exact mm_R.rt (pc' := 52) (L' := [some (.int i0), some (r1), some (r2), some (.int (i0 - (10 : Int32))), some (v3)]) (st1 := [.null]) 2 rfl rfl rfl rfl rfl rfl H
      · refine mm_R.al (pc' := 47) (L' := [some (.int i0), some (r1), some (r2), some (.int (i0 - (10 : Int32))), some (v3)]) (r := []) (v := v3) 0 rfl rfl rfl rfl hr4 ?_
        refine mm_R.wgv (pc' := 49) (L' := [some (.int i0), some (r1), some (r2), some (.int (i0 - (10 : Int32))), some (v3)]) (r := []) 0 rfl rfl (H.mono (fun v5 H => ?_))
        exact mm_R.rt (pc' := 52) (L' := [some (.int i0), some (r1), some (r2), some (.int (i0 - (10 : Int32))), some (v3)]) (st1 := [v5]) 0 rfl rfl rfl rfl rfl (mw_rva (ty := (.object "StepRunner$Value")) H.1 rfl) H.2
