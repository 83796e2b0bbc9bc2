-- StepRunner$Job.echoWords, from 0
set_option maxRecDepth 10000 in
theorem w102_0 {X : List Int32} {d : Nat} {a0 : Nat} {hp : mm_H} {Q : Option Value → mm_H → Prop} (H : mm_R X d 7 0 (mm_L0 7 [.int (24 : Int32)]) [] hp (mw_rv (fun v2 hp1 => mm_isr v2 = true ∧ mm_R X (d + 1) 102 8 [some ((.ref a0)), some (v2), some (.int (0 : Int32))] [] hp1 Q))) : mm_R X (d + 1) 102 0 (mm_L0 102 [(.ref a0)]) [] hp Q := by
  show mm_R X (d + 1) 102 0 [some ((.ref a0)), none, none] [] hp Q
  refine mm_R.cS (pc' := 2) (L' := [some ((.ref a0)), none, none]) (st1 := [.int (24 : Int32)]) (as := [.int (24 : Int32)]) (rest := []) 1 rfl rfl (mw_sp rfl rfl (Nat.le_of_ble_eq_true rfl) (mw_ac rfl mw_an) mw_an) rfl rfl (H.mono (fun o hp1 H => ?_))
  obtain ⟨v2, rfl, H⟩ := H
  obtain ⟨hr3, H⟩ := H
  refine mm_R.as (pc' := 5) (L' := [some ((.ref a0)), none, none]) (r := []) (v := v2) 0 rfl rfl rfl rfl hr3 ?_
  exact mm_R.pn (pc' := 8) (L' := [some ((.ref a0)), some (v2), some (.int (0 : Int32))]) (st' := []) 2 rfl H
-- StepRunner$Job.echoWords, from 8
set_option maxRecDepth 10000 in
theorem w102_8 {X : List Int32} {d : Nat} {a0 : Nat} {r1 : Value} {i2 : Int32} {hp : mm_H} {Q : Option Value → mm_H → Prop} (H : mw_gi 9 4 (.ref a0) hp (fun x1 => ((x1 ≤ i2 → mm_isr r1 = true ∧ mw_nr r1 ∧ Q (some r1) hp) ∧ (¬ x1 ≤ i2 → ((i2 ≤ (0 : Int32) → mm_isr r1 = true ∧ mw_rc (.ref a0) 103 hp ∧ mm_R X d 103 0 (mm_L0 103 [(.ref a0), r1, .int i2]) [] hp (mw_ri (fun x6 hp5 => ((¬ x6 = (0 : Int32) → mm_R X (d + 1) 102 8 [some ((.ref a0)), some (r1), some (.int (i2 + (1 : Int32)))] [] hp5 Q) ∧ (x6 = (0 : Int32) → Q (some .null) hp5))))) ∧ (¬ i2 ≤ (0 : Int32) → mm_isr r1 = true ∧ mw_rc r1 34 hp ∧ mm_R X d 34 0 (mm_L0 34 [r1, .int (32 : Int32)]) [] hp (mw_ri (fun x10 hp9 => ((¬ x10 = (0 : Int32) → mw_rc (.ref a0) 103 hp9 ∧ mm_R X d 103 0 (mm_L0 103 [(.ref a0), r1, .int i2]) [] hp9 (mw_ri (fun x13 hp12 => ((¬ x13 = (0 : Int32) → mm_R X (d + 1) 102 8 [some ((.ref a0)), some (r1), some (.int (i2 + (1 : Int32)))] [] hp12 Q) ∧ (x13 = (0 : Int32) → Q (some .null) hp12))))) ∧ (x10 = (0 : Int32) → Q (some .null) hp9)))))))))) : mm_R X (d + 1) 102 8 [some ((.ref a0)), some (r1), some (.int i2)] [] hp Q := by
  refine mm_R.wgi (pc' := 10) (L' := [some ((.ref a0)), some (r1), some (.int i2)]) (r := [.int i2]) 2 rfl rfl (H.mono (fun x1 H => ?_))
  refine mm_R.br (L' := [some ((.ref a0)), some (r1), some (.int i2)]) (st' := []) (t := 48) (u := 16) (b := mm_cc .ge i2 x1) 1 rfl (fun c => ?_) (fun c => ?_)
  · replace H := H.1 (of_decide_eq_true c)
    obtain ⟨hr2, H⟩ := H
    refine mm_R.al (pc' := 48) (L' := [some ((.ref a0)), some (r1), some (.int i2)]) (r := []) (v := r1) 0 rfl rfl rfl rfl hr2 ?_
    exact mm_R.rt (pc' := 49) (L' := [some ((.ref a0)), some (r1), some (.int i2)]) (st1 := [r1]) 0 rfl rfl rfl rfl rfl (mw_rva (ty := (.object "StepRunner$Value")) H.1 rfl) H.2
  · replace H := H.2 (of_decide_eq_false c)
    refine mm_R.br (L' := [some ((.ref a0)), some (r1), some (.int i2)]) (st' := []) (t := 31) (u := 20) (b := mm_cc .le i2 (0 : Int32)) 2 rfl (fun c => ?_) (fun c => ?_)
    · replace H := H.1 (of_decide_eq_true c)
      obtain ⟨hr3, H⟩ := H
      refine mm_R.al (pc' := 32) (L' := [some ((.ref a0)), some (r1), some (.int i2)]) (r := [(.ref a0)]) (v := r1) 1 rfl rfl rfl rfl hr3 ?_
      obtain ⟨hc4, H⟩ := H
      refine mm_R.cV (pc' := 34) (L' := [some ((.ref a0)), some (r1), some (.int i2)]) (st1 := [.int i2, r1, (.ref a0)]) (as := [r1, .int i2]) (rest := []) 1 rfl rfl (mw_sp rfl rfl (Nat.le_of_ble_eq_true rfl) (mw_ac rfl (mw_ac (mw_c1 hr3) (mw_ac rfl mw_an))) mw_an) rfl rfl hc4 (H.mono (fun o hp5 H => ?_))
      obtain ⟨x6, rfl, H⟩ := H
      refine mm_R.br (L' := [some ((.ref a0)), some (r1), some (.int i2)]) (st' := []) (t := 42) (u := 40) (b := mm_cc .ne x6 (0 : Int32)) 1 rfl (fun c => ?_) (fun c => ?_)
      · replace H := H.1 (of_decide_eq_true c)
        exact mm_R.pn (pc' := 8) (L' := [some ((.ref a0)), some (r1), some (.int (i2 + (1 : Int32)))]) (st' := []) 2 rfl H
      · replace H := H.2 (Decidable.of_not_not (of_decide_eq_false c))
        exact mm_R.rt (pc' := 41) (L' := [some ((.ref a0)), some (r1), some (.int i2)]) (st1 := [.null]) 1 rfl rfl rfl rfl rfl rfl H
    · replace H := H.2 (of_decide_eq_false c)
      obtain ⟨hr7, H⟩ := H
      refine mm_R.al (pc' := 20) (L' := [some ((.ref a0)), some (r1), some (.int i2)]) (r := []) (v := r1) 0 rfl rfl rfl rfl hr7 ?_
      obtain ⟨hc8, H⟩ := H
      refine mm_R.cV (pc' := 23) (L' := [some ((.ref a0)), some (r1), some (.int i2)]) (st1 := [.int (32 : Int32), r1]) (as := [.int (32 : Int32)]) (rest := []) 1 rfl rfl (mw_sp rfl rfl (Nat.le_of_ble_eq_true rfl) (mw_ac (mw_c1 hc8.isr) (mw_ac rfl mw_an)) mw_an) rfl rfl hc8 (H.mono (fun o hp9 H => ?_))
      obtain ⟨x10, rfl, H⟩ := H
      refine mm_R.br (L' := [some ((.ref a0)), some (r1), some (.int i2)]) (st' := []) (t := 31) (u := 29) (b := mm_cc .ne x10 (0 : Int32)) 1 rfl (fun c => ?_) (fun c => ?_)
      · replace H := H.1 (of_decide_eq_true c)
        refine mm_R.al (pc' := 32) (L' := [some ((.ref a0)), some (r1), some (.int i2)]) (r := [(.ref a0)]) (v := r1) 1 rfl rfl rfl rfl hc8.isr ?_
        obtain ⟨hc11, H⟩ := H
        refine mm_R.cV (pc' := 34) (L' := [some ((.ref a0)), some (r1), some (.int i2)]) (st1 := [.int i2, r1, (.ref a0)]) (as := [r1, .int i2]) (rest := []) 1 rfl rfl (mw_sp rfl rfl (Nat.le_of_ble_eq_true rfl) (mw_ac rfl (mw_ac (mw_c1 hc8.isr) (mw_ac rfl mw_an))) mw_an) rfl rfl hc11 (H.mono (fun o hp12 H => ?_))
        obtain ⟨x13, rfl, H⟩ := H
        refine mm_R.br (L' := [some ((.ref a0)), some (r1), some (.int i2)]) (st' := []) (t := 42) (u := 40) (b := mm_cc .ne x13 (0 : Int32)) 1 rfl (fun c => ?_) (fun c => ?_)
        · replace H := H.1 (of_decide_eq_true c)
          exact mm_R.pn (pc' := 8) (L' := [some ((.ref a0)), some (r1), some (.int (i2 + (1 : Int32)))]) (st' := []) 2 rfl H
        · replace H := H.2 (Decidable.of_not_not (of_decide_eq_false c))
          exact mm_R.rt (pc' := 41) (L' := [some ((.ref a0)), some (r1), some (.int i2)]) (st1 := [.null]) 1 rfl rfl rfl rfl rfl rfl H
      · replace H := H.2 (Decidable.of_not_not (of_decide_eq_false c))
        exact mm_R.rt (pc' := 30) (L' := [some ((.ref a0)), some (r1), some (.int i2)]) (st1 := [.null]) 1 rfl rfl rfl rfl rfl rfl H
-- StepRunner$Job.addWordTo, from 0
set_option maxRecDepth 10000 in
theorem w103_0 {X : List Int32} {d : Nat} {a0 : Nat} {r1 : Value} {i2 : Int32} {hp : mm_H} {Q : Option Value → mm_H → Prop} (H : mw_rc (.ref a0) 104 hp ∧ mm_R X d 104 0 (mm_L0 104 [(.ref a0), .int i2]) [] hp (mw_ri (fun x3 hp2 => mw_rc (.ref a0) 105 hp2 ∧ mm_R X d 105 0 (mm_L0 105 [(.ref a0), .int i2]) [] hp2 (mw_ri (fun x6 hp5 => mm_R X (d + 1) 103 13 [some ((.ref a0)), some (r1), some (.int i2), some (.int x3), some (.int x6)] [] hp5 Q))))) : mm_R X (d + 1) 103 0 (mm_L0 103 [(.ref a0), r1, .int i2]) [] hp Q := by
  show mm_R X (d + 1) 103 0 [some ((.ref a0)), some (r1), some (.int i2), none, none] [] hp Q
  obtain ⟨hc1, H⟩ := H
  refine mm_R.cV (pc' := 2) (L' := [some ((.ref a0)), some (r1), some (.int i2), none, none]) (st1 := [.int i2, (.ref a0)]) (as := [.int i2]) (rest := []) 2 rfl rfl (mw_sp rfl rfl (Nat.le_of_ble_eq_true rfl) (mw_ac rfl (mw_ac rfl mw_an)) mw_an) rfl rfl hc1 (H.mono (fun o hp2 H => ?_))
  obtain ⟨x3, rfl, H⟩ := H
  obtain ⟨hc4, H⟩ := H
  refine mm_R.cV (pc' := 8) (L' := [some ((.ref a0)), some (r1), some (.int i2), some (.int x3), none]) (st1 := [.int i2, (.ref a0)]) (as := [.int i2]) (rest := []) 3 rfl rfl (mw_sp rfl rfl (Nat.le_of_ble_eq_true rfl) (mw_ac rfl (mw_ac rfl mw_an)) mw_an) rfl rfl hc4 (H.mono (fun o hp5 H => ?_))
  obtain ⟨x6, rfl, H⟩ := H
  exact mm_R.pn (pc' := 13) (L' := [some ((.ref a0)), some (r1), some (.int i2), some (.int x3), some (.int x6)]) (st' := []) 1 rfl H
-- StepRunner$Job.addWordTo, from 13
set_option maxRecDepth 10000 in
theorem w103_13 {X : List Int32} {d : Nat} {a0 : Nat} {r1 : Value} {i2 : Int32} {i3 : Int32} {i4 : Int32} {hp : mm_H} {Q : Option Value → mm_H → Prop} (H : ((i4 < (0 : Int32) → Q (some (.int (1 : Int32))) hp) ∧ (¬ i4 < (0 : Int32) → ((i3 ≤ i4 → Q (some (.int (1 : Int32))) hp) ∧ (¬ i3 ≤ i4 → mw_gv 9 2 (.ref a0) hp (fun v1 => mw_ln v1 hp (fun x2 => ((x2 ≤ i4 → Q (some (.int (1 : Int32))) hp) ∧ (¬ x2 ≤ i4 → mm_isr r1 = true ∧ mw_gv 9 2 (.ref a0) hp (fun v4 => mw_ai 1001 v4 i4 hp (fun x5 => mw_rc r1 34 hp ∧ mm_R X d 34 0 (mm_L0 34 [r1, .int x5]) [] hp (mw_ri (fun x8 hp7 => ((¬ x8 = (0 : Int32) → mm_R X (d + 1) 103 13 [some ((.ref a0)), some (r1), some (.int i2), some (.int i3), some (.int (i4 + (1 : Int32)))] [] hp7 Q) ∧ (x8 = (0 : Int32) → Q (some (.int (0 : Int32))) hp7))))))))))))))) : mm_R X (d + 1) 103 13 [some ((.ref a0)), some (r1), some (.int i2), some (.int i3), some (.int i4)] [] hp Q := by
  refine mm_R.br (L' := [some ((.ref a0)), some (r1), some (.int i2), some (.int i3), some (.int i4)]) (st' := []) (t := 56) (u := 18) (b := mm_cc .lt i4 (0 : Int32)) 2 rfl (fun c => ?_) (fun c => ?_)
  · replace H := H.1 (of_decide_eq_true c)
    exact mm_R.rt (pc' := 57) (L' := [some ((.ref a0)), some (r1), some (.int i2), some (.int i3), some (.int i4)]) (st1 := [.int (1 : Int32)]) 1 rfl rfl rfl rfl rfl rfl H
  · replace H := H.2 (of_decide_eq_false c)
    refine mm_R.br (L' := [some ((.ref a0)), some (r1), some (.int i2), some (.int i3), some (.int i4)]) (st' := []) (t := 56) (u := 24) (b := mm_cc .ge i4 i3) 3 rfl (fun c => ?_) (fun c => ?_)
    · replace H := H.1 (of_decide_eq_true c)
      exact mm_R.rt (pc' := 57) (L' := [some ((.ref a0)), some (r1), some (.int i2), some (.int i3), some (.int i4)]) (st1 := [.int (1 : Int32)]) 1 rfl rfl rfl rfl rfl rfl H
    · replace H := H.2 (of_decide_eq_false c)
      refine mm_R.wgv (pc' := 27) (L' := [some ((.ref a0)), some (r1), some (.int i2), some (.int i3), some (.int i4)]) (r := [.int i4]) 2 rfl rfl (H.mono (fun v1 H => ?_))
      refine mm_R.wln (pc' := 30) (L' := [some ((.ref a0)), some (r1), some (.int i2), some (.int i3), some (.int i4)]) (r := [.int i4]) 0 rfl rfl (H.mono (fun x2 H => ?_))
      refine mm_R.br (L' := [some ((.ref a0)), some (r1), some (.int i2), some (.int i3), some (.int i4)]) (st' := []) (t := 56) (u := 34) (b := mm_cc .ge i4 x2) 1 rfl (fun c => ?_) (fun c => ?_)
      · replace H := H.1 (of_decide_eq_true c)
        exact mm_R.rt (pc' := 57) (L' := [some ((.ref a0)), some (r1), some (.int i2), some (.int i3), some (.int i4)]) (st1 := [.int (1 : Int32)]) 1 rfl rfl rfl rfl rfl rfl H
      · replace H := H.2 (of_decide_eq_false c)
        obtain ⟨hr3, H⟩ := H
        refine mm_R.al (pc' := 34) (L' := [some ((.ref a0)), some (r1), some (.int i2), some (.int i3), some (.int i4)]) (r := []) (v := r1) 0 rfl rfl rfl rfl hr3 ?_
        refine mm_R.wgv (pc' := 36) (L' := [some ((.ref a0)), some (r1), some (.int i2), some (.int i3), some (.int i4)]) (r := [r1]) 1 rfl rfl (H.mono (fun v4 H => ?_))
        refine mm_R.wai (pc' := 41) (L' := [some ((.ref a0)), some (r1), some (.int i2), some (.int i3), some (.int i4)]) (r := [r1]) (t := 1001) 1 rfl rfl rfl rfl (H.mono (fun x5 H => ?_))
        obtain ⟨hc6, H⟩ := H
        refine mm_R.cV (pc' := 42) (L' := [some ((.ref a0)), some (r1), some (.int i2), some (.int i3), some (.int i4)]) (st1 := [.int x5, r1]) (as := [.int x5]) (rest := []) 0 rfl rfl (mw_sp rfl rfl (Nat.le_of_ble_eq_true rfl) (mw_ac (mw_c1 hc6.isr) (mw_ac rfl mw_an)) mw_an) rfl rfl hc6 (H.mono (fun o hp7 H => ?_))
        obtain ⟨x8, rfl, H⟩ := H
        refine mm_R.br (L' := [some ((.ref a0)), some (r1), some (.int i2), some (.int i3), some (.int i4)]) (st' := []) (t := 50) (u := 48) (b := mm_cc .ne x8 (0 : Int32)) 1 rfl (fun c => ?_) (fun c => ?_)
        · replace H := H.1 (of_decide_eq_true c)
          exact mm_R.pn (pc' := 13) (L' := [some ((.ref a0)), some (r1), some (.int i2), some (.int i3), some (.int (i4 + (1 : Int32)))]) (st' := []) 2 rfl H
        · replace H := H.2 (Decidable.of_not_not (of_decide_eq_false c))
          exact mm_R.rt (pc' := 49) (L' := [some ((.ref a0)), some (r1), some (.int i2), some (.int i3), some (.int i4)]) (st1 := [.int (0 : Int32)]) 1 rfl rfl rfl rfl rfl rfl H
-- StepRunner$Job.wordEnd, from 0
set_option maxRecDepth 10000 in
theorem w104_0 {X : List Int32} {d : Nat} {a0 : Nat} {i1 : Int32} {hp : mm_H} {Q : Option Value → mm_H → Prop} (H : ((i1 < (0 : Int32) → Q (some (.int (0 : Int32))) hp) ∧ (¬ i1 < (0 : Int32) → mw_gi 9 4 (.ref a0) hp (fun x1 => ((x1 ≤ i1 → Q (some (.int (0 : Int32))) hp) ∧ (¬ x1 ≤ i1 → ((i1 < (8 : Int32) → mw_gv 9 3 (.ref a0) hp (fun v2 => mw_ai 1000 v2 i1 hp (fun x3 => Q (some (.int x3)) hp))) ∧ (¬ i1 < (8 : Int32) → Q (some (.int (0 : Int32))) hp)))))))) : mm_R X (d + 1) 104 0 (mm_L0 104 [(.ref a0), .int i1]) [] hp Q := by
  show mm_R X (d + 1) 104 0 [some ((.ref a0)), some (.int i1)] [] hp Q
  refine mm_R.br (L' := [some ((.ref a0)), some (.int i1)]) (st' := []) (t := 18) (u := 4) (b := mm_cc .lt i1 (0 : Int32)) 2 rfl (fun c => ?_) (fun c => ?_)
  · replace H := H.1 (of_decide_eq_true c)
    exact mm_R.rt (pc' := 28) (L' := [some ((.ref a0)), some (.int i1)]) (st1 := [.int (0 : Int32)]) 2 rfl rfl rfl rfl rfl rfl H
  · replace H := H.2 (of_decide_eq_false c)
    refine mm_R.wgi (pc' := 6) (L' := [some ((.ref a0)), some (.int i1)]) (r := [.int i1]) 2 rfl rfl (H.mono (fun x1 H => ?_))
    refine mm_R.br (L' := [some ((.ref a0)), some (.int i1)]) (st' := []) (t := 18) (u := 12) (b := mm_cc .ge i1 x1) 1 rfl (fun c => ?_) (fun c => ?_)
    · replace H := H.1 (of_decide_eq_true c)
      exact mm_R.rt (pc' := 28) (L' := [some ((.ref a0)), some (.int i1)]) (st1 := [.int (0 : Int32)]) 2 rfl rfl rfl rfl rfl rfl H
    · replace H := H.2 (of_decide_eq_false c)
      refine mm_R.br (L' := [some ((.ref a0)), some (.int i1)]) (st' := []) (t := 22) (u := 18) (b := mm_cc .lt i1 (8 : Int32)) 3 rfl (fun c => ?_) (fun c => ?_)
      · replace H := H.1 (of_decide_eq_true c)
        refine mm_R.wgv (pc' := 23) (L' := [some ((.ref a0)), some (.int i1)]) (r := []) 1 rfl rfl (H.mono (fun v2 H => ?_))
        refine mm_R.wai (pc' := 27) (L' := [some ((.ref a0)), some (.int i1)]) (r := []) (t := 1000) 1 rfl rfl rfl rfl (H.mono (fun x3 H => ?_))
        exact mm_R.rt (pc' := 28) (L' := [some ((.ref a0)), some (.int i1)]) (st1 := [.int x3]) 0 rfl rfl rfl rfl rfl rfl H
      · replace H := H.2 (of_decide_eq_false c)
        exact mm_R.rt (pc' := 28) (L' := [some ((.ref a0)), some (.int i1)]) (st1 := [.int (0 : Int32)]) 2 rfl rfl rfl rfl rfl rfl H
-- StepRunner$Job.wordBegin, from 0
set_option maxRecDepth 10000 in
theorem w105_0 {X : List Int32} {d : Nat} {a0 : Nat} {i1 : Int32} {hp : mm_H} {Q : Option Value → mm_H → Prop} (H : ((i1 ≤ (0 : Int32) → Q (some (.int (0 : Int32))) hp) ∧ (¬ i1 ≤ (0 : Int32) → ((i1 ≤ (8 : Int32) → mw_gv 9 3 (.ref a0) hp (fun v1 => mw_ai 1000 v1 (i1 - (1 : Int32)) hp (fun x2 => Q (some (.int x2)) hp))) ∧ (¬ i1 ≤ (8 : Int32) → Q (some (.int (0 : Int32))) hp))))) : mm_R X (d + 1) 105 0 (mm_L0 105 [(.ref a0), .int i1]) [] hp Q := by
  show mm_R X (d + 1) 105 0 [some ((.ref a0)), some (.int i1)] [] hp Q
  refine mm_R.br (L' := [some ((.ref a0)), some (.int i1)]) (st' := []) (t := 10) (u := 4) (b := mm_cc .le i1 (0 : Int32)) 2 rfl (fun c => ?_) (fun c => ?_)
  · replace H := H.1 (of_decide_eq_true c)
    exact mm_R.rt (pc' := 22) (L' := [some ((.ref a0)), some (.int i1)]) (st1 := [.int (0 : Int32)]) 2 rfl rfl rfl rfl rfl rfl H
  · replace H := H.2 (of_decide_eq_false c)
    refine mm_R.br (L' := [some ((.ref a0)), some (.int i1)]) (st' := []) (t := 14) (u := 10) (b := mm_cc .le i1 (8 : Int32)) 3 rfl (fun c => ?_) (fun c => ?_)
    · replace H := H.1 (of_decide_eq_true c)
      refine mm_R.wgv (pc' := 15) (L' := [some ((.ref a0)), some (.int i1)]) (r := []) 1 rfl rfl (H.mono (fun v1 H => ?_))
      refine mm_R.wai (pc' := 21) (L' := [some ((.ref a0)), some (.int i1)]) (r := []) (t := 1000) 3 rfl rfl rfl rfl (H.mono (fun x2 H => ?_))
      exact mm_R.rt (pc' := 22) (L' := [some ((.ref a0)), some (.int i1)]) (st1 := [.int x2]) 0 rfl rfl rfl rfl rfl rfl H
    · replace H := H.2 (of_decide_eq_false c)
      exact mm_R.rt (pc' := 22) (L' := [some ((.ref a0)), some (.int i1)]) (st1 := [.int (0 : Int32)]) 2 rfl rfl rfl rfl rfl rfl H
-- StepRunner$Job.sumWords, from 0
set_option maxRecDepth 10000 in
theorem w106_0 {X : List Int32} {d : Nat} {a0 : Nat} {hp : mm_H} {Q : Option Value → mm_H → Prop} (H : mm_R X (d + 1) 106 4 [some ((.ref a0)), some (.int (0 : Int32)), some (.int (0 : Int32)), none] [] hp Q) : mm_R X (d + 1) 106 0 (mm_L0 106 [(.ref a0)]) [] hp Q := by
  show mm_R X (d + 1) 106 0 [some ((.ref a0)), none, none, none] [] hp Q
  exact mm_R.pn (pc' := 4) (L' := [some ((.ref a0)), some (.int (0 : Int32)), some (.int (0 : Int32)), none]) (st' := []) 4 rfl H
-- StepRunner$Job.sumWords, from 4
set_option maxRecDepth 10000 in
theorem w106_4 {X : List Int32} {d : Nat} {a0 : Nat} {i1 : Int32} {i2 : Int32} {o3 : Option Value} {hp : mm_H} {Q : Option Value → mm_H → Prop} (H : mw_gi 9 4 (.ref a0) hp (fun x1 => ((x1 ≤ i2 → mm_R X d 39 0 (mm_L0 39 [.int i1]) [] hp (mw_rv (fun v3 hp2 => mw_nr v3 ∧ Q (some v3) hp2))) ∧ (¬ x1 ≤ i2 → mw_gv 9 2 (.ref a0) hp (fun v4 => mw_rc (.ref a0) 105 hp ∧ mm_isr v4 = true ∧ mm_R X d 105 0 (mm_L0 105 [(.ref a0), .int i2]) [] hp (mw_ri (fun x8 hp7 => mw_rc (.ref a0) 104 hp7 ∧ mm_R X d 104 0 (mm_L0 104 [(.ref a0), .int i2]) [] hp7 (mw_ri (fun x11 hp10 => mm_R X d 38 0 (mm_L0 38 [v4, .int x8, .int x11]) [] hp10 (mw_ri (fun x13 hp12 => ((¬ x13 = (-1000000 : Int32) → mm_R X (d + 1) 106 4 [some ((.ref a0)), some (.int (i1 + x13)), some (.int (i2 + (1 : Int32))), some (.int x13)] [] hp12 Q) ∧ (x13 = (-1000000 : Int32) → Q (some .null) hp12))))))))))))) : mm_R X (d + 1) 106 4 [some ((.ref a0)), some (.int i1), some (.int i2), o3] [] hp Q := by
  refine mm_R.wgi (pc' := 6) (L' := [some ((.ref a0)), some (.int i1), some (.int i2), o3]) (r := [.int i2]) 2 rfl rfl (H.mono (fun x1 H => ?_))
  refine mm_R.br (L' := [some ((.ref a0)), some (.int i1), some (.int i2), o3]) (st' := []) (t := 48) (u := 12) (b := mm_cc .ge i2 x1) 1 rfl (fun c => ?_) (fun c => ?_)
  · replace H := H.1 (of_decide_eq_true c)
    refine mm_R.cS (pc' := 49) (L' := [some ((.ref a0)), some (.int i1), some (.int i2), o3]) (st1 := [.int i1]) (as := [.int i1]) (rest := []) 1 rfl rfl (mw_sp rfl rfl (Nat.le_of_ble_eq_true rfl) (mw_ac rfl mw_an) mw_an) rfl rfl (H.mono (fun o hp2 H => ?_))
    obtain ⟨v3, rfl, H⟩ := H
    exact mm_R.rt (pc' := 52) (L' := [some ((.ref a0)), some (.int i1), some (.int i2), o3]) (st1 := [v3]) 0 rfl rfl rfl rfl rfl (mw_rva (ty := (.object "StepRunner$Value")) H.1 rfl) H.2
  · replace H := H.2 (of_decide_eq_false c)
    refine mm_R.wgv (pc' := 13) (L' := [some ((.ref a0)), some (.int i1), some (.int i2), o3]) (r := []) 1 rfl rfl (H.mono (fun v4 H => ?_))
    obtain ⟨hc5, H⟩ := H
    obtain ⟨hr6, H⟩ := H
    refine mm_R.cV (pc' := 18) (L' := [some ((.ref a0)), some (.int i1), some (.int i2), o3]) (st1 := [.int i2, (.ref a0), v4]) (as := [.int i2]) (rest := [v4]) 2 rfl rfl (mw_sp rfl rfl (Nat.le_of_ble_eq_true rfl) (mw_ac rfl (mw_ac rfl mw_an)) (mw_ac (mw_c1 hr6) mw_an)) rfl rfl hc5 (H.mono (fun o hp7 H => ?_))
    obtain ⟨x8, rfl, H⟩ := H
    obtain ⟨hc9, H⟩ := H
    refine mm_R.cV (pc' := 23) (L' := [some ((.ref a0)), some (.int i1), some (.int i2), o3]) (st1 := [.int i2, (.ref a0), .int x8, v4]) (as := [.int i2]) (rest := [.int x8, v4]) 2 rfl rfl (mw_sp rfl rfl (Nat.le_of_ble_eq_true rfl) (mw_ac rfl (mw_ac rfl mw_an)) (mw_ac rfl (mw_ac (mw_c1 hr6) mw_an))) rfl rfl hc9 (H.mono (fun o hp10 H => ?_))
    obtain ⟨x11, rfl, H⟩ := H
    refine mm_R.cS (pc' := 26) (L' := [some ((.ref a0)), some (.int i1), some (.int i2), o3]) (st1 := [.int x11, .int x8, v4]) (as := [v4, .int x8, .int x11]) (rest := []) 0 rfl rfl (mw_sp rfl rfl (Nat.le_of_ble_eq_true rfl) (mw_ac (mw_c1 hr6) (mw_ac rfl (mw_ac rfl mw_an))) mw_an) rfl rfl (H.mono (fun o hp12 H => ?_))
    obtain ⟨x13, rfl, H⟩ := H
    refine mm_R.br (L' := [some ((.ref a0)), some (.int i1), some (.int i2), some (.int x13)]) (st' := []) (t := 38) (u := 36) (b := mm_cc .ne x13 (-1000000 : Int32)) 4 rfl (fun c => ?_) (fun c => ?_)
    · replace H := H.1 (of_decide_eq_true c)
      exact mm_R.pn (pc' := 4) (L' := [some ((.ref a0)), some (.int (i1 + x13)), some (.int (i2 + (1 : Int32))), some (.int x13)]) (st' := []) 6 rfl H
    · replace H := H.2 (Decidable.of_not_not (of_decide_eq_false c))
      exact mm_R.rt (pc' := 37) (L' := [some ((.ref a0)), some (.int i1), some (.int i2), some (.int x13)]) (st1 := [.null]) 1 rfl rfl rfl rfl rfl rfl H
-- StepRunner$Job.listWords, from 0
set_option maxRecDepth 10000 in
theorem w107_0 {X : List Int32} {d : Nat} {a0 : Nat} {hp : mm_H} {Q : Option Value → mm_H → Prop} (H : mw_gi 9 4 (.ref a0) hp (fun x1 => mm_R X d 9 0 (mm_L0 9 [.int x1]) [] hp (mw_rv (fun v3 hp2 => mm_isr v3 = true ∧ mm_R X (d + 1) 107 10 [some ((.ref a0)), some (v3), some (.int (0 : Int32)), none] [] hp2 Q)))) : mm_R X (d + 1) 107 0 (mm_L0 107 [(.ref a0)]) [] hp Q := by
  show mm_R X (d + 1) 107 0 [some ((.ref a0)), none, none, none] [] hp Q
  refine mm_R.wgi (pc' := 1) (L' := [some ((.ref a0)), none, none, none]) (r := []) 1 rfl rfl (H.mono (fun x1 H => ?_))
  refine mm_R.cS (pc' := 4) (L' := [some ((.ref a0)), none, none, none]) (st1 := [.int x1]) (as := [.int x1]) (rest := []) 0 rfl rfl (mw_sp rfl rfl (Nat.le_of_ble_eq_true rfl) (mw_ac rfl mw_an) mw_an) rfl rfl (H.mono (fun o hp2 H => ?_))
  obtain ⟨v3, rfl, H⟩ := H
  obtain ⟨hr4, H⟩ := H
  refine mm_R.as (pc' := 7) (L' := [some ((.ref a0)), none, none, none]) (r := []) (v := v3) 0 rfl rfl rfl rfl hr4 ?_
  exact mm_R.pn (pc' := 10) (L' := [some ((.ref a0)), some (v3), some (.int (0 : Int32)), none]) (st' := []) 2 rfl H
-- StepRunner$Job.listWords, from 10
set_option maxRecDepth 10000 in
theorem w107_10 {X : List Int32} {d : Nat} {a0 : Nat} {r1 : Value} {i2 : Int32} {o3 : Option Value} {hp : mm_H} {Q : Option Value → mm_H → Prop} (H : mw_gi 9 4 (.ref a0) hp (fun x1 => ((x1 ≤ i2 → mm_isr r1 = true ∧ mw_nr r1 ∧ Q (some r1) hp) ∧ (¬ x1 ≤ i2 → mw_rc (.ref a0) 104 hp ∧ mm_R X d 104 0 (mm_L0 104 [(.ref a0), .int i2]) [] hp (mw_ri (fun x5 hp4 => mw_rc (.ref a0) 105 hp4 ∧ mm_R X d 105 0 (mm_L0 105 [(.ref a0), .int i2]) [] hp4 (mw_ri (fun x8 hp7 => mm_R X d 7 0 (mm_L0 7 [.int (x5 - x8)]) [] hp7 (mw_rv (fun v10 hp9 => mm_isr v10 = true ∧ mw_rc (.ref a0) 103 hp9 ∧ mm_R X d 103 0 (mm_L0 103 [(.ref a0), v10, .int i2]) [] hp9 (mw_ri (fun x14 hp13 => ((x14 = (0 : Int32) → Q (some .null) hp13) ∧ (¬ x14 = (0 : Int32) → mm_isr r1 = true ∧ mw_rc r1 32 hp13 ∧ mm_R X d 32 0 (mm_L0 32 [r1, v10]) [] hp13 (mw_ri (fun x18 hp17 => ((¬ x18 = (0 : Int32) → mm_R X (d + 1) 107 10 [some ((.ref a0)), some (r1), some (.int (i2 + (1 : Int32))), some (v10)] [] hp17 Q) ∧ (x18 = (0 : Int32) → Q (some .null) hp17)))))))))))))))))) : mm_R X (d + 1) 107 10 [some ((.ref a0)), some (r1), some (.int i2), o3] [] hp Q := by
  refine mm_R.wgi (pc' := 12) (L' := [some ((.ref a0)), some (r1), some (.int i2), o3]) (r := [.int i2]) 2 rfl rfl (H.mono (fun x1 H => ?_))
  refine mm_R.br (L' := [some ((.ref a0)), some (r1), some (.int i2), o3]) (st' := []) (t := 58) (u := 18) (b := mm_cc .ge i2 x1) 1 rfl (fun c => ?_) (fun c => ?_)
  · replace H := H.1 (of_decide_eq_true c)
    obtain ⟨hr2, H⟩ := H
    refine mm_R.al (pc' := 58) (L' := [some ((.ref a0)), some (r1), some (.int i2), o3]) (r := []) (v := r1) 0 rfl rfl rfl rfl hr2 ?_
    exact mm_R.rt (pc' := 59) (L' := [some ((.ref a0)), some (r1), some (.int i2), o3]) (st1 := [r1]) 0 rfl rfl rfl rfl rfl (mw_rva (ty := (.object "StepRunner$Value")) H.1 rfl) H.2
  · replace H := H.2 (of_decide_eq_false c)
    obtain ⟨hc3, H⟩ := H
    refine mm_R.cV (pc' := 20) (L' := [some ((.ref a0)), some (r1), some (.int i2), o3]) (st1 := [.int i2, (.ref a0)]) (as := [.int i2]) (rest := []) 2 rfl rfl (mw_sp rfl rfl (Nat.le_of_ble_eq_true rfl) (mw_ac rfl (mw_ac rfl mw_an)) mw_an) rfl rfl hc3 (H.mono (fun o hp4 H => ?_))
    obtain ⟨x5, rfl, H⟩ := H
    obtain ⟨hc6, H⟩ := H
    refine mm_R.cV (pc' := 25) (L' := [some ((.ref a0)), some (r1), some (.int i2), o3]) (st1 := [.int i2, (.ref a0), .int x5]) (as := [.int i2]) (rest := [.int x5]) 2 rfl rfl (mw_sp rfl rfl (Nat.le_of_ble_eq_true rfl) (mw_ac rfl (mw_ac rfl mw_an)) (mw_ac rfl mw_an)) rfl rfl hc6 (H.mono (fun o hp7 H => ?_))
    obtain ⟨x8, rfl, H⟩ := H
    refine mm_R.cS (pc' := 29) (L' := [some ((.ref a0)), some (r1), some (.int i2), o3]) (st1 := [.int (x5 - x8)]) (as := [.int (x5 - x8)]) (rest := []) 1 rfl rfl (mw_sp rfl rfl (Nat.le_of_ble_eq_true rfl) (mw_ac rfl mw_an) mw_an) rfl rfl (H.mono (fun o hp9 H => ?_))
    obtain ⟨v10, rfl, H⟩ := H
    obtain ⟨hr11, H⟩ := H
    refine mm_R.as (pc' := 32) (L' := [some ((.ref a0)), some (r1), some (.int i2), o3]) (r := []) (v := v10) 0 rfl rfl rfl rfl hr11 ?_
    refine mm_R.al (pc' := 34) (L' := [some ((.ref a0)), some (r1), some (.int i2), some (v10)]) (r := [(.ref a0)]) (v := v10) 1 rfl rfl rfl rfl hr11 ?_
    obtain ⟨hc12, H⟩ := H
    refine mm_R.cV (pc' := 36) (L' := [some ((.ref a0)), some (r1), some (.int i2), some (v10)]) (st1 := [.int i2, v10, (.ref a0)]) (as := [v10, .int i2]) (rest := []) 1 rfl rfl (mw_sp rfl rfl (Nat.le_of_ble_eq_true rfl) (mw_ac rfl (mw_ac (mw_c1 hr11) (mw_ac rfl mw_an))) mw_an) rfl rfl hc12 (H.mono (fun o hp13 H => ?_))
    obtain ⟨x14, rfl, H⟩ := H
    refine mm_R.br (L' := [some ((.ref a0)), some (r1), some (.int i2), some (v10)]) (st' := []) (t := 50) (u := 42) (b := mm_cc .eq x14 (0 : Int32)) 1 rfl (fun c => ?_) (fun c => ?_)
    · replace H := H.1 (of_decide_eq_true c)
      exact mm_R.rt (pc' := 51) (L' := [some ((.ref a0)), some (r1), some (.int i2), some (v10)]) (st1 := [.null]) 1 rfl rfl rfl rfl rfl rfl H
    · replace H := H.2 (of_decide_eq_false c)
      obtain ⟨hr15, H⟩ := H
      refine mm_R.al (pc' := 42) (L' := [some ((.ref a0)), some (r1), some (.int i2), some (v10)]) (r := []) (v := r1) 0 rfl rfl rfl rfl hr15 ?_
      refine mm_R.al (pc' := 43) (L' := [some ((.ref a0)), some (r1), some (.int i2), some (v10)]) (r := [r1]) (v := v10) 0 rfl rfl rfl rfl hr11 ?_
      obtain ⟨hc16, H⟩ := H
      refine mm_R.cV (pc' := 44) (L' := [some ((.ref a0)), some (r1), some (.int i2), some (v10)]) (st1 := [v10, r1]) (as := [v10]) (rest := []) 0 rfl rfl (mw_sp rfl rfl (Nat.le_of_ble_eq_true rfl) (mw_ac (mw_c1 hc16.isr) (mw_ac (mw_c1 hr11) mw_an)) mw_an) rfl rfl hc16 (H.mono (fun o hp17 H => ?_))
      obtain ⟨x18, rfl, H⟩ := H
      refine mm_R.br (L' := [some ((.ref a0)), some (r1), some (.int i2), some (v10)]) (st' := []) (t := 52) (u := 50) (b := mm_cc .ne x18 (0 : Int32)) 1 rfl (fun c => ?_) (fun c => ?_)
      · replace H := H.1 (of_decide_eq_true c)
        exact mm_R.pn (pc' := 10) (L' := [some ((.ref a0)), some (r1), some (.int (i2 + (1 : Int32))), some (v10)]) (st' := []) 2 rfl H
      · replace H := H.2 (Decidable.of_not_not (of_decide_eq_false c))
        exact mm_R.rt (pc' := 51) (L' := [some ((.ref a0)), some (r1), some (.int i2), some (v10)]) (st1 := [.null]) 1 rfl rfl rfl rfl rfl rfl H
-- StepRunner$Progress.keepResult, from 0
set_option maxRecDepth 10000 in
theorem w108_0 {X : List Int32} {d : Nat} {a0 : Nat} {i1 : Int32} {r2 : Value} {hp : mm_H} {Q : Option Value → mm_H → Prop} (H : ((i1 < (0 : Int32) → Q none hp) ∧ (¬ i1 < (0 : Int32) → (((16 : Int32) ≤ i1 → Q none hp) ∧ (¬ (16 : Int32) ≤ i1 → mw_gv 5 2 (.ref a0) hp (fun v1 => mw_av v1 i1 hp (fun v2 => mw_nl v2 (mw_gv 5 2 (.ref a0) hp (fun v3 => mm_isr r2 = true ∧ mw_sv v3 i1 r2 hp (fun hp5 => mw_gi 5 7 (.ref a0) hp5 (fun x6 => mw_pt 5 7 (.ref a0) (.int (x6 - (1 : Int32))) hp5 (fun hp7 => Q none hp7))))) (Q none hp)))))))) : mm_R X (d + 1) 108 0 (mm_L0 108 [(.ref a0), .int i1, r2]) [] hp Q := by
  show mm_R X (d + 1) 108 0 [some ((.ref a0)), some (.int i1), some (r2)] [] hp Q
  refine mm_R.br (L' := [some ((.ref a0)), some (.int i1), some (r2)]) (st' := []) (t := 36) (u := 4) (b := mm_cc .lt i1 (0 : Int32)) 2 rfl (fun c => ?_) (fun c => ?_)
  · replace H := H.1 (of_decide_eq_true c)
    exact mm_R.rt (pc' := 36) (L' := [some ((.ref a0)), some (.int i1), some (r2)]) (st1 := []) 0 rfl rfl rfl rfl rfl rfl H
  · replace H := H.2 (of_decide_eq_false c)
    refine mm_R.br (L' := [some ((.ref a0)), some (.int i1), some (r2)]) (st' := []) (t := 36) (u := 10) (b := mm_cc .ge i1 (16 : Int32)) 3 rfl (fun c => ?_) (fun c => ?_)
    · replace H := H.1 (of_decide_eq_true c)
      exact mm_R.rt (pc' := 36) (L' := [some ((.ref a0)), some (.int i1), some (r2)]) (st1 := []) 0 rfl rfl rfl rfl rfl rfl H
    · replace H := H.2 (of_decide_eq_false c)
      refine mm_R.wgv (pc' := 11) (L' := [some ((.ref a0)), some (.int i1), some (r2)]) (r := []) 1 rfl rfl (H.mono (fun v1 H => ?_))
      refine mm_R.wav (pc' := 15) (L' := [some ((.ref a0)), some (.int i1), some (r2)]) (r := []) 1 rfl rfl (H.mono (fun v2 H => ?_))
      refine mm_R.wnl (pc' := 16) (L' := [some ((.ref a0)), some (.int i1), some (r2)]) (r := []) (v := v2) (t := 19) (u := 36) 0 rfl rfl rfl (H.mono (fun H => ?_) (fun H => ?_))
      · refine mm_R.wgv (pc' := 20) (L' := [some ((.ref a0)), some (.int i1), some (r2)]) (r := []) 1 rfl rfl (H.mono (fun v3 H => ?_))
        obtain ⟨hr4, H⟩ := H
        refine mm_R.al (pc' := 24) (L' := [some ((.ref a0)), some (.int i1), some (r2)]) (r := [.int i1, v3]) (v := r2) 1 rfl rfl rfl rfl hr4 ?_
        refine mm_R.wsv (pc' := 25) (L' := [some ((.ref a0)), some (.int i1), some (r2)]) (r := []) 0 rfl rfl (H.mono (fun hp5 H => ?_))
        refine mm_R.wgi (pc' := 28) (L' := [some ((.ref a0)), some (.int i1), some (r2)]) (r := [(.ref a0)]) 2 rfl rfl (H.mono (fun x6 H => ?_))
        refine mm_R.wpt (pc' := 33) (L' := [some ((.ref a0)), some (.int i1), some (r2)]) (r := []) 2 rfl rfl (H.mono (fun hp7 H => ?_))
        exact mm_R.rt (pc' := 36) (L' := [some ((.ref a0)), some (.int i1), some (r2)]) (st1 := []) 0 rfl rfl rfl rfl rfl rfl H
      · exact mm_R.rt (pc' := 36) (L' := [some ((.ref a0)), some (.int i1), some (r2)]) (st1 := []) 0 rfl rfl rfl rfl rfl rfl H
-- StepRunner.status, from 0
set_option maxRecDepth 10000 in
theorem w109_0 {X : List Int32} {d : Nat} {a0 : Nat} {hp : mm_H} {Q : Option Value → mm_H → Prop} (H : mw_gv 0 6 (.ref a0) hp (fun v1 => mw_gi 3 10 v1 hp (fun x2 => Q (some (.int x2)) hp))) : mm_R X (d + 1) 109 0 (mm_L0 109 [(.ref a0)]) [] hp Q := by
  show mm_R X (d + 1) 109 0 [some ((.ref a0))] [] hp Q
  refine mm_R.wgv (pc' := 1) (L' := [some ((.ref a0))]) (r := []) 1 rfl rfl (H.mono (fun v1 H => ?_))
  refine mm_R.wgi (pc' := 4) (L' := [some ((.ref a0))]) (r := []) 0 rfl rfl (H.mono (fun x2 H => ?_))
  exact mm_R.rt (pc' := 7) (L' := [some ((.ref a0))]) (st1 := [.int x2]) 0 rfl rfl rfl rfl rfl rfl H
-- StepRunner.running, from 0
set_option maxRecDepth 10000 in
theorem w110_0 {X : List Int32} {d : Nat} {a0 : Nat} {hp : mm_H} {Q : Option Value → mm_H → Prop} (H : mw_gv 0 6 (.ref a0) hp (fun v1 => mw_gi 3 3 v1 hp (fun x2 => Q (some (.int x2)) hp))) : mm_R X (d + 1) 110 0 (mm_L0 110 [(.ref a0)]) [] hp Q := by
  show mm_R X (d + 1) 110 0 [some ((.ref a0))] [] hp Q
  refine mm_R.wgv (pc' := 1) (L' := [some ((.ref a0))]) (r := []) 1 rfl rfl (H.mono (fun v1 H => ?_))
  refine mm_R.wgi (pc' := 4) (L' := [some ((.ref a0))]) (r := []) 0 rfl rfl (H.mono (fun x2 H => ?_))
  exact mm_R.rt (pc' := 7) (L' := [some ((.ref a0))]) (st1 := [.int x2]) 0 rfl rfl rfl rfl rfl rfl H
-- StepRunner.started, from 0
set_option maxRecDepth 10000 in
theorem w111_0 {X : List Int32} {d : Nat} {a0 : Nat} {hp : mm_H} {Q : Option Value → mm_H → Prop} (H : mw_gv 0 6 (.ref a0) hp (fun v1 => mw_gi 3 4 v1 hp (fun x2 => Q (some (.int x2)) hp))) : mm_R X (d + 1) 111 0 (mm_L0 111 [(.ref a0)]) [] hp Q := by
  show mm_R X (d + 1) 111 0 [some ((.ref a0))] [] hp Q
  refine mm_R.wgv (pc' := 1) (L' := [some ((.ref a0))]) (r := []) 1 rfl rfl (H.mono (fun v1 H => ?_))
  refine mm_R.wgi (pc' := 4) (L' := [some ((.ref a0))]) (r := []) 0 rfl rfl (H.mono (fun x2 H => ?_))
  exact mm_R.rt (pc' := 7) (L' := [some ((.ref a0))]) (st1 := [.int x2]) 0 rfl rfl rfl rfl rfl rfl H
-- StepRunner.job, from 0
set_option maxRecDepth 10000 in
theorem w112_0 {X : List Int32} {d : Nat} {a0 : Nat} {i1 : Int32} {i2 : Int32} {hp : mm_H} {Q : Option Value → mm_H → Prop} (H : mw_gv 0 6 (.ref a0) hp (fun v1 => mw_rc v1 100 hp ∧ mm_R X d 100 0 (mm_L0 100 [v1, .int i1]) [] hp (mw_rv (fun v4 hp3 => mm_isr v4 = true ∧ mw_nl v4 (Q (some (.int (-1 : Int32))) hp3) ((((i2.toInt < 0 ∨ 2 < i2.toInt) → Q (some (.int (-1 : Int32))) hp3) ∧ (i2.toInt = 0 → mw_gi 9 0 v4 hp3 (fun x6 => Q (some (.int x6)) hp3)) ∧ (i2.toInt = 1 → mw_gi 9 1 v4 hp3 (fun x7 => Q (some (.int x7)) hp3)) ∧ (i2.toInt = 2 → mw_gi 9 4 v4 hp3 (fun x8 => Q (some (.int x8)) hp3)))))))) : mm_R X (d + 1) 112 0 (mm_L0 112 [(.ref a0), .int i1, .int i2]) [] hp Q := by
  show mm_R X (d + 1) 112 0 [some ((.ref a0)), some (.int i1), some (.int i2), none] [] hp Q
  refine mm_R.wgv (pc' := 1) (L' := [some ((.ref a0)), some (.int i1), some (.int i2), none]) (r := []) 1 rfl rfl (H.mono (fun v1 H => ?_))
  obtain ⟨hc2, H⟩ := H
  refine mm_R.cV (pc' := 5) (L' := [some ((.ref a0)), some (.int i1), some (.int i2), none]) (st1 := [.int i1, v1]) (as := [.int i1]) (rest := []) 1 rfl rfl (mw_sp rfl rfl (Nat.le_of_ble_eq_true rfl) (mw_ac (mw_c1 hc2.isr) (mw_ac rfl mw_an)) mw_an) rfl rfl hc2 (H.mono (fun o hp3 H => ?_))
  obtain ⟨v4, rfl, H⟩ := H
  obtain ⟨hr5, H⟩ := H
  refine mm_R.as (pc' := 8) (L' := [some ((.ref a0)), some (.int i1), some (.int i2), none]) (r := []) (v := v4) 0 rfl rfl rfl rfl hr5 ?_
  refine mm_R.al (pc' := 9) (L' := [some ((.ref a0)), some (.int i1), some (.int i2), some (v4)]) (r := []) (v := v4) 0 rfl rfl rfl rfl hr5 ?_
  refine mm_R.wnl (pc' := 10) (L' := [some ((.ref a0)), some (.int i1), some (.int i2), some (v4)]) (r := []) (v := v4) (t := 13) (u := 15) 0 rfl rfl rfl (H.mono (fun H => ?_) (fun H => ?_))
  · exact mm_R.rt (pc' := 14) (L' := [some ((.ref a0)), some (.int i1), some (.int i2), some (v4)]) (st1 := [.int (-1 : Int32)]) 1 rfl rfl rfl rfl rfl rfl H
  · by_cases c : i2.toInt < 0 ∨ 2 < i2.toInt
    · refine mm_R.swD (pc' := 16) (L' := [some ((.ref a0)), some (.int i1), some (.int i2), some (v4)]) (r := []) (t := 59) 1 rfl rfl c rfl ?_
      replace H := H.1 c
      exact mm_R.rt (pc' := 60) (L' := [some ((.ref a0)), some (.int i1), some (.int i2), some (v4)]) (st1 := [.int (-1 : Int32)]) 1 rfl rfl rfl rfl rfl rfl H
    · replace H := H.2
      have c2 : i2.toInt = 0 ∨ i2.toInt = 1 ∨ i2.toInt = 2 := by omega
      rcases c2 with c2 | c2 | c2
      · refine mm_R.swI (pc' := 16) (L' := [some ((.ref a0)), some (.int i1), some (.int i2), some (v4)]) (r := []) (t := 44) 1 rfl rfl c (i := 0) c2 rfl rfl ?_
        replace H := H.1 c2
        refine mm_R.al (pc' := 44) (L' := [some ((.ref a0)), some (.int i1), some (.int i2), some (v4)]) (r := []) (v := v4) 0 rfl rfl rfl rfl hr5 ?_
        refine mm_R.wgi (pc' := 45) (L' := [some ((.ref a0)), some (.int i1), some (.int i2), some (v4)]) (r := []) 0 rfl rfl (H.mono (fun x6 H => ?_))
        exact mm_R.rt (pc' := 48) (L' := [some ((.ref a0)), some (.int i1), some (.int i2), some (v4)]) (st1 := [.int x6]) 0 rfl rfl rfl rfl rfl rfl H
      · refine mm_R.swI (pc' := 16) (L' := [some ((.ref a0)), some (.int i1), some (.int i2), some (v4)]) (r := []) (t := 49) 1 rfl rfl c (i := 1) c2 rfl rfl ?_
        replace H := H.2.1 c2
        refine mm_R.al (pc' := 49) (L' := [some ((.ref a0)), some (.int i1), some (.int i2), some (v4)]) (r := []) (v := v4) 0 rfl rfl rfl rfl hr5 ?_
        refine mm_R.wgi (pc' := 50) (L' := [some ((.ref a0)), some (.int i1), some (.int i2), some (v4)]) (r := []) 0 rfl rfl (H.mono (fun x7 H => ?_))
        exact mm_R.rt (pc' := 53) (L' := [some ((.ref a0)), some (.int i1), some (.int i2), some (v4)]) (st1 := [.int x7]) 0 rfl rfl rfl rfl rfl rfl H
      · refine mm_R.swI (pc' := 16) (L' := [some ((.ref a0)), some (.int i1), some (.int i2), some (v4)]) (r := []) (t := 54) 1 rfl rfl c (i := 2) c2 rfl rfl ?_
        replace H := H.2.2 c2
        refine mm_R.al (pc' := 54) (L' := [some ((.ref a0)), some (.int i1), some (.int i2), some (v4)]) (r := []) (v := v4) 0 rfl rfl rfl rfl hr5 ?_
        refine mm_R.wgi (pc' := 55) (L' := [some ((.ref a0)), some (.int i1), some (.int i2), some (v4)]) (r := []) 0 rfl rfl (H.mono (fun x8 H => ?_))
        exact mm_R.rt (pc' := 58) (L' := [some ((.ref a0)), some (.int i1), some (.int i2), some (v4)]) (st1 := [.int x8]) 0 rfl rfl rfl rfl rfl rfl H
-- StepRunner.word, from 0
set_option maxRecDepth 10000 in
theorem w113_0 {X : List Int32} {d : Nat} {a0 : Nat} {i1 : Int32} {i2 : Int32} {i3 : Int32} {hp : mm_H} {Q : Option Value → mm_H → Prop} (H : mw_gv 0 6 (.ref a0) hp (fun v1 => mw_rc v1 100 hp ∧ mm_R X d 100 0 (mm_L0 100 [v1, .int i1]) [] hp (mw_rv (fun v4 hp3 => mm_isr v4 = true ∧ mw_nl v4 (Q (some (.int (-1 : Int32))) hp3) (mw_rc v4 114 hp3 ∧ mm_R X d 114 0 (mm_L0 114 [v4, .int i2, .int i3]) [] hp3 (mw_ri (fun x8 hp7 => Q (some (.int x8)) hp7))))))) : mm_R X (d + 1) 113 0 (mm_L0 113 [(.ref a0), .int i1, .int i2, .int i3]) [] hp Q := by
  show mm_R X (d + 1) 113 0 [some ((.ref a0)), some (.int i1), some (.int i2), some (.int i3), none] [] hp Q
  refine mm_R.wgv (pc' := 1) (L' := [some ((.ref a0)), some (.int i1), some (.int i2), some (.int i3), none]) (r := []) 1 rfl rfl (H.mono (fun v1 H => ?_))
  obtain ⟨hc2, H⟩ := H
  refine mm_R.cV (pc' := 5) (L' := [some ((.ref a0)), some (.int i1), some (.int i2), some (.int i3), none]) (st1 := [.int i1, v1]) (as := [.int i1]) (rest := []) 1 rfl rfl (mw_sp rfl rfl (Nat.le_of_ble_eq_true rfl) (mw_ac (mw_c1 hc2.isr) (mw_ac rfl mw_an)) mw_an) rfl rfl hc2 (H.mono (fun o hp3 H => ?_))
  obtain ⟨v4, rfl, H⟩ := H
  obtain ⟨hr5, H⟩ := H
  refine mm_R.as (pc' := 8) (L' := [some ((.ref a0)), some (.int i1), some (.int i2), some (.int i3), none]) (r := []) (v := v4) 0 rfl rfl rfl rfl hr5 ?_
  refine mm_R.al (pc' := 10) (L' := [some ((.ref a0)), some (.int i1), some (.int i2), some (.int i3), some (v4)]) (r := []) (v := v4) 0 rfl rfl rfl rfl hr5 ?_
  refine mm_R.wnl (pc' := 12) (L' := [some ((.ref a0)), some (.int i1), some (.int i2), some (.int i3), some (v4)]) (r := []) (v := v4) (t := 15) (u := 19) 0 rfl rfl rfl (H.mono (fun H => ?_) (fun H => ?_))
  · exact mm_R.rt (pc' := 26) (L' := [some ((.ref a0)), some (.int i1), some (.int i2), some (.int i3), some (v4)]) (st1 := [.int (-1 : Int32)]) 2 rfl rfl rfl rfl rfl rfl H
  · refine mm_R.al (pc' := 19) (L' := [some ((.ref a0)), some (.int i1), some (.int i2), some (.int i3), some (v4)]) (r := []) (v := v4) 0 rfl rfl rfl rfl hr5 ?_
    obtain ⟨hc6, H⟩ := H
    refine mm_R.cV (pc' := 23) (L' := [some ((.ref a0)), some (.int i1), some (.int i2), some (.int i3), some (v4)]) (st1 := [.int i3, .int i2, v4]) (as := [.int i2, .int i3]) (rest := []) 2 rfl rfl (mw_sp rfl rfl (Nat.le_of_ble_eq_true rfl) (mw_ac (mw_c1 hc6.isr) (mw_ac rfl (mw_ac rfl mw_an))) mw_an) rfl rfl hc6 (H.mono (fun o hp7 H => ?_))
    obtain ⟨x8, rfl, H⟩ := H
    exact mm_R.rt (pc' := 26) (L' := [some ((.ref a0)), some (.int i1), some (.int i2), some (.int i3), some (v4)]) (st1 := [.int x8]) 0 rfl rfl rfl rfl rfl rfl H
-- StepRunner$Job.letterAt, from 0
set_option maxRecDepth 10000 in
theorem w114_0 {X : List Int32} {d : Nat} {a0 : Nat} {i1 : Int32} {i2 : Int32} {hp : mm_H} {Q : Option Value → mm_H → Prop} (H : ((i1 < (0 : Int32) → Q (some (.int (-1 : Int32))) hp) ∧ (¬ i1 < (0 : Int32) → mw_gi 9 4 (.ref a0) hp (fun x1 => ((x1 ≤ i1 → Q (some (.int (-1 : Int32))) hp) ∧ (¬ x1 ≤ i1 → ((i2 < (0 : Int32) → Q (some (.int (-1 : Int32))) hp) ∧ (¬ i2 < (0 : Int32) → mw_rc (.ref a0) 104 hp ∧ mm_R X d 104 0 (mm_L0 104 [(.ref a0), .int i1]) [] hp (mw_ri (fun x4 hp3 => mw_rc (.ref a0) 105 hp3 ∧ mm_R X d 105 0 (mm_L0 105 [(.ref a0), .int i1]) [] hp3 (mw_ri (fun x7 hp6 => ((i2 < (x4 - x7) → mw_rc (.ref a0) 105 hp6 ∧ mm_R X d 105 0 (mm_L0 105 [(.ref a0), .int i1]) [] hp6 (mw_ri (fun x10 hp9 => (((x10 + i2) < (0 : Int32) → Q (some (.int (-1 : Int32))) hp9) ∧ (¬ (x10 + i2) < (0 : Int32) → mw_gv 9 2 (.ref a0) hp9 (fun v11 => mw_ln v11 hp9 (fun x12 => (((x10 + i2) < x12 → mw_gv 9 2 (.ref a0) hp9 (fun v13 => mw_ai 1001 v13 (x10 + i2) hp9 (fun x14 => Q (some (.int x14)) hp9))) ∧ (¬ (x10 + i2) < x12 → Q (some (.int (-1 : Int32))) hp9))))))))) ∧ (¬ i2 < (x4 - x7) → Q (some (.int (-1 : Int32))) hp6)))))))))))))) : mm_R X (d + 1) 114 0 (mm_L0 114 [(.ref a0), .int i1, .int i2]) [] hp Q := by
  show mm_R X (d + 1) 114 0 [some ((.ref a0)), some (.int i1), some (.int i2), none] [] hp Q
  refine mm_R.br (L' := [some ((.ref a0)), some (.int i1), some (.int i2), none]) (st' := []) (t := 31) (u := 4) (b := mm_cc .lt i1 (0 : Int32)) 2 rfl (fun c => ?_) (fun c => ?_)
  · replace H := H.1 (of_decide_eq_true c)
    exact mm_R.rt (pc' := 32) (L' := [some ((.ref a0)), some (.int i1), some (.int i2), none]) (st1 := [.int (-1 : Int32)]) 1 rfl rfl rfl rfl rfl rfl H
  · replace H := H.2 (of_decide_eq_false c)
    refine mm_R.wgi (pc' := 6) (L' := [some ((.ref a0)), some (.int i1), some (.int i2), none]) (r := [.int i1]) 2 rfl rfl (H.mono (fun x1 H => ?_))
    refine mm_R.br (L' := [some ((.ref a0)), some (.int i1), some (.int i2), none]) (st' := []) (t := 31) (u := 12) (b := mm_cc .ge i1 x1) 1 rfl (fun c => ?_) (fun c => ?_)
    · replace H := H.1 (of_decide_eq_true c)
      exact mm_R.rt (pc' := 32) (L' := [some ((.ref a0)), some (.int i1), some (.int i2), none]) (st1 := [.int (-1 : Int32)]) 1 rfl rfl rfl rfl rfl rfl H
    · replace H := H.2 (of_decide_eq_false c)
      refine mm_R.br (L' := [some ((.ref a0)), some (.int i1), some (.int i2), none]) (st' := []) (t := 31) (u := 16) (b := mm_cc .lt i2 (0 : Int32)) 2 rfl (fun c => ?_) (fun c => ?_)
      · replace H := H.1 (of_decide_eq_true c)
        exact mm_R.rt (pc' := 32) (L' := [some ((.ref a0)), some (.int i1), some (.int i2), none]) (st1 := [.int (-1 : Int32)]) 1 rfl rfl rfl rfl rfl rfl H
      · replace H := H.2 (of_decide_eq_false c)
        obtain ⟨hc2, H⟩ := H
        refine mm_R.cV (pc' := 19) (L' := [some ((.ref a0)), some (.int i1), some (.int i2), none]) (st1 := [.int i1, (.ref a0), .int i2]) (as := [.int i1]) (rest := [.int i2]) 3 rfl rfl (mw_sp rfl rfl (Nat.le_of_ble_eq_true rfl) (mw_ac rfl (mw_ac rfl mw_an)) (mw_ac rfl mw_an)) rfl rfl hc2 (H.mono (fun o hp3 H => ?_))
        obtain ⟨x4, rfl, H⟩ := H
        obtain ⟨hc5, H⟩ := H
        refine mm_R.cV (pc' := 24) (L' := [some ((.ref a0)), some (.int i1), some (.int i2), none]) (st1 := [.int i1, (.ref a0), .int x4, .int i2]) (as := [.int i1]) (rest := [.int x4, .int i2]) 2 rfl rfl (mw_sp rfl rfl (Nat.le_of_ble_eq_true rfl) (mw_ac rfl (mw_ac rfl mw_an)) (mw_ac rfl (mw_ac rfl mw_an))) rfl rfl hc5 (H.mono (fun o hp6 H => ?_))
        obtain ⟨x7, rfl, H⟩ := H
        refine mm_R.br (L' := [some ((.ref a0)), some (.int i1), some (.int i2), none]) (st' := []) (t := 33) (u := 31) (b := mm_cc .lt i2 (x4 - x7)) 2 rfl (fun c => ?_) (fun c => ?_)
        · replace H := H.1 (of_decide_eq_true c)
          obtain ⟨hc8, H⟩ := H
          refine mm_R.cV (pc' := 35) (L' := [some ((.ref a0)), some (.int i1), some (.int i2), none]) (st1 := [.int i1, (.ref a0)]) (as := [.int i1]) (rest := []) 2 rfl rfl (mw_sp rfl rfl (Nat.le_of_ble_eq_true rfl) (mw_ac rfl (mw_ac rfl mw_an)) mw_an) rfl rfl hc8 (H.mono (fun o hp9 H => ?_))
          obtain ⟨x10, rfl, H⟩ := H
          refine mm_R.br (L' := [some ((.ref a0)), some (.int i1), some (.int i2), some (.int (x10 + i2))]) (st' := []) (t := 54) (u := 45) (b := mm_cc .lt (x10 + i2) (0 : Int32)) 5 rfl (fun c => ?_) (fun c => ?_)
          · replace H := H.1 (of_decide_eq_true c)
            exact mm_R.rt (pc' := 64) (L' := [some ((.ref a0)), some (.int i1), some (.int i2), some (.int (x10 + i2))]) (st1 := [.int (-1 : Int32)]) 2 rfl rfl rfl rfl rfl rfl H
          · replace H := H.2 (of_decide_eq_false c)
            refine mm_R.wgv (pc' := 47) (L' := [some ((.ref a0)), some (.int i1), some (.int i2), some (.int (x10 + i2))]) (r := [.int (x10 + i2)]) 2 rfl rfl (H.mono (fun v11 H => ?_))
            refine mm_R.wln (pc' := 50) (L' := [some ((.ref a0)), some (.int i1), some (.int i2), some (.int (x10 + i2))]) (r := [.int (x10 + i2)]) 0 rfl rfl (H.mono (fun x12 H => ?_))
            refine mm_R.br (L' := [some ((.ref a0)), some (.int i1), some (.int i2), some (.int (x10 + i2))]) (st' := []) (t := 58) (u := 54) (b := mm_cc .lt (x10 + i2) x12) 1 rfl (fun c => ?_) (fun c => ?_)
            · replace H := H.1 (of_decide_eq_true c)
              refine mm_R.wgv (pc' := 59) (L' := [some ((.ref a0)), some (.int i1), some (.int i2), some (.int (x10 + i2))]) (r := []) 1 rfl rfl (H.mono (fun v13 H => ?_))
              refine mm_R.wai (pc' := 63) (L' := [some ((.ref a0)), some (.int i1), some (.int i2), some (.int (x10 + i2))]) (r := []) (t := 1001) 1 rfl rfl rfl rfl (H.mono (fun x14 H => ?_))
              exact mm_R.rt (pc' := 64) (L' := [some ((.ref a0)), some (.int i1), some (.int i2), some (.int (x10 + i2))]) (st1 := [.int x14]) 0 rfl rfl rfl rfl rfl rfl H
            · replace H := H.2 (of_decide_eq_false c)
              exact mm_R.rt (pc' := 64) (L' := [some ((.ref a0)), some (.int i1), some (.int i2), some (.int (x10 + i2))]) (st1 := [.int (-1 : Int32)]) 2 rfl rfl rfl rfl rfl rfl H
        · replace H := H.2 (of_decide_eq_false c)
          exact mm_R.rt (pc' := 32) (L' := [some ((.ref a0)), some (.int i1), some (.int i2), none]) (st1 := [.int (-1 : Int32)]) 1 rfl rfl rfl rfl rfl rfl H
-- StepRunner.state, from 0
set_option maxRecDepth 10000 in
theorem w115_0 {X : List Int32} {d : Nat} {a0 : Nat} {i1 : Int32} {hp : mm_H} {Q : Option Value → mm_H → Prop} (H : mw_gv 0 6 (.ref a0) hp (fun v1 => mw_gi 3 10 v1 hp (fun x2 => ((x2 = (0 : Int32) → Q (some (.int (-1 : Int32))) hp) ∧ (¬ x2 = (0 : Int32) → ((i1 < (0 : Int32) → Q (some (.int (-1 : Int32))) hp) ∧ (¬ i1 < (0 : Int32) → mw_gi 0 5 (.ref a0) hp (fun x3 => ((i1 < x3 → mw_gv 0 6 (.ref a0) hp (fun v4 => mw_rc v4 116 hp ∧ mm_R X d 116 0 (mm_L0 116 [v4, .int i1]) [] hp (mw_ri (fun x7 hp6 => Q (some (.int x7)) hp6)))) ∧ (¬ i1 < x3 → Q (some (.int (-1 : Int32))) hp)))))))))) : mm_R X (d + 1) 115 0 (mm_L0 115 [(.ref a0), .int i1]) [] hp Q := by
  show mm_R X (d + 1) 115 0 [some ((.ref a0)), some (.int i1)] [] hp Q
  refine mm_R.wgv (pc' := 1) (L' := [some ((.ref a0)), some (.int i1)]) (r := []) 1 rfl rfl (H.mono (fun v1 H => ?_))
  refine mm_R.wgi (pc' := 4) (L' := [some ((.ref a0)), some (.int i1)]) (r := []) 0 rfl rfl (H.mono (fun x2 H => ?_))
  refine mm_R.br (L' := [some ((.ref a0)), some (.int i1)]) (st' := []) (t := 22) (u := 10) (b := mm_cc .eq x2 (0 : Int32)) 1 rfl (fun c => ?_) (fun c => ?_)
  · replace H := H.1 (of_decide_eq_true c)
    exact mm_R.rt (pc' := 23) (L' := [some ((.ref a0)), some (.int i1)]) (st1 := [.int (-1 : Int32)]) 1 rfl rfl rfl rfl rfl rfl H
  · replace H := H.2 (of_decide_eq_false c)
    refine mm_R.br (L' := [some ((.ref a0)), some (.int i1)]) (st' := []) (t := 22) (u := 14) (b := mm_cc .lt i1 (0 : Int32)) 2 rfl (fun c => ?_) (fun c => ?_)
    · replace H := H.1 (of_decide_eq_true c)
      exact mm_R.rt (pc' := 23) (L' := [some ((.ref a0)), some (.int i1)]) (st1 := [.int (-1 : Int32)]) 1 rfl rfl rfl rfl rfl rfl H
    · replace H := H.2 (of_decide_eq_false c)
      refine mm_R.wgi (pc' := 16) (L' := [some ((.ref a0)), some (.int i1)]) (r := [.int i1]) 2 rfl rfl (H.mono (fun x3 H => ?_))
      refine mm_R.br (L' := [some ((.ref a0)), some (.int i1)]) (st' := []) (t := 24) (u := 22) (b := mm_cc .lt i1 x3) 1 rfl (fun c => ?_) (fun c => ?_)
      · replace H := H.1 (of_decide_eq_true c)
        refine mm_R.wgv (pc' := 25) (L' := [some ((.ref a0)), some (.int i1)]) (r := []) 1 rfl rfl (H.mono (fun v4 H => ?_))
        obtain ⟨hc5, H⟩ := H
        refine mm_R.cV (pc' := 29) (L' := [some ((.ref a0)), some (.int i1)]) (st1 := [.int i1, v4]) (as := [.int i1]) (rest := []) 1 rfl rfl (mw_sp rfl rfl (Nat.le_of_ble_eq_true rfl) (mw_ac (mw_c1 hc5.isr) (mw_ac rfl mw_an)) mw_an) rfl rfl hc5 (H.mono (fun o hp6 H => ?_))
        obtain ⟨x7, rfl, H⟩ := H
        exact mm_R.rt (pc' := 32) (L' := [some ((.ref a0)), some (.int i1)]) (st1 := [.int x7]) 0 rfl rfl rfl rfl rfl rfl H
      · replace H := H.2 (of_decide_eq_false c)
        exact mm_R.rt (pc' := 23) (L' := [some ((.ref a0)), some (.int i1)]) (st1 := [.int (-1 : Int32)]) 1 rfl rfl rfl rfl rfl rfl H
-- StepRunner$Run.phaseOf, from 0
set_option maxRecDepth 10000 in
theorem w116_0 {X : List Int32} {d : Nat} {a0 : Nat} {i1 : Int32} {hp : mm_H} {Q : Option Value → mm_H → Prop} (H : ((i1 < (0 : Int32) → Q (some (.int (0 : Int32))) hp) ∧ (¬ i1 < (0 : Int32) → mw_gi 3 7 (.ref a0) hp (fun x1 => ((i1 < x1 → mw_gv 3 1 (.ref a0) hp (fun v2 => mw_av v2 i1 hp (fun v3 => mw_gi 5 10 v3 hp (fun x4 => Q (some (.int x4)) hp)))) ∧ (¬ i1 < x1 → Q (some (.int (0 : Int32))) hp)))))) : mm_R X (d + 1) 116 0 (mm_L0 116 [(.ref a0), .int i1]) [] hp Q := by
  show mm_R X (d + 1) 116 0 [some ((.ref a0)), some (.int i1)] [] hp Q
  refine mm_R.br (L' := [some ((.ref a0)), some (.int i1)]) (st' := []) (t := 12) (u := 4) (b := mm_cc .lt i1 (0 : Int32)) 2 rfl (fun c => ?_) (fun c => ?_)
  · replace H := H.1 (of_decide_eq_true c)
    exact mm_R.rt (pc' := 25) (L' := [some ((.ref a0)), some (.int i1)]) (st1 := [.int (0 : Int32)]) 2 rfl rfl rfl rfl rfl rfl H
  · replace H := H.2 (of_decide_eq_false c)
    refine mm_R.wgi (pc' := 6) (L' := [some ((.ref a0)), some (.int i1)]) (r := [.int i1]) 2 rfl rfl (H.mono (fun x1 H => ?_))
    refine mm_R.br (L' := [some ((.ref a0)), some (.int i1)]) (st' := []) (t := 16) (u := 12) (b := mm_cc .lt i1 x1) 1 rfl (fun c => ?_) (fun c => ?_)
    · replace H := H.1 (of_decide_eq_true c)
      refine mm_R.wgv (pc' := 17) (L' := [some ((.ref a0)), some (.int i1)]) (r := []) 1 rfl rfl (H.mono (fun v2 H => ?_))
      refine mm_R.wav (pc' := 21) (L' := [some ((.ref a0)), some (.int i1)]) (r := []) 1 rfl rfl (H.mono (fun v3 H => ?_))
      refine mm_R.wgi (pc' := 22) (L' := [some ((.ref a0)), some (.int i1)]) (r := []) 0 rfl rfl (H.mono (fun x4 H => ?_))
      exact mm_R.rt (pc' := 25) (L' := [some ((.ref a0)), some (.int i1)]) (st1 := [.int x4]) 0 rfl rfl rfl rfl rfl rfl H
    · replace H := H.2 (of_decide_eq_false c)
      exact mm_R.rt (pc' := 25) (L' := [some ((.ref a0)), some (.int i1)]) (st1 := [.int (0 : Int32)]) 2 rfl rfl rfl rfl rfl rfl H
-- StepRunner.output, from 0
set_option maxRecDepth 10000 in
theorem w117_0 {X : List Int32} {d : Nat} {a0 : Nat} {i1 : Int32} {i2 : Int32} {hp : mm_H} {Q : Option Value → mm_H → Prop} (H : mw_gv 0 6 (.ref a0) hp (fun v1 => mw_rc v1 118 hp ∧ mm_R X d 118 0 (mm_L0 118 [v1, .int i1]) [] hp (mw_rv (fun v4 hp3 => mm_isr v4 = true ∧ mw_nl v4 (Q (some (.int (-1 : Int32))) hp3) (mw_rc v4 82 hp3 ∧ mm_R X d 82 0 (mm_L0 82 [v4, .int i2]) [] hp3 (mw_ri (fun x8 hp7 => Q (some (.int x8)) hp7))))))) : mm_R X (d + 1) 117 0 (mm_L0 117 [(.ref a0), .int i1, .int i2]) [] hp Q := by
  show mm_R X (d + 1) 117 0 [some ((.ref a0)), some (.int i1), some (.int i2), none] [] hp Q
  refine mm_R.wgv (pc' := 1) (L' := [some ((.ref a0)), some (.int i1), some (.int i2), none]) (r := []) 1 rfl rfl (H.mono (fun v1 H => ?_))
  obtain ⟨hc2, H⟩ := H
  refine mm_R.cV (pc' := 5) (L' := [some ((.ref a0)), some (.int i1), some (.int i2), none]) (st1 := [.int i1, v1]) (as := [.int i1]) (rest := []) 1 rfl rfl (mw_sp rfl rfl (Nat.le_of_ble_eq_true rfl) (mw_ac (mw_c1 hc2.isr) (mw_ac rfl mw_an)) mw_an) rfl rfl hc2 (H.mono (fun o hp3 H => ?_))
  obtain ⟨v4, rfl, H⟩ := H
  obtain ⟨hr5, H⟩ := H
  refine mm_R.as (pc' := 8) (L' := [some ((.ref a0)), some (.int i1), some (.int i2), none]) (r := []) (v := v4) 0 rfl rfl rfl rfl hr5 ?_
  refine mm_R.al (pc' := 9) (L' := [some ((.ref a0)), some (.int i1), some (.int i2), some (v4)]) (r := []) (v := v4) 0 rfl rfl rfl rfl hr5 ?_
  refine mm_R.wnl (pc' := 10) (L' := [some ((.ref a0)), some (.int i1), some (.int i2), some (v4)]) (r := []) (v := v4) (t := 13) (u := 17) 0 rfl rfl rfl (H.mono (fun H => ?_) (fun H => ?_))
  · exact mm_R.rt (pc' := 22) (L' := [some ((.ref a0)), some (.int i1), some (.int i2), some (v4)]) (st1 := [.int (-1 : Int32)]) 2 rfl rfl rfl rfl rfl rfl H
  · refine mm_R.al (pc' := 17) (L' := [some ((.ref a0)), some (.int i1), some (.int i2), some (v4)]) (r := []) (v := v4) 0 rfl rfl rfl rfl hr5 ?_
    obtain ⟨hc6, H⟩ := H
    refine mm_R.cV (pc' := 19) (L' := [some ((.ref a0)), some (.int i1), some (.int i2), some (v4)]) (st1 := [.int i2, v4]) (as := [.int i2]) (rest := []) 1 rfl rfl (mw_sp rfl rfl (Nat.le_of_ble_eq_true rfl) (mw_ac (mw_c1 hc6.isr) (mw_ac rfl mw_an)) mw_an) rfl rfl hc6 (H.mono (fun o hp7 H => ?_))
    obtain ⟨x8, rfl, H⟩ := H
    exact mm_R.rt (pc' := 22) (L' := [some ((.ref a0)), some (.int i1), some (.int i2), some (v4)]) (st1 := [.int x8]) 0 rfl rfl rfl rfl rfl rfl H
-- StepRunner$Run.outcomeOf, from 0
set_option maxRecDepth 10000 in
theorem w118_0 {X : List Int32} {d : Nat} {a0 : Nat} {i1 : Int32} {hp : mm_H} {Q : Option Value → mm_H → Prop} (H : mw_rc (.ref a0) 116 hp ∧ mm_R X d 116 0 (mm_L0 116 [(.ref a0), .int i1]) [] hp (mw_ri (fun x3 hp2 => ((¬ x3 = (2 : Int32) → Q (some .null) hp2) ∧ (x3 = (2 : Int32) → mw_gv 3 1 (.ref a0) hp2 (fun v4 => mw_av v4 i1 hp2 (fun v5 => mw_gv 5 11 v5 hp2 (fun v6 => mw_nr v6 ∧ Q (some v6) hp2)))))))) : mm_R X (d + 1) 118 0 (mm_L0 118 [(.ref a0), .int i1]) [] hp Q := by
  show mm_R X (d + 1) 118 0 [some ((.ref a0)), some (.int i1)] [] hp Q
  obtain ⟨hc1, H⟩ := H
  refine mm_R.cV (pc' := 2) (L' := [some ((.ref a0)), some (.int i1)]) (st1 := [.int i1, (.ref a0)]) (as := [.int i1]) (rest := []) 2 rfl rfl (mw_sp rfl rfl (Nat.le_of_ble_eq_true rfl) (mw_ac rfl (mw_ac rfl mw_an)) mw_an) rfl rfl hc1 (H.mono (fun o hp2 H => ?_))
  obtain ⟨x3, rfl, H⟩ := H
  refine mm_R.br (L' := [some ((.ref a0)), some (.int i1)]) (st' := []) (t := 21) (u := 9) (b := mm_cc .ne x3 (2 : Int32)) 2 rfl (fun c => ?_) (fun c => ?_)
  · replace H := H.1 (of_decide_eq_true c)
    exact mm_R.rt (pc' := 22) (L' := [some ((.ref a0)), some (.int i1)]) (st1 := [.null]) 1 rfl rfl rfl rfl rfl rfl H
  · replace H := H.2 (Decidable.of_not_not (of_decide_eq_false c))
    refine mm_R.wgv (pc' := 10) (L' := [some ((.ref a0)), some (.int i1)]) (r := []) 1 rfl rfl (H.mono (fun v4 H => ?_))
    refine mm_R.wav (pc' := 14) (L' := [some ((.ref a0)), some (.int i1)]) (r := []) 1 rfl rfl (H.mono (fun v5 H => ?_))
    refine mm_R.wgv (pc' := 15) (L' := [some ((.ref a0)), some (.int i1)]) (r := []) 0 rfl rfl (H.mono (fun v6 H => ?_))
    exact mm_R.rt (pc' := 22) (L' := [some ((.ref a0)), some (.int i1)]) (st1 := [v6]) 1 rfl rfl rfl rfl rfl (mw_rva (ty := (.object "StepRunner$Value")) H.1 rfl) H.2
-- StepRunnerModel.<init>, from 0
set_option maxRecDepth 10000 in
theorem w119_0 {X : List Int32} {d : Nat} {a0 : Nat} {hp : mm_H} {Q : Option Value → mm_H → Prop} (H : ((0 ≤ (2400 : Int32) ∧ Int32.toNatClampNeg (2400 : Int32) ≤ 100000) ∧ ∀ q1 hp2, q1 = hp.length → hp2 = hp ++ [(1004, List.replicate (Int32.toNatClampNeg (2400 : Int32)) (.long 0))] → mw_pt 10 0 (.ref a0) ((.ref q1)) hp2 (fun hp3 => ((0 ≤ (60 : Int32) ∧ Int32.toNatClampNeg (60 : Int32) ≤ 100000) ∧ ∀ q4 hp5, q4 = hp3.length → hp5 = hp3 ++ [(1001, List.replicate (Int32.toNatClampNeg (60 : Int32)) (.int 0))] → mw_pt 10 2 (.ref a0) ((.ref q4)) hp5 (fun hp6 => ((0 ≤ (9856 : Int32) ∧ Int32.toNatClampNeg (9856 : Int32) ≤ 100000) ∧ ∀ q7 hp8, q7 = hp6.length → hp8 = hp6 ++ [(1004, List.replicate (Int32.toNatClampNeg (9856 : Int32)) (.long 0))] → mw_pt 10 4 (.ref a0) ((.ref q7)) hp8 (fun hp9 => ((0 ≤ (142 : Int32) ∧ Int32.toNatClampNeg (142 : Int32) ≤ 100000) ∧ ∀ q10 hp11, q10 = hp9.length → hp11 = hp9 ++ [(1000, List.replicate (Int32.toNatClampNeg (142 : Int32)) (.int 0))] → mw_pt 10 5 (.ref a0) ((.ref q10)) hp11 (fun hp12 => ((0 ≤ (4 : Int32) ∧ Int32.toNatClampNeg (4 : Int32) ≤ 100000) ∧ ∀ q13 hp14, q13 = hp12.length → hp14 = hp12 ++ [(1000, List.replicate (Int32.toNatClampNeg (4 : Int32)) (.int 0))] → mw_pt 10 7 (.ref a0) ((.ref q13)) hp14 (fun hp15 => ((0 ≤ (4 : Int32) ∧ Int32.toNatClampNeg (4 : Int32) ≤ 100000) ∧ ∀ q16 hp17, q16 = hp15.length → hp17 = hp15 ++ [(1000, List.replicate (Int32.toNatClampNeg (4 : Int32)) (.int 0))] → mw_pt 10 8 (.ref a0) ((.ref q16)) hp17 (fun hp18 => ((0 ≤ (16 : Int32) ∧ Int32.toNatClampNeg (16 : Int32) ≤ 100000) ∧ ∀ q19 hp20, q19 = hp18.length → hp20 = hp18 ++ [(1000, List.replicate (Int32.toNatClampNeg (16 : Int32)) (.int 0))] → mw_pt 10 9 (.ref a0) ((.ref q19)) hp20 (fun hp21 => ((0 ≤ (16 : Int32) ∧ Int32.toNatClampNeg (16 : Int32) ≤ 100000) ∧ ∀ q22 hp23, q22 = hp21.length → hp23 = hp21 ++ [(1000, List.replicate (Int32.toNatClampNeg (16 : Int32)) (.int 0))] → mw_pt 10 10 (.ref a0) ((.ref q22)) hp23 (fun hp24 => ((0 ≤ (16 : Int32) ∧ Int32.toNatClampNeg (16 : Int32) ≤ 100000) ∧ ∀ q25 hp26, q25 = hp24.length → hp26 = hp24 ++ [(1000, List.replicate (Int32.toNatClampNeg (16 : Int32)) (.int 0))] → mw_pt 10 11 (.ref a0) ((.ref q25)) hp26 (fun hp27 => ((0 ≤ (6 : Int32) ∧ Int32.toNatClampNeg (6 : Int32) ≤ 100000) ∧ ∀ q28 hp29, q28 = hp27.length → hp29 = hp27 ++ [(1000, List.replicate (Int32.toNatClampNeg (6 : Int32)) (.int 0))] → mw_pt 10 13 (.ref a0) ((.ref q28)) hp29 (fun hp30 => ((0 ≤ (6 : Int32) ∧ Int32.toNatClampNeg (6 : Int32) ≤ 100000) ∧ ∀ q31 hp32, q31 = hp30.length → hp32 = hp30 ++ [(1000, List.replicate (Int32.toNatClampNeg (6 : Int32)) (.int 0))] → mw_pt 10 14 (.ref a0) ((.ref q31)) hp32 (fun hp33 => ((0 ≤ (6 : Int32) ∧ Int32.toNatClampNeg (6 : Int32) ≤ 100000) ∧ ∀ q34 hp35, q34 = hp33.length → hp35 = hp33 ++ [(1000, List.replicate (Int32.toNatClampNeg (6 : Int32)) (.int 0))] → mw_pt 10 15 (.ref a0) ((.ref q34)) hp35 (fun hp36 => ((0 ≤ (24 : Int32) ∧ Int32.toNatClampNeg (24 : Int32) ≤ 100000) ∧ ∀ q37 hp38, q37 = hp36.length → hp38 = hp36 ++ [(1000, List.replicate (Int32.toNatClampNeg (24 : Int32)) (.int 0))] → mw_pt 10 16 (.ref a0) ((.ref q37)) hp38 (fun hp39 => ((0 ≤ (72 : Int32) ∧ Int32.toNatClampNeg (72 : Int32) ≤ 100000) ∧ ∀ q40 hp41, q40 = hp39.length → hp41 = hp39 ++ [(1000, List.replicate (Int32.toNatClampNeg (72 : Int32)) (.int 0))] → mw_pt 10 17 (.ref a0) ((.ref q40)) hp41 (fun hp42 => ((0 ≤ (24 : Int32) ∧ Int32.toNatClampNeg (24 : Int32) ≤ 100000) ∧ ∀ q43 hp44, q43 = hp42.length → hp44 = hp42 ++ [(1000, List.replicate (Int32.toNatClampNeg (24 : Int32)) (.int 0))] → mw_pt 10 18 (.ref a0) ((.ref q43)) hp44 (fun hp45 => ((0 ≤ (24 : Int32) ∧ Int32.toNatClampNeg (24 : Int32) ≤ 100000) ∧ ∀ q46 hp47, q46 = hp45.length → hp47 = hp45 ++ [(1000, List.replicate (Int32.toNatClampNeg (24 : Int32)) (.int 0))] → mw_pt 10 19 (.ref a0) ((.ref q46)) hp47 (fun hp48 => ((0 ≤ (24 : Int32) ∧ Int32.toNatClampNeg (24 : Int32) ≤ 100000) ∧ ∀ q49 hp50, q49 = hp48.length → hp50 = hp48 ++ [(1002, List.replicate (Int32.toNatClampNeg (24 : Int32)) (.int 0))] → mw_pt 10 20 (.ref a0) ((.ref q49)) hp50 (fun hp51 => ((0 ≤ (1800 : Int32) ∧ Int32.toNatClampNeg (1800 : Int32) ≤ 100000) ∧ ∀ q52 hp53, q52 = hp51.length → hp53 = hp51 ++ [(1001, List.replicate (Int32.toNatClampNeg (1800 : Int32)) (.int 0))] → mw_pt 10 21 (.ref a0) ((.ref q52)) hp53 (fun hp54 => ((0 ≤ (30 : Int32) ∧ Int32.toNatClampNeg (30 : Int32) ≤ 100000) ∧ ∀ q55 hp56, q55 = hp54.length → hp56 = hp54 ++ [(1000, List.replicate (Int32.toNatClampNeg (30 : Int32)) (.int 0))] → mw_pt 10 22 (.ref a0) ((.ref q55)) hp56 (fun hp57 => ((0 ≤ (6 : Int32) ∧ Int32.toNatClampNeg (6 : Int32) ≤ 100000) ∧ ∀ q58 hp59, q58 = hp57.length → hp59 = hp57 ++ [(1000, List.replicate (Int32.toNatClampNeg (6 : Int32)) (.int 0))] → mw_pt 10 29 (.ref a0) ((.ref q58)) hp59 (fun hp60 => ((0 ≤ (6 : Int32) ∧ Int32.toNatClampNeg (6 : Int32) ≤ 100000) ∧ ∀ q61 hp62, q61 = hp60.length → hp62 = hp60 ++ [(1000, List.replicate (Int32.toNatClampNeg (6 : Int32)) (.int 0))] → mw_pt 10 30 (.ref a0) ((.ref q61)) hp62 (fun hp63 => ((0 ≤ (96 : Int32) ∧ Int32.toNatClampNeg (96 : Int32) ≤ 100000) ∧ ∀ q64 hp65, q64 = hp63.length → hp65 = hp63 ++ [(1000, List.replicate (Int32.toNatClampNeg (96 : Int32)) (.int 0))] → mw_pt 10 31 (.ref a0) ((.ref q64)) hp65 (fun hp66 => ((0 ≤ (96 : Int32) ∧ Int32.toNatClampNeg (96 : Int32) ≤ 100000) ∧ ∀ q67 hp68, q67 = hp66.length → hp68 = hp66 ++ [(1000, List.replicate (Int32.toNatClampNeg (96 : Int32)) (.int 0))] → mw_pt 10 32 (.ref a0) ((.ref q67)) hp68 (fun hp69 => ((0 ≤ (768 : Int32) ∧ Int32.toNatClampNeg (768 : Int32) ≤ 100000) ∧ ∀ q70 hp71, q70 = hp69.length → hp71 = hp69 ++ [(1000, List.replicate (Int32.toNatClampNeg (768 : Int32)) (.int 0))] → mw_pt 10 33 (.ref a0) ((.ref q70)) hp71 (fun hp72 => ((0 ≤ (3 : Int32) ∧ Int32.toNatClampNeg (3 : Int32) ≤ 100000) ∧ ∀ q73 hp74, q73 = hp72.length → hp74 = hp72 ++ [(1000, List.replicate (Int32.toNatClampNeg (3 : Int32)) (.int 0))] → mw_pt 10 34 (.ref a0) ((.ref q73)) hp74 (fun hp75 => ((0 ≤ (24 : Int32) ∧ Int32.toNatClampNeg (24 : Int32) ≤ 100000) ∧ ∀ q76 hp77, q76 = hp75.length → hp77 = hp75 ++ [(1000, List.replicate (Int32.toNatClampNeg (24 : Int32)) (.int 0))] → mw_pt 10 37 (.ref a0) ((.ref q76)) hp77 (fun hp78 => mm_R X (d + 1) 119 216 [some ((.ref a0)), some (.int (0 : Int32))] [] hp78 Q))))))))))))))))))))))))))))))))))))))))))))))))))))) : mm_R X (d + 1) 119 0 (mm_L0 119 [(.ref a0)]) [] hp Q := by
  show mm_R X (d + 1) 119 0 [some ((.ref a0)), none] [] hp Q
  refine mm_R.cP (pc' := 1) (L' := [some ((.ref a0)), none]) (st1 := [(.ref a0)]) (as := [(.ref a0)]) (rest := []) (o := none) 1 rfl rfl rfl rfl rfl (mw_sp rfl rfl (Nat.le_of_ble_eq_true rfl) (mw_ac rfl mw_an) mw_an) rfl rfl ?_
  obtain ⟨hn104, H⟩ := H
  refine mm_R.nwaK (pc' := 8) (L' := [some ((.ref a0)), none]) (r := [(.ref a0)]) (x := (2400 : Int32)) 2 rfl rfl rfl hn104 (fun q1 hp2 e1 e2 => ?_)
  replace H := H _ _ e1 e2
  refine mm_R.wpt (pc' := 10) (L' := [some ((.ref a0)), none]) (r := []) 0 rfl rfl (H.mono (fun hp3 H => ?_))
  obtain ⟨hn103, H⟩ := H
  refine mm_R.nwaK (pc' := 16) (L' := [some ((.ref a0)), none]) (r := [(.ref a0)]) (x := (60 : Int32)) 2 rfl rfl rfl hn103 (fun q4 hp5 e1 e2 => ?_)
  replace H := H _ _ e1 e2
  refine mm_R.wpt (pc' := 18) (L' := [some ((.ref a0)), none]) (r := []) 0 rfl rfl (H.mono (fun hp6 H => ?_))
  obtain ⟨hn102, H⟩ := H
  refine mm_R.nwaK (pc' := 25) (L' := [some ((.ref a0)), none]) (r := [(.ref a0)]) (x := (9856 : Int32)) 2 rfl rfl rfl hn102 (fun q7 hp8 e1 e2 => ?_)
  replace H := H _ _ e1 e2
  refine mm_R.wpt (pc' := 27) (L' := [some ((.ref a0)), none]) (r := []) 0 rfl rfl (H.mono (fun hp9 H => ?_))
  obtain ⟨hn101, H⟩ := H
  refine mm_R.nwaK (pc' := 34) (L' := [some ((.ref a0)), none]) (r := [(.ref a0)]) (x := (142 : Int32)) 2 rfl rfl rfl hn101 (fun q10 hp11 e1 e2 => ?_)
  replace H := H _ _ e1 e2
  refine mm_R.wpt (pc' := 36) (L' := [some ((.ref a0)), none]) (r := []) 0 rfl rfl (H.mono (fun hp12 H => ?_))
  obtain ⟨hn100, H⟩ := H
  refine mm_R.nwaK (pc' := 41) (L' := [some ((.ref a0)), none]) (r := [(.ref a0)]) (x := (4 : Int32)) 2 rfl rfl rfl hn100 (fun q13 hp14 e1 e2 => ?_)
  replace H := H _ _ e1 e2
  refine mm_R.wpt (pc' := 43) (L' := [some ((.ref a0)), none]) (r := []) 0 rfl rfl (H.mono (fun hp15 H => ?_))
  obtain ⟨hn99, H⟩ := H
  refine mm_R.nwaK (pc' := 48) (L' := [some ((.ref a0)), none]) (r := [(.ref a0)]) (x := (4 : Int32)) 2 rfl rfl rfl hn99 (fun q16 hp17 e1 e2 => ?_)
  replace H := H _ _ e1 e2
  refine mm_R.wpt (pc' := 50) (L' := [some ((.ref a0)), none]) (r := []) 0 rfl rfl (H.mono (fun hp18 H => ?_))
  obtain ⟨hn98, H⟩ := H
  refine mm_R.nwaK (pc' := 56) (L' := [some ((.ref a0)), none]) (r := [(.ref a0)]) (x := (16 : Int32)) 2 rfl rfl rfl hn98 (fun q19 hp20 e1 e2 => ?_)
  replace H := H _ _ e1 e2
  refine mm_R.wpt (pc' := 58) (L' := [some ((.ref a0)), none]) (r := []) 0 rfl rfl (H.mono (fun hp21 H => ?_))
  obtain ⟨hn97, H⟩ := H
  refine mm_R.nwaK (pc' := 64) (L' := [some ((.ref a0)), none]) (r := [(.ref a0)]) (x := (16 : Int32)) 2 rfl rfl rfl hn97 (fun q22 hp23 e1 e2 => ?_)
  replace H := H _ _ e1 e2
  refine mm_R.wpt (pc' := 66) (L' := [some ((.ref a0)), none]) (r := []) 0 rfl rfl (H.mono (fun hp24 H => ?_))
  obtain ⟨hn96, H⟩ := H
  refine mm_R.nwaK (pc' := 72) (L' := [some ((.ref a0)), none]) (r := [(.ref a0)]) (x := (16 : Int32)) 2 rfl rfl rfl hn96 (fun q25 hp26 e1 e2 => ?_)
  replace H := H _ _ e1 e2
  refine mm_R.wpt (pc' := 74) (L' := [some ((.ref a0)), none]) (r := []) 0 rfl rfl (H.mono (fun hp27 H => ?_))
  obtain ⟨hn95, H⟩ := H
  refine mm_R.nwaK (pc' := 80) (L' := [some ((.ref a0)), none]) (r := [(.ref a0)]) (x := (6 : Int32)) 2 rfl rfl rfl hn95 (fun q28 hp29 e1 e2 => ?_)
  replace H := H _ _ e1 e2
  refine mm_R.wpt (pc' := 82) (L' := [some ((.ref a0)), none]) (r := []) 0 rfl rfl (H.mono (fun hp30 H => ?_))
  obtain ⟨hn94, H⟩ := H
  refine mm_R.nwaK (pc' := 88) (L' := [some ((.ref a0)), none]) (r := [(.ref a0)]) (x := (6 : Int32)) 2 rfl rfl rfl hn94 (fun q31 hp32 e1 e2 => ?_)
  replace H := H _ _ e1 e2
  refine mm_R.wpt (pc' := 90) (L' := [some ((.ref a0)), none]) (r := []) 0 rfl rfl (H.mono (fun hp33 H => ?_))
  obtain ⟨hn93, H⟩ := H
  refine mm_R.nwaK (pc' := 96) (L' := [some ((.ref a0)), none]) (r := [(.ref a0)]) (x := (6 : Int32)) 2 rfl rfl rfl hn93 (fun q34 hp35 e1 e2 => ?_)
  replace H := H _ _ e1 e2
  refine mm_R.wpt (pc' := 98) (L' := [some ((.ref a0)), none]) (r := []) 0 rfl rfl (H.mono (fun hp36 H => ?_))
  obtain ⟨hn92, H⟩ := H
  refine mm_R.nwaK (pc' := 104) (L' := [some ((.ref a0)), none]) (r := [(.ref a0)]) (x := (24 : Int32)) 2 rfl rfl rfl hn92 (fun q37 hp38 e1 e2 => ?_)
  replace H := H _ _ e1 e2
  refine mm_R.wpt (pc' := 106) (L' := [some ((.ref a0)), none]) (r := []) 0 rfl rfl (H.mono (fun hp39 H => ?_))
  obtain ⟨hn91, H⟩ := H
  refine mm_R.nwaK (pc' := 112) (L' := [some ((.ref a0)), none]) (r := [(.ref a0)]) (x := (72 : Int32)) 2 rfl rfl rfl hn91 (fun q40 hp41 e1 e2 => ?_)
  replace H := H _ _ e1 e2
  refine mm_R.wpt (pc' := 114) (L' := [some ((.ref a0)), none]) (r := []) 0 rfl rfl (H.mono (fun hp42 H => ?_))
  obtain ⟨hn90, H⟩ := H
  refine mm_R.nwaK (pc' := 120) (L' := [some ((.ref a0)), none]) (r := [(.ref a0)]) (x := (24 : Int32)) 2 rfl rfl rfl hn90 (fun q43 hp44 e1 e2 => ?_)
  replace H := H _ _ e1 e2
  refine mm_R.wpt (pc' := 122) (L' := [some ((.ref a0)), none]) (r := []) 0 rfl rfl (H.mono (fun hp45 H => ?_))
  obtain ⟨hn89, H⟩ := H
  refine mm_R.nwaK (pc' := 128) (L' := [some ((.ref a0)), none]) (r := [(.ref a0)]) (x := (24 : Int32)) 2 rfl rfl rfl hn89 (fun q46 hp47 e1 e2 => ?_)
  replace H := H _ _ e1 e2
  refine mm_R.wpt (pc' := 130) (L' := [some ((.ref a0)), none]) (r := []) 0 rfl rfl (H.mono (fun hp48 H => ?_))
  obtain ⟨hn88, H⟩ := H
  refine mm_R.nwaK (pc' := 136) (L' := [some ((.ref a0)), none]) (r := [(.ref a0)]) (x := (24 : Int32)) 2 rfl rfl rfl hn88 (fun q49 hp50 e1 e2 => ?_)
  replace H := H _ _ e1 e2
  refine mm_R.wpt (pc' := 138) (L' := [some ((.ref a0)), none]) (r := []) 0 rfl rfl (H.mono (fun hp51 H => ?_))
  obtain ⟨hn87, H⟩ := H
  refine mm_R.nwaK (pc' := 145) (L' := [some ((.ref a0)), none]) (r := [(.ref a0)]) (x := (1800 : Int32)) 2 rfl rfl rfl hn87 (fun q52 hp53 e1 e2 => ?_)
  replace H := H _ _ e1 e2
  refine mm_R.wpt (pc' := 147) (L' := [some ((.ref a0)), none]) (r := []) 0 rfl rfl (H.mono (fun hp54 H => ?_))
  obtain ⟨hn86, H⟩ := H
  refine mm_R.nwaK (pc' := 153) (L' := [some ((.ref a0)), none]) (r := [(.ref a0)]) (x := (30 : Int32)) 2 rfl rfl rfl hn86 (fun q55 hp56 e1 e2 => ?_)
  replace H := H _ _ e1 e2
  refine mm_R.wpt (pc' := 155) (L' := [some ((.ref a0)), none]) (r := []) 0 rfl rfl (H.mono (fun hp57 H => ?_))
  obtain ⟨hn85, H⟩ := H
  refine mm_R.nwaK (pc' := 161) (L' := [some ((.ref a0)), none]) (r := [(.ref a0)]) (x := (6 : Int32)) 2 rfl rfl rfl hn85 (fun q58 hp59 e1 e2 => ?_)
  replace H := H _ _ e1 e2
  refine mm_R.wpt (pc' := 163) (L' := [some ((.ref a0)), none]) (r := []) 0 rfl rfl (H.mono (fun hp60 H => ?_))
  obtain ⟨hn84, H⟩ := H
  refine mm_R.nwaK (pc' := 169) (L' := [some ((.ref a0)), none]) (r := [(.ref a0)]) (x := (6 : Int32)) 2 rfl rfl rfl hn84 (fun q61 hp62 e1 e2 => ?_)
  replace H := H _ _ e1 e2
  refine mm_R.wpt (pc' := 171) (L' := [some ((.ref a0)), none]) (r := []) 0 rfl rfl (H.mono (fun hp63 H => ?_))
  obtain ⟨hn83, H⟩ := H
  refine mm_R.nwaK (pc' := 177) (L' := [some ((.ref a0)), none]) (r := [(.ref a0)]) (x := (96 : Int32)) 2 rfl rfl rfl hn83 (fun q64 hp65 e1 e2 => ?_)
  replace H := H _ _ e1 e2
  refine mm_R.wpt (pc' := 179) (L' := [some ((.ref a0)), none]) (r := []) 0 rfl rfl (H.mono (fun hp66 H => ?_))
  obtain ⟨hn82, H⟩ := H
  refine mm_R.nwaK (pc' := 185) (L' := [some ((.ref a0)), none]) (r := [(.ref a0)]) (x := (96 : Int32)) 2 rfl rfl rfl hn82 (fun q67 hp68 e1 e2 => ?_)
  replace H := H _ _ e1 e2
  refine mm_R.wpt (pc' := 187) (L' := [some ((.ref a0)), none]) (r := []) 0 rfl rfl (H.mono (fun hp69 H => ?_))
  obtain ⟨hn81, H⟩ := H
  refine mm_R.nwaK (pc' := 194) (L' := [some ((.ref a0)), none]) (r := [(.ref a0)]) (x := (768 : Int32)) 2 rfl rfl rfl hn81 (fun q70 hp71 e1 e2 => ?_)
  replace H := H _ _ e1 e2
  refine mm_R.wpt (pc' := 196) (L' := [some ((.ref a0)), none]) (r := []) 0 rfl rfl (H.mono (fun hp72 H => ?_))
  obtain ⟨hn80, H⟩ := H
  refine mm_R.nwaK (pc' := 201) (L' := [some ((.ref a0)), none]) (r := [(.ref a0)]) (x := (3 : Int32)) 2 rfl rfl rfl hn80 (fun q73 hp74 e1 e2 => ?_)
  replace H := H _ _ e1 e2
  refine mm_R.wpt (pc' := 203) (L' := [some ((.ref a0)), none]) (r := []) 0 rfl rfl (H.mono (fun hp75 H => ?_))
  obtain ⟨hn79, H⟩ := H
  refine mm_R.nwaK (pc' := 209) (L' := [some ((.ref a0)), none]) (r := [(.ref a0)]) (x := (24 : Int32)) 2 rfl rfl rfl hn79 (fun q76 hp77 e1 e2 => ?_)
  replace H := H _ _ e1 e2
  refine mm_R.wpt (pc' := 211) (L' := [some ((.ref a0)), none]) (r := []) 0 rfl rfl (H.mono (fun hp78 H => ?_))
  exact mm_R.pn (pc' := 216) (L' := [some ((.ref a0)), some (.int (0 : Int32))]) (st' := []) 2 rfl H
-- StepRunnerModel.<init>, from 216
set_option maxRecDepth 10000 in
theorem w119_216 {X : List Int32} {d : Nat} {a0 : Nat} {i1 : Int32} {hp : mm_H} {Q : Option Value → mm_H → Prop} (H : (((30 : Int32) ≤ i1 → mm_R X (d + 1) 119 237 [some ((.ref a0)), some (.int (0 : Int32))] [] hp Q) ∧ (¬ (30 : Int32) ≤ i1 → mw_gv 10 22 (.ref a0) hp (fun v1 => mw_si 1000 .int v1 i1 (-1 : Int32) hp (fun hp2 => mm_R X (d + 1) 119 216 [some ((.ref a0)), some (.int (i1 + (1 : Int32)))] [] hp2 Q))))) : mm_R X (d + 1) 119 216 [some ((.ref a0)), some (.int i1)] [] hp Q := by
  refine mm_R.br (L' := [some ((.ref a0)), some (.int i1)]) (st' := []) (t := 235) (u := 222) (b := mm_cc .ge i1 (30 : Int32)) 3 rfl (fun c => ?_) (fun c => ?_)
  · replace H := H.1 (of_decide_eq_true c)
    exact mm_R.pn (pc' := 237) (L' := [some ((.ref a0)), some (.int (0 : Int32))]) (st' := []) 2 rfl H
  · replace H := H.2 (of_decide_eq_false c)
    refine mm_R.wgv (pc' := 223) (L' := [some ((.ref a0)), some (.int i1)]) (r := []) 1 rfl rfl (H.mono (fun v1 H => ?_))
    refine mm_R.wsi (pc' := 228) (L' := [some ((.ref a0)), some (.int i1)]) (r := []) (t := 1000) (ty := .int) 2 rfl rfl rfl rfl (H.mono (fun hp2 H => ?_))
    exact mm_R.pn (pc' := 216) (L' := [some ((.ref a0)), some (.int (i1 + (1 : Int32)))]) (st' := []) 2 rfl H
-- StepRunnerModel.<init>, from 237
set_option maxRecDepth 10000 in
theorem w119_237 {X : List Int32} {d : Nat} {a0 : Nat} {i1 : Int32} {hp : mm_H} {Q : Option Value → mm_H → Prop} (H : (((3 : Int32) ≤ i1 → Q none hp) ∧ (¬ (3 : Int32) ≤ i1 → mw_rc (.ref a0) 120 hp ∧ mm_R X d 120 0 (mm_L0 120 [(.ref a0), .int i1]) [] hp (mw_r0 (fun hp2 => mm_R X (d + 1) 119 237 [some ((.ref a0)), some (.int (i1 + (1 : Int32)))] [] hp2 Q))))) : mm_R X (d + 1) 119 237 [some ((.ref a0)), some (.int i1)] [] hp Q := by
  refine mm_R.br (L' := [some ((.ref a0)), some (.int i1)]) (st' := []) (t := 253) (u := 242) (b := mm_cc .ge i1 (3 : Int32)) 3 rfl (fun c => ?_) (fun c => ?_)
  · replace H := H.1 (of_decide_eq_true c)
    exact mm_R.rt (pc' := 253) (L' := [some ((.ref a0)), some (.int i1)]) (st1 := []) 0 rfl rfl rfl rfl rfl rfl H
  · replace H := H.2 (of_decide_eq_false c)
    obtain ⟨hc1, H⟩ := H
    refine mm_R.cV (pc' := 244) (L' := [some ((.ref a0)), some (.int i1)]) (st1 := [.int i1, (.ref a0)]) (as := [.int i1]) (rest := []) 2 rfl rfl (mw_sp rfl rfl (Nat.le_of_ble_eq_true rfl) (mw_ac rfl (mw_ac rfl mw_an)) mw_an) rfl rfl hc1 (H.mono (fun o hp2 H => ?_))
    obtain ⟨rfl, H⟩ := H
    exact mm_R.pn (pc' := 237) (L' := [some ((.ref a0)), some (.int (i1 + (1 : Int32)))]) (st' := []) 2 rfl H
