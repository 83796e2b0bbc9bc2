-- StepRunner.<init>, from 0
set_option maxRecDepth 10000 in
theorem w0_0 {X : List Int32} {d : Nat} {a0 : Nat} {hp : mm_H} {Q : Option Value → mm_H → Prop} (H : (∀ q1 hp2, q1 = hp.length → hp2 = hp ++ [(1, mm_df 1)] → mm_R X d 1 0 (mm_L0 1 [(.ref q1)]) [] hp2 (mw_r0 (fun hp3 => mw_pt 0 0 (.ref a0) ((.ref q1)) hp3 (fun hp4 => ((0 ≤ (3 : Int32) ∧ Int32.toNatClampNeg (3 : Int32) ≤ 100000) ∧ ∀ q5 hp6, q5 = hp4.length → hp6 = hp4 ++ [(2002, List.replicate (Int32.toNatClampNeg (3 : Int32)) (.null))] → mw_pt 0 1 (.ref a0) ((.ref q5)) hp6 (fun hp7 => mm_R X (d + 1) 0 25 [some ((.ref a0)), some (.int (0 : Int32))] [] hp7 Q))))))) : mm_R X (d + 1) 0 0 (mm_L0 0 [(.ref a0)]) [] hp Q := by
  show mm_R X (d + 1) 0 0 [some ((.ref a0)), none] [] hp Q
  refine mm_R.cP (pc' := 1) (L' := [some ((.ref a0)), none]) (st1 := [(.ref a0)]) (as := [(.ref a0)]) (rest := []) (o := none) 1 rfl rfl rfl rfl rfl (mw_sp rfl rfl (Nat.le_of_ble_eq_true rfl) (mw_ac rfl mw_an) mw_an) rfl rfl ?_
  refine mm_R.newK (pc' := 5) (L' := [some ((.ref a0)), none]) (r := [(.ref a0)]) 1 rfl rfl (fun q1 hp2 e1 e2 => ?_)
  replace H := H _ _ e1 e2
  refine mm_R.cI (pc' := 9) (L' := [some ((.ref a0)), none]) (st1 := [(.ref q1), (.ref q1), (.ref a0)]) (as := [(.ref q1)]) (rest := [(.ref q1), (.ref a0)]) 1 rfl rfl (mw_sp rfl rfl (Nat.le_of_ble_eq_true rfl) (mw_ac rfl mw_an) (mw_ac rfl (mw_ac rfl mw_an))) rfl rfl rfl (H.mono (fun o hp3 H => ?_))
  obtain ⟨rfl, H⟩ := H
  refine mm_R.wpt (pc' := 12) (L' := [some ((.ref a0)), none]) (r := []) 0 rfl rfl (H.mono (fun hp4 H => ?_))
  obtain ⟨hn8, H⟩ := H
  refine mm_R.nwqK (pc' := 17) (L' := [some ((.ref a0)), none]) (r := [(.ref a0)]) (x := (3 : Int32)) 2 rfl rfl  hn8 (fun q5 hp6 e1 e2 => ?_)
  replace H := H _ _ e1 e2
  refine mm_R.wpt (pc' := 20) (L' := [some ((.ref a0)), none]) (r := []) 0 rfl rfl (H.mono (fun hp7 H => ?_))
  exact mm_R.pn (pc' := 25) (L' := [some ((.ref a0)), some (.int (0 : Int32))]) (st' := []) 2 rfl H
-- StepRunner.<init>, from 25
set_option maxRecDepth 10000 in
theorem w0_25 {X : List Int32} {d : Nat} {a0 : Nat} {i1 : Int32} {hp : mm_H} {Q : Option Value → mm_H → Prop} (H : (((3 : Int32) ≤ i1 → ((0 ≤ (4 : Int32) ∧ Int32.toNatClampNeg (4 : Int32) ≤ 100000) ∧ ∀ q1 hp2, q1 = hp.length → hp2 = hp ++ [(2006, List.replicate (Int32.toNatClampNeg (4 : Int32)) (.null))] → mw_pt 0 2 (.ref a0) ((.ref q1)) hp2 (fun hp3 => ((0 ≤ (6 : Int32) ∧ Int32.toNatClampNeg (6 : Int32) ≤ 100000) ∧ ∀ q4 hp5, q4 = hp3.length → hp5 = hp3 ++ [(2007, List.replicate (Int32.toNatClampNeg (6 : Int32)) (.null))] → mw_pt 0 4 (.ref a0) ((.ref q4)) hp5 (fun hp6 => (∀ q7 hp8, q7 = hp6.length → hp8 = hp6 ++ [(3, mm_df 3)] → mm_R X d 5 0 (mm_L0 5 [(.ref q7)]) [] hp8 (mw_r0 (fun hp9 => mw_pt 0 6 (.ref a0) ((.ref q7)) hp9 (fun hp10 => Q none hp10))))))))) ∧ (¬ (3 : Int32) ≤ i1 → mw_gv 0 1 (.ref a0) hp (fun v13 => mm_isr v13 = true ∧ mm_R X d 2 0 (mm_L0 2 []) [] hp (mw_rv (fun v16 hp15 => mw_sv v13 i1 v16 hp15 (fun hp17 => mm_R X (d + 1) 0 25 [some ((.ref a0)), some (.int (i1 + (1 : Int32)))] [] hp17 Q))))))) : mm_R X (d + 1) 0 25 [some ((.ref a0)), some (.int i1)] [] hp Q := by
  refine mm_R.br (L' := [some ((.ref a0)), some (.int i1)]) (st' := []) (t := 45) (u := 30) (b := mm_cc .ge i1 (3 : Int32)) 3 rfl (fun c => ?_) (fun c => ?_)
  · replace H := H.1 (of_decide_eq_true c)
    obtain ⟨hn12, H⟩ := H
    refine mm_R.nwqK (pc' := 47) (L' := [some ((.ref a0)), some (.int i1)]) (r := [(.ref a0)]) (x := (4 : Int32)) 2 rfl rfl  hn12 (fun q1 hp2 e1 e2 => ?_)
    replace H := H _ _ e1 e2
    refine mm_R.wpt (pc' := 50) (L' := [some ((.ref a0)), some (.int i1)]) (r := []) 0 rfl rfl (H.mono (fun hp3 H => ?_))
    obtain ⟨hn11, H⟩ := H
    refine mm_R.nwqK (pc' := 56) (L' := [some ((.ref a0)), some (.int i1)]) (r := [(.ref a0)]) (x := (6 : Int32)) 2 rfl rfl  hn11 (fun q4 hp5 e1 e2 => ?_)
    replace H := H _ _ e1 e2
    refine mm_R.wpt (pc' := 59) (L' := [some ((.ref a0)), some (.int i1)]) (r := []) 0 rfl rfl (H.mono (fun hp6 H => ?_))
    refine mm_R.newK (pc' := 63) (L' := [some ((.ref a0)), some (.int i1)]) (r := [(.ref a0)]) 1 rfl rfl (fun q7 hp8 e1 e2 => ?_)
    replace H := H _ _ e1 e2
    refine mm_R.cI (pc' := 67) (L' := [some ((.ref a0)), some (.int i1)]) (st1 := [(.ref q7), (.ref q7), (.ref a0)]) (as := [(.ref q7)]) (rest := [(.ref q7), (.ref a0)]) 1 rfl rfl (mw_sp rfl rfl (Nat.le_of_ble_eq_true rfl) (mw_ac rfl mw_an) (mw_ac rfl (mw_ac rfl mw_an))) rfl rfl rfl (H.mono (fun o hp9 H => ?_))
    obtain ⟨rfl, H⟩ := H
    refine mm_R.wpt (pc' := 70) (L' := [some ((.ref a0)), some (.int i1)]) (r := []) 0 rfl rfl (H.mono (fun hp10 H => ?_))
    exact mm_R.rt (pc' := 73) (L' := [some ((.ref a0)), some (.int i1)]) (st1 := []) 0 rfl rfl rfl rfl rfl rfl H
  · replace H := H.2 (of_decide_eq_false c)
    refine mm_R.wgv (pc' := 31) (L' := [some ((.ref a0)), some (.int i1)]) (r := []) 1 rfl rfl (H.mono (fun v13 H => ?_))
    obtain ⟨hr14, H⟩ := H
    refine mm_R.cS (pc' := 35) (L' := [some ((.ref a0)), some (.int i1)]) (st1 := [.int i1, v13]) (as := []) (rest := [.int i1, v13]) 1 rfl rfl (mw_sp rfl rfl (Nat.le_of_ble_eq_true rfl) mw_an (mw_ac rfl (mw_ac (mw_c1 hr14) mw_an))) rfl rfl (H.mono (fun o hp15 H => ?_))
    obtain ⟨v16, rfl, H⟩ := H
    refine mm_R.wsv (pc' := 38) (L' := [some ((.ref a0)), some (.int i1)]) (r := []) 0 rfl rfl (H.mono (fun hp17 H => ?_))
    exact mm_R.pn (pc' := 25) (L' := [some ((.ref a0)), some (.int (i1 + (1 : Int32)))]) (st' := []) 2 rfl H
-- StepRunner$Draft.<init>, from 0
set_option maxRecDepth 10000 in
theorem w1_0 {X : List Int32} {d : Nat} {a0 : Nat} {hp : mm_H} {Q : Option Value → mm_H → Prop} (H : ((0 ≤ (60 : Int32) ∧ Int32.toNatClampNeg (60 : Int32) ≤ 100000) ∧ ∀ q1 hp2, q1 = hp.length → hp2 = hp ++ [(1001, List.replicate (Int32.toNatClampNeg (60 : Int32)) (.int 0))] → mw_pt 1 0 (.ref a0) ((.ref q1)) hp2 (fun hp3 => Q none hp3))) : mm_R X (d + 1) 1 0 (mm_L0 1 [(.ref a0)]) [] hp Q := by
  show mm_R X (d + 1) 1 0 [some ((.ref a0))] [] hp Q
  refine mm_R.cP (pc' := 1) (L' := [some ((.ref a0))]) (st1 := [(.ref a0)]) (as := [(.ref a0)]) (rest := []) (o := none) 1 rfl rfl rfl rfl rfl (mw_sp rfl rfl (Nat.le_of_ble_eq_true rfl) (mw_ac rfl mw_an) mw_an) rfl rfl ?_
  obtain ⟨hn4, H⟩ := H
  refine mm_R.nwaK (pc' := 7) (L' := [some ((.ref a0))]) (r := [(.ref a0)]) (x := (60 : Int32)) 2 rfl rfl rfl hn4 (fun q1 hp2 e1 e2 => ?_)
  replace H := H _ _ e1 e2
  refine mm_R.wpt (pc' := 9) (L' := [some ((.ref a0))]) (r := []) 0 rfl rfl (H.mono (fun hp3 H => ?_))
  exact mm_R.rt (pc' := 12) (L' := [some ((.ref a0))]) (st1 := []) 0 rfl rfl rfl rfl rfl rfl H
-- StepRunner$Value.nothing, from 0
set_option maxRecDepth 10000 in
theorem w2_0 {X : List Int32} {d : Nat}  {hp : mm_H} {Q : Option Value → mm_H → Prop} (H : (∀ q1 hp2, q1 = hp.length → hp2 = hp ++ [(2, mm_df 2)] → mw_tl (.retAddr 0) d (fun x3 => mm_R X d 3 0 (mm_L0 3 [(.ref q1), .int x3, .int (0 : Int32)]) [] hp2 (mw_r0 (fun hp4 => mw_rc (.ref q1) 4 hp4 ∧ mm_R X d 4 0 (mm_L0 4 [(.ref q1)]) [] hp4 (mw_r0 (fun hp6 => Q (some (.ref q1)) hp6))))))) : mm_R X (d + 1) 2 0 (mm_L0 2 []) [] hp Q := by
  show mm_R X (d + 1) 2 0 [none] [] hp Q
  refine mm_R.newK (pc' := 0) (L' := [none]) (r := []) 0 rfl rfl (fun q1 hp2 e1 e2 => ?_)
  replace H := H _ _ e1 e2
  refine mm_R.cTl (pc' := 6) (L' := [none]) (rest := [(.ref q1), (.ref q1)]) 2 rfl rfl rfl (mw_ac rfl (mw_ac rfl mw_an)) (H.mono (fun x3 H => ?_))
  refine mm_R.cI (pc' := 10) (L' := [none]) (st1 := [.int (0 : Int32), .int x3, (.ref q1), (.ref q1)]) (as := [(.ref q1), .int x3, .int (0 : Int32)]) (rest := [(.ref q1)]) 1 rfl rfl (mw_sp rfl rfl (Nat.le_of_ble_eq_true rfl) (mw_ac rfl (mw_ac rfl (mw_ac rfl mw_an))) (mw_ac rfl mw_an)) rfl rfl rfl (H.mono (fun o hp4 H => ?_))
  obtain ⟨rfl, H⟩ := H
  obtain ⟨hc5, H⟩ := H
  refine mm_R.cV (pc' := 15) (L' := [some ((.ref q1))]) (st1 := [(.ref q1)]) (as := []) (rest := []) 2 rfl rfl (mw_sp rfl rfl (Nat.le_of_ble_eq_true rfl) (mw_ac rfl mw_an) mw_an) rfl rfl hc5 (H.mono (fun o hp6 H => ?_))
  obtain ⟨rfl, H⟩ := H
  exact mm_R.rt (pc' := 19) (L' := [some ((.ref q1))]) (st1 := [(.ref q1)]) 1 rfl rfl rfl rfl rfl rfl H
-- StepRunner$Value.<init>, from 0
set_option maxRecDepth 10000 in
theorem w3_0 {X : List Int32} {d : Nat} {a0 : Nat} {i1 : Int32} {i2 : Int32} {hp : mm_H} {Q : Option Value → mm_H → Prop} (H : ((i1 ≤ (0 : Int32) → mw_pt 2 0 (.ref a0) (.null) hp (fun hp1 => ((i2 ≤ (0 : Int32) → mw_pt 2 1 (.ref a0) (.null) hp1 (fun hp2 => Q none hp2)) ∧ (¬ i2 ≤ (0 : Int32) → ((0 ≤ i2 ∧ Int32.toNatClampNeg i2 ≤ 100000) ∧ ∀ q3 hp4, q3 = hp1.length → hp4 = hp1 ++ [(2002, List.replicate (Int32.toNatClampNeg i2) (.null))] → mw_pt 2 1 (.ref a0) ((.ref q3)) hp4 (fun hp5 => Q none hp5)))))) ∧ (¬ i1 ≤ (0 : Int32) → ((0 ≤ i1 ∧ Int32.toNatClampNeg i1 ≤ 100000) ∧ ∀ q7 hp8, q7 = hp.length → hp8 = hp ++ [(1001, List.replicate (Int32.toNatClampNeg i1) (.int 0))] → mw_pt 2 0 (.ref a0) ((.ref q7)) hp8 (fun hp9 => ((i2 ≤ (0 : Int32) → mw_pt 2 1 (.ref a0) (.null) hp9 (fun hp10 => Q none hp10)) ∧ (¬ i2 ≤ (0 : Int32) → ((0 ≤ i2 ∧ Int32.toNatClampNeg i2 ≤ 100000) ∧ ∀ q11 hp12, q11 = hp9.length → hp12 = hp9 ++ [(2002, List.replicate (Int32.toNatClampNeg i2) (.null))] → mw_pt 2 1 (.ref a0) ((.ref q11)) hp12 (fun hp13 => Q none hp13))))))))) : mm_R X (d + 1) 3 0 (mm_L0 3 [(.ref a0), .int i1, .int i2]) [] hp Q := by
  show mm_R X (d + 1) 3 0 [some ((.ref a0)), some (.int i1), some (.int i2)] [] hp Q
  refine mm_R.cP (pc' := 1) (L' := [some ((.ref a0)), some (.int i1), some (.int i2)]) (st1 := [(.ref a0)]) (as := [(.ref a0)]) (rest := []) (o := none) 1 rfl rfl rfl rfl rfl (mw_sp rfl rfl (Nat.le_of_ble_eq_true rfl) (mw_ac rfl mw_an) mw_an) rfl rfl ?_
  refine mm_R.br (L' := [some ((.ref a0)), some (.int i1), some (.int i2)]) (st' := [(.ref a0)]) (t := 15) (u := 9) (b := mm_cc .le i1 (0 : Int32)) 3 rfl (fun c => ?_) (fun c => ?_)
  · replace H := H.1 (of_decide_eq_true c)
    refine mm_R.wpt (pc' := 16) (L' := [some ((.ref a0)), some (.int i1), some (.int i2)]) (r := []) 1 rfl rfl (H.mono (fun hp1 H => ?_))
    refine mm_R.br (L' := [some ((.ref a0)), some (.int i1), some (.int i2)]) (st' := [(.ref a0)]) (t := 31) (u := 24) (b := mm_cc .le i2 (0 : Int32)) 3 rfl (fun c => ?_) (fun c => ?_)
    · replace H := H.1 (of_decide_eq_true c)
      refine mm_R.wpt (pc' := 32) (L' := [some ((.ref a0)), some (.int i1), some (.int i2)]) (r := []) 1 rfl rfl (H.mono (fun hp2 H => ?_))
      exact mm_R.rt (pc' := 35) (L' := [some ((.ref a0)), some (.int i1), some (.int i2)]) (st1 := []) 0 rfl rfl rfl rfl rfl rfl H
    · replace H := H.2 (of_decide_eq_false c)
      obtain ⟨hn6, H⟩ := H
      refine mm_R.nwqK (pc' := 25) (L' := [some ((.ref a0)), some (.int i1), some (.int i2)]) (r := [(.ref a0)]) (x := i2) 1 rfl rfl  hn6 (fun q3 hp4 e1 e2 => ?_)
      replace H := H _ _ e1 e2
      refine mm_R.wpt (pc' := 32) (L' := [some ((.ref a0)), some (.int i1), some (.int i2)]) (r := []) 1 rfl rfl (H.mono (fun hp5 H => ?_))
      exact mm_R.rt (pc' := 35) (L' := [some ((.ref a0)), some (.int i1), some (.int i2)]) (st1 := []) 0 rfl rfl rfl rfl rfl rfl H
  · replace H := H.2 (of_decide_eq_false c)
    obtain ⟨hn15, H⟩ := H
    refine mm_R.nwaK (pc' := 10) (L' := [some ((.ref a0)), some (.int i1), some (.int i2)]) (r := [(.ref a0)]) (x := i1) 1 rfl rfl rfl hn15 (fun q7 hp8 e1 e2 => ?_)
    replace H := H _ _ e1 e2
    refine mm_R.wpt (pc' := 16) (L' := [some ((.ref a0)), some (.int i1), some (.int i2)]) (r := []) 1 rfl rfl (H.mono (fun hp9 H => ?_))
    refine mm_R.br (L' := [some ((.ref a0)), some (.int i1), some (.int i2)]) (st' := [(.ref a0)]) (t := 31) (u := 24) (b := mm_cc .le i2 (0 : Int32)) 3 rfl (fun c => ?_) (fun c => ?_)
    · replace H := H.1 (of_decide_eq_true c)
      refine mm_R.wpt (pc' := 32) (L' := [some ((.ref a0)), some (.int i1), some (.int i2)]) (r := []) 1 rfl rfl (H.mono (fun hp10 H => ?_))
      exact mm_R.rt (pc' := 35) (L' := [some ((.ref a0)), some (.int i1), some (.int i2)]) (st1 := []) 0 rfl rfl rfl rfl rfl rfl H
    · replace H := H.2 (of_decide_eq_false c)
      obtain ⟨hn14, H⟩ := H
      refine mm_R.nwqK (pc' := 25) (L' := [some ((.ref a0)), some (.int i1), some (.int i2)]) (r := [(.ref a0)]) (x := i2) 1 rfl rfl  hn14 (fun q11 hp12 e1 e2 => ?_)
      replace H := H _ _ e1 e2
      refine mm_R.wpt (pc' := 32) (L' := [some ((.ref a0)), some (.int i1), some (.int i2)]) (r := []) 1 rfl rfl (H.mono (fun hp13 H => ?_))
      exact mm_R.rt (pc' := 35) (L' := [some ((.ref a0)), some (.int i1), some (.int i2)]) (st1 := []) 0 rfl rfl rfl rfl rfl rfl H
-- StepRunner$Value.becomeNothing, from 0
set_option maxRecDepth 10000 in
theorem w4_0 {X : List Int32} {d : Nat} {a0 : Nat} {hp : mm_H} {Q : Option Value → mm_H → Prop} (H : mw_pt 2 2 (.ref a0) (.int (0 : Int32)) hp (fun hp1 => mw_pt 2 4 (.ref a0) (.int (0 : Int32)) hp1 (fun hp2 => mw_pt 2 5 (.ref a0) (.int (0 : Int32)) hp2 (fun hp3 => mw_tl (.retAddr 0) d (fun x4 => mw_pt 2 6 (.ref a0) (.int x4) hp3 (fun hp5 => mm_R X (d + 1) 4 26 [some ((.ref a0)), some (.int (0 : Int32))] [] hp5 Q)))))) : mm_R X (d + 1) 4 0 (mm_L0 4 [(.ref a0)]) [] hp Q := by
  show mm_R X (d + 1) 4 0 [some ((.ref a0)), none] [] hp Q
  refine mm_R.wpt (pc' := 2) (L' := [some ((.ref a0)), none]) (r := []) 2 rfl rfl (H.mono (fun hp1 H => ?_))
  refine mm_R.wpt (pc' := 7) (L' := [some ((.ref a0)), none]) (r := []) 2 rfl rfl (H.mono (fun hp2 H => ?_))
  refine mm_R.wpt (pc' := 12) (L' := [some ((.ref a0)), none]) (r := []) 2 rfl rfl (H.mono (fun hp3 H => ?_))
  refine mm_R.cTl (pc' := 18) (L' := [some ((.ref a0)), none]) (rest := [(.ref a0)]) 2 rfl rfl rfl (mw_ac rfl mw_an) (H.mono (fun x4 H => ?_))
  refine mm_R.wpt (pc' := 21) (L' := [some ((.ref a0)), none]) (r := []) 0 rfl rfl (H.mono (fun hp5 H => ?_))
  exact mm_R.pn (pc' := 26) (L' := [some ((.ref a0)), some (.int (0 : Int32))]) (st' := []) 2 rfl H
-- StepRunner$Value.becomeNothing, from 26
set_option maxRecDepth 10000 in
theorem w4_26 {X : List Int32} {d : Nat} {a0 : Nat} {i1 : Int32} {hp : mm_H} {Q : Option Value → mm_H → Prop} (H : mw_gv 2 0 (.ref a0) hp (fun v1 => mw_nl v1 (Q none hp) (mw_gi 2 6 (.ref a0) hp (fun x2 => ((x2 ≤ i1 → Q none hp) ∧ (¬ x2 ≤ i1 → mw_gv 2 0 (.ref a0) hp (fun v3 => mw_ln v3 hp (fun x4 => ((x4 ≤ i1 → Q none hp) ∧ (¬ x4 ≤ i1 → mw_gv 2 0 (.ref a0) hp (fun v5 => mm_isr v5 = true ∧ mw_tc (.retAddr 0) i1 d (fun x6 => mw_si 1001 .char v5 i1 x6 hp (fun hp8 => mm_R X (d + 1) 4 26 [some ((.ref a0)), some (.int (i1 + (1 : Int32)))] [] hp8 Q))))))))))))) : mm_R X (d + 1) 4 26 [some ((.ref a0)), some (.int i1)] [] hp Q := by
  refine mm_R.wgv (pc' := 27) (L' := [some ((.ref a0)), some (.int i1)]) (r := []) 1 rfl rfl (H.mono (fun v1 H => ?_))
  refine mm_R.wnl (pc' := 30) (L' := [some ((.ref a0)), some (.int i1)]) (r := []) (v := v1) (t := 68) (u := 33) 0 rfl rfl rfl (H.mono (fun H => ?_) (fun H => ?_))
  · exact mm_R.rt (pc' := 68) (L' := [some ((.ref a0)), some (.int i1)]) (st1 := []) 0 rfl rfl rfl rfl rfl rfl H
  · refine mm_R.wgi (pc' := 35) (L' := [some ((.ref a0)), some (.int i1)]) (r := [.int i1]) 2 rfl rfl (H.mono (fun x2 H => ?_))
    refine mm_R.br (L' := [some ((.ref a0)), some (.int i1)]) (st' := []) (t := 68) (u := 41) (b := mm_cc .ge i1 x2) 1 rfl (fun c => ?_) (fun c => ?_)
    · replace H := H.1 (of_decide_eq_true c)
      exact mm_R.rt (pc' := 68) (L' := [some ((.ref a0)), some (.int i1)]) (st1 := []) 0 rfl rfl rfl rfl rfl rfl H
    · replace H := H.2 (of_decide_eq_false c)
      refine mm_R.wgv (pc' := 43) (L' := [some ((.ref a0)), some (.int i1)]) (r := [.int i1]) 2 rfl rfl (H.mono (fun v3 H => ?_))
      refine mm_R.wln (pc' := 46) (L' := [some ((.ref a0)), some (.int i1)]) (r := [.int i1]) 0 rfl rfl (H.mono (fun x4 H => ?_))
      refine mm_R.br (L' := [some ((.ref a0)), some (.int i1)]) (st' := []) (t := 68) (u := 50) (b := mm_cc .ge i1 x4) 1 rfl (fun c => ?_) (fun c => ?_)
      · replace H := H.1 (of_decide_eq_true c)
        exact mm_R.rt (pc' := 68) (L' := [some ((.ref a0)), some (.int i1)]) (st1 := []) 0 rfl rfl rfl rfl rfl rfl H
      · replace H := H.2 (of_decide_eq_false c)
        refine mm_R.wgv (pc' := 51) (L' := [some ((.ref a0)), some (.int i1)]) (r := []) 1 rfl rfl (H.mono (fun v5 H => ?_))
        obtain ⟨hr7, H⟩ := H
        refine mm_R.cTc (pc' := 58) (L' := [some ((.ref a0)), some (.int i1)]) (rest := [.int i1, v5]) 3 rfl rfl rfl (mw_ac rfl (mw_ac (mw_c1 hr7) mw_an)) (H.mono (fun x6 H => ?_))
        refine mm_R.wsi (pc' := 61) (L' := [some ((.ref a0)), some (.int i1)]) (r := []) (t := 1001) (ty := .char) 0 rfl rfl rfl rfl (H.mono (fun hp8 H => ?_))
        exact mm_R.pn (pc' := 26) (L' := [some ((.ref a0)), some (.int (i1 + (1 : Int32)))]) (st' := []) 2 rfl H
-- StepRunner$Run.<init>, from 0
set_option maxRecDepth 10000 in
theorem w5_0 {X : List Int32} {d : Nat} {a0 : Nat} {hp : mm_H} {Q : Option Value → mm_H → Prop} (H : (∀ q1 hp2, q1 = hp.length → hp2 = hp ++ [(4, mm_df 4)] → mm_R X d 6 0 (mm_L0 6 [(.ref q1)]) [] hp2 (mw_r0 (fun hp3 => mw_pt 3 0 (.ref a0) ((.ref q1)) hp3 (fun hp4 => ((0 ≤ (6 : Int32) ∧ Int32.toNatClampNeg (6 : Int32) ≤ 100000) ∧ ∀ q5 hp6, q5 = hp4.length → hp6 = hp4 ++ [(2005, List.replicate (Int32.toNatClampNeg (6 : Int32)) (.null))] → mw_pt 3 1 (.ref a0) ((.ref q5)) hp6 (fun hp7 => ((0 ≤ (3 : Int32) ∧ Int32.toNatClampNeg (3 : Int32) ≤ 100000) ∧ ∀ q8 hp9, q8 = hp7.length → hp9 = hp7 ++ [(2009, List.replicate (Int32.toNatClampNeg (3 : Int32)) (.null))] → mw_pt 3 2 (.ref a0) ((.ref q8)) hp9 (fun hp10 => ((0 ≤ (0 : Int32) ∧ Int32.toNatClampNeg (0 : Int32) ≤ 100000) ∧ ∀ q11 hp12, q11 = hp10.length → hp12 = hp10 ++ [(2007, List.replicate (Int32.toNatClampNeg (0 : Int32)) (.null))] → mw_pt 3 5 (.ref a0) ((.ref q11)) hp12 (fun hp13 => ((0 ≤ (0 : Int32) ∧ Int32.toNatClampNeg (0 : Int32) ≤ 100000) ∧ ∀ q14 hp15, q14 = hp13.length → hp15 = hp13 ++ [(2002, List.replicate (Int32.toNatClampNeg (0 : Int32)) (.null))] → mw_pt 3 6 (.ref a0) ((.ref q14)) hp15 (fun hp16 => mw_pt 3 10 (.ref a0) (.int (0 : Int32)) hp16 (fun hp17 => mm_R X (d + 1) 5 55 [some ((.ref a0)), some (.int (0 : Int32))] [] hp17 Q)))))))))))))) : mm_R X (d + 1) 5 0 (mm_L0 5 [(.ref a0)]) [] hp Q := by
  show mm_R X (d + 1) 5 0 [some ((.ref a0)), none] [] hp Q
  refine mm_R.cP (pc' := 1) (L' := [some ((.ref a0)), none]) (st1 := [(.ref a0)]) (as := [(.ref a0)]) (rest := []) (o := none) 1 rfl rfl rfl rfl rfl (mw_sp rfl rfl (Nat.le_of_ble_eq_true rfl) (mw_ac rfl mw_an) mw_an) rfl rfl ?_
  refine mm_R.newK (pc' := 5) (L' := [some ((.ref a0)), none]) (r := [(.ref a0)]) 1 rfl rfl (fun q1 hp2 e1 e2 => ?_)
  replace H := H _ _ e1 e2
  refine mm_R.cI (pc' := 9) (L' := [some ((.ref a0)), none]) (st1 := [(.ref q1), (.ref q1), (.ref a0)]) (as := [(.ref q1)]) (rest := [(.ref q1), (.ref a0)]) 1 rfl rfl (mw_sp rfl rfl (Nat.le_of_ble_eq_true rfl) (mw_ac rfl mw_an) (mw_ac rfl (mw_ac rfl mw_an))) rfl rfl rfl (H.mono (fun o hp3 H => ?_))
  obtain ⟨rfl, H⟩ := H
  refine mm_R.wpt (pc' := 12) (L' := [some ((.ref a0)), none]) (r := []) 0 rfl rfl (H.mono (fun hp4 H => ?_))
  obtain ⟨hn21, H⟩ := H
  refine mm_R.nwqK (pc' := 18) (L' := [some ((.ref a0)), none]) (r := [(.ref a0)]) (x := (6 : Int32)) 2 rfl rfl  hn21 (fun q5 hp6 e1 e2 => ?_)
  replace H := H _ _ e1 e2
  refine mm_R.wpt (pc' := 21) (L' := [some ((.ref a0)), none]) (r := []) 0 rfl rfl (H.mono (fun hp7 H => ?_))
  obtain ⟨hn20, H⟩ := H
  refine mm_R.nwqK (pc' := 26) (L' := [some ((.ref a0)), none]) (r := [(.ref a0)]) (x := (3 : Int32)) 2 rfl rfl  hn20 (fun q8 hp9 e1 e2 => ?_)
  replace H := H _ _ e1 e2
  refine mm_R.wpt (pc' := 29) (L' := [some ((.ref a0)), none]) (r := []) 0 rfl rfl (H.mono (fun hp10 H => ?_))
  obtain ⟨hn19, H⟩ := H
  refine mm_R.nwqK (pc' := 34) (L' := [some ((.ref a0)), none]) (r := [(.ref a0)]) (x := (0 : Int32)) 2 rfl rfl  hn19 (fun q11 hp12 e1 e2 => ?_)
  replace H := H _ _ e1 e2
  refine mm_R.wpt (pc' := 37) (L' := [some ((.ref a0)), none]) (r := []) 0 rfl rfl (H.mono (fun hp13 H => ?_))
  obtain ⟨hn18, H⟩ := H
  refine mm_R.nwqK (pc' := 42) (L' := [some ((.ref a0)), none]) (r := [(.ref a0)]) (x := (0 : Int32)) 2 rfl rfl  hn18 (fun q14 hp15 e1 e2 => ?_)
  replace H := H _ _ e1 e2
  refine mm_R.wpt (pc' := 45) (L' := [some ((.ref a0)), none]) (r := []) 0 rfl rfl (H.mono (fun hp16 H => ?_))
  refine mm_R.wpt (pc' := 50) (L' := [some ((.ref a0)), none]) (r := []) 2 rfl rfl (H.mono (fun hp17 H => ?_))
  exact mm_R.pn (pc' := 55) (L' := [some ((.ref a0)), some (.int (0 : Int32))]) (st' := []) 2 rfl H
-- StepRunner$Run.<init>, from 55
set_option maxRecDepth 10000 in
theorem w5_55 {X : List Int32} {d : Nat} {a0 : Nat} {i1 : Int32} {hp : mm_H} {Q : Option Value → mm_H → Prop} (H : (((6 : Int32) ≤ i1 → Q none hp) ∧ (¬ (6 : Int32) ≤ i1 → mw_gv 3 1 (.ref a0) hp (fun v1 => (∀ q2 hp3, q2 = hp.length → hp3 = hp ++ [(5, mm_df 5)] → mm_isr v1 = true ∧ mm_R X d 11 0 (mm_L0 11 [(.ref q2), .int i1]) [] hp3 (mw_r0 (fun hp5 => mw_sv v1 i1 (.ref q2) hp5 (fun hp6 => mm_R X (d + 1) 5 55 [some ((.ref a0)), some (.int (i1 + (1 : Int32)))] [] hp6 Q)))))))) : mm_R X (d + 1) 5 55 [some ((.ref a0)), some (.int i1)] [] hp Q := by
  refine mm_R.br (L' := [some ((.ref a0)), some (.int i1)]) (st' := []) (t := 81) (u := 61) (b := mm_cc .ge i1 (6 : Int32)) 3 rfl (fun c => ?_) (fun c => ?_)
  · replace H := H.1 (of_decide_eq_true c)
    exact mm_R.rt (pc' := 81) (L' := [some ((.ref a0)), some (.int i1)]) (st1 := []) 0 rfl rfl rfl rfl rfl rfl H
  · replace H := H.2 (of_decide_eq_false c)
    refine mm_R.wgv (pc' := 62) (L' := [some ((.ref a0)), some (.int i1)]) (r := []) 1 rfl rfl (H.mono (fun v1 H => ?_))
    refine mm_R.newK (pc' := 66) (L' := [some ((.ref a0)), some (.int i1)]) (r := [.int i1, v1]) 1 rfl rfl (fun q2 hp3 e1 e2 => ?_)
    replace H := H _ _ e1 e2
    obtain ⟨hr4, H⟩ := H
    refine mm_R.cI (pc' := 71) (L' := [some ((.ref a0)), some (.int i1)]) (st1 := [.int i1, (.ref q2), (.ref q2), .int i1, v1]) (as := [(.ref q2), .int i1]) (rest := [(.ref q2), .int i1, v1]) 2 rfl rfl (mw_sp rfl rfl (Nat.le_of_ble_eq_true rfl) (mw_ac rfl (mw_ac rfl mw_an)) (mw_ac rfl (mw_ac rfl (mw_ac (mw_c1 hr4) mw_an)))) rfl rfl rfl (H.mono (fun o hp5 H => ?_))
    obtain ⟨rfl, H⟩ := H
    refine mm_R.wsv (pc' := 74) (L' := [some ((.ref a0)), some (.int i1)]) (r := []) 0 rfl rfl (H.mono (fun hp6 H => ?_))
    exact mm_R.pn (pc' := 55) (L' := [some ((.ref a0)), some (.int (i1 + (1 : Int32)))]) (st' := []) 2 rfl H
-- StepRunner$Expander.<init>, from 0
set_option maxRecDepth 10000 in
theorem w6_0 {X : List Int32} {d : Nat} {a0 : Nat} {hp : mm_H} {Q : Option Value → mm_H → Prop} (H : mm_R X d 2 0 (mm_L0 2 []) [] hp (mw_rv (fun v2 hp1 => mw_pt 4 0 (.ref a0) (v2) hp1 (fun hp3 => mm_R X d 7 0 (mm_L0 7 [.int (0 : Int32)]) [] hp3 (mw_rv (fun v5 hp4 => mw_pt 4 1 (.ref a0) (v5) hp4 (fun hp6 => ((0 ≤ (4 : Int32) ∧ Int32.toNatClampNeg (4 : Int32) ≤ 100000) ∧ ∀ q7 hp8, q7 = hp6.length → hp8 = hp6 ++ [(2002, List.replicate (Int32.toNatClampNeg (4 : Int32)) (.null))] → mw_pt 4 2 (.ref a0) ((.ref q7)) hp8 (fun hp9 => ((0 ≤ (4 : Int32) ∧ Int32.toNatClampNeg (4 : Int32) ≤ 100000) ∧ ∀ q10 hp11, q10 = hp9.length → hp11 = hp9 ++ [(2002, List.replicate (Int32.toNatClampNeg (4 : Int32)) (.null))] → mw_pt 4 3 (.ref a0) ((.ref q10)) hp11 (fun hp12 => ((0 ≤ (4 : Int32) ∧ Int32.toNatClampNeg (4 : Int32) ≤ 100000) ∧ ∀ q13 hp14, q13 = hp12.length → hp14 = hp12 ++ [(2002, List.replicate (Int32.toNatClampNeg (4 : Int32)) (.null))] → mw_pt 4 4 (.ref a0) ((.ref q13)) hp14 (fun hp15 => mm_R X d 7 0 (mm_L0 7 [.int (24 : Int32)]) [] hp15 (mw_rv (fun v17 hp16 => mw_pt 4 5 (.ref a0) (v17) hp16 (fun hp18 => mm_R X d 7 0 (mm_L0 7 [.int (24 : Int32)]) [] hp18 (mw_rv (fun v20 hp19 => mw_pt 4 6 (.ref a0) (v20) hp19 (fun hp21 => ((0 ≤ (4 : Int32) ∧ Int32.toNatClampNeg (4 : Int32) ≤ 100000) ∧ ∀ q22 hp23, q22 = hp21.length → hp23 = hp21 ++ [(2002, List.replicate (Int32.toNatClampNeg (4 : Int32)) (.null))] → mw_pt 4 7 (.ref a0) ((.ref q22)) hp23 (fun hp24 => ((0 ≤ (4 : Int32) ∧ Int32.toNatClampNeg (4 : Int32) ≤ 100000) ∧ ∀ q25 hp26, q25 = hp24.length → hp26 = hp24 ++ [(2002, List.replicate (Int32.toNatClampNeg (4 : Int32)) (.null))] → mw_pt 4 8 (.ref a0) ((.ref q25)) hp26 (fun hp27 => ((0 ≤ (4 : Int32) ∧ Int32.toNatClampNeg (4 : Int32) ≤ 100000) ∧ ∀ q28 hp29, q28 = hp27.length → hp29 = hp27 ++ [(2002, List.replicate (Int32.toNatClampNeg (4 : Int32)) (.null))] → mw_pt 4 9 (.ref a0) ((.ref q28)) hp29 (fun hp30 => mm_R X (d + 1) 6 87 [some ((.ref a0)), some (.int (0 : Int32))] [] hp30 Q))))))))))))))))))))))))) : mm_R X (d + 1) 6 0 (mm_L0 6 [(.ref a0)]) [] hp Q := by
  show mm_R X (d + 1) 6 0 [some ((.ref a0)), none] [] hp Q
  refine mm_R.cP (pc' := 1) (L' := [some ((.ref a0)), none]) (st1 := [(.ref a0)]) (as := [(.ref a0)]) (rest := []) (o := none) 1 rfl rfl rfl rfl rfl (mw_sp rfl rfl (Nat.le_of_ble_eq_true rfl) (mw_ac rfl mw_an) mw_an) rfl rfl ?_
  refine mm_R.cS (pc' := 5) (L' := [some ((.ref a0)), none]) (st1 := [(.ref a0)]) (as := []) (rest := [(.ref a0)]) 1 rfl rfl (mw_sp rfl rfl (Nat.le_of_ble_eq_true rfl) mw_an (mw_ac rfl mw_an)) rfl rfl (H.mono (fun o hp1 H => ?_))
  obtain ⟨v2, rfl, H⟩ := H
  refine mm_R.wpt (pc' := 8) (L' := [some ((.ref a0)), none]) (r := []) 0 rfl rfl (H.mono (fun hp3 H => ?_))
  refine mm_R.cS (pc' := 13) (L' := [some ((.ref a0)), none]) (st1 := [.int (0 : Int32), (.ref a0)]) (as := [.int (0 : Int32)]) (rest := [(.ref a0)]) 2 rfl rfl (mw_sp rfl rfl (Nat.le_of_ble_eq_true rfl) (mw_ac rfl mw_an) (mw_ac rfl mw_an)) rfl rfl (H.mono (fun o hp4 H => ?_))
  obtain ⟨v5, rfl, H⟩ := H
  refine mm_R.wpt (pc' := 16) (L' := [some ((.ref a0)), none]) (r := []) 0 rfl rfl (H.mono (fun hp6 H => ?_))
  obtain ⟨hn36, H⟩ := H
  refine mm_R.nwqK (pc' := 21) (L' := [some ((.ref a0)), none]) (r := [(.ref a0)]) (x := (4 : Int32)) 2 rfl rfl  hn36 (fun q7 hp8 e1 e2 => ?_)
  replace H := H _ _ e1 e2
  refine mm_R.wpt (pc' := 24) (L' := [some ((.ref a0)), none]) (r := []) 0 rfl rfl (H.mono (fun hp9 H => ?_))
  obtain ⟨hn35, H⟩ := H
  refine mm_R.nwqK (pc' := 29) (L' := [some ((.ref a0)), none]) (r := [(.ref a0)]) (x := (4 : Int32)) 2 rfl rfl  hn35 (fun q10 hp11 e1 e2 => ?_)
  replace H := H _ _ e1 e2
  refine mm_R.wpt (pc' := 32) (L' := [some ((.ref a0)), none]) (r := []) 0 rfl rfl (H.mono (fun hp12 H => ?_))
  obtain ⟨hn34, H⟩ := H
  refine mm_R.nwqK (pc' := 37) (L' := [some ((.ref a0)), none]) (r := [(.ref a0)]) (x := (4 : Int32)) 2 rfl rfl  hn34 (fun q13 hp14 e1 e2 => ?_)
  replace H := H _ _ e1 e2
  refine mm_R.wpt (pc' := 40) (L' := [some ((.ref a0)), none]) (r := []) 0 rfl rfl (H.mono (fun hp15 H => ?_))
  refine mm_R.cS (pc' := 46) (L' := [some ((.ref a0)), none]) (st1 := [.int (24 : Int32), (.ref a0)]) (as := [.int (24 : Int32)]) (rest := [(.ref a0)]) 2 rfl rfl (mw_sp rfl rfl (Nat.le_of_ble_eq_true rfl) (mw_ac rfl mw_an) (mw_ac rfl mw_an)) rfl rfl (H.mono (fun o hp16 H => ?_))
  obtain ⟨v17, rfl, H⟩ := H
  refine mm_R.wpt (pc' := 49) (L' := [some ((.ref a0)), none]) (r := []) 0 rfl rfl (H.mono (fun hp18 H => ?_))
  refine mm_R.cS (pc' := 55) (L' := [some ((.ref a0)), none]) (st1 := [.int (24 : Int32), (.ref a0)]) (as := [.int (24 : Int32)]) (rest := [(.ref a0)]) 2 rfl rfl (mw_sp rfl rfl (Nat.le_of_ble_eq_true rfl) (mw_ac rfl mw_an) (mw_ac rfl mw_an)) rfl rfl (H.mono (fun o hp19 H => ?_))
  obtain ⟨v20, rfl, H⟩ := H
  refine mm_R.wpt (pc' := 58) (L' := [some ((.ref a0)), none]) (r := []) 0 rfl rfl (H.mono (fun hp21 H => ?_))
  obtain ⟨hn33, H⟩ := H
  refine mm_R.nwqK (pc' := 63) (L' := [some ((.ref a0)), none]) (r := [(.ref a0)]) (x := (4 : Int32)) 2 rfl rfl  hn33 (fun q22 hp23 e1 e2 => ?_)
  replace H := H _ _ e1 e2
  refine mm_R.wpt (pc' := 66) (L' := [some ((.ref a0)), none]) (r := []) 0 rfl rfl (H.mono (fun hp24 H => ?_))
  obtain ⟨hn32, H⟩ := H
  refine mm_R.nwqK (pc' := 71) (L' := [some ((.ref a0)), none]) (r := [(.ref a0)]) (x := (4 : Int32)) 2 rfl rfl  hn32 (fun q25 hp26 e1 e2 => ?_)
  replace H := H _ _ e1 e2
  refine mm_R.wpt (pc' := 74) (L' := [some ((.ref a0)), none]) (r := []) 0 rfl rfl (H.mono (fun hp27 H => ?_))
  obtain ⟨hn31, H⟩ := H
  refine mm_R.nwqK (pc' := 79) (L' := [some ((.ref a0)), none]) (r := [(.ref a0)]) (x := (4 : Int32)) 2 rfl rfl  hn31 (fun q28 hp29 e1 e2 => ?_)
  replace H := H _ _ e1 e2
  refine mm_R.wpt (pc' := 82) (L' := [some ((.ref a0)), none]) (r := []) 0 rfl rfl (H.mono (fun hp30 H => ?_))
  exact mm_R.pn (pc' := 87) (L' := [some ((.ref a0)), some (.int (0 : Int32))]) (st' := []) 2 rfl H
-- StepRunner$Expander.<init>, from 87
set_option maxRecDepth 10000 in
theorem w6_87 {X : List Int32} {d : Nat} {a0 : Nat} {i1 : Int32} {hp : mm_H} {Q : Option Value → mm_H → Prop} (H : (((4 : Int32) ≤ i1 → Q none hp) ∧ (¬ (4 : Int32) ≤ i1 → mw_gv 4 2 (.ref a0) hp (fun v1 => mm_isr v1 = true ∧ mm_R X d 9 0 (mm_L0 9 [.int (8 : Int32)]) [] hp (mw_rv (fun v4 hp3 => mw_sv v1 i1 v4 hp3 (fun hp5 => mw_gv 4 3 (.ref a0) hp5 (fun v6 => mm_isr v6 = true ∧ mm_R X d 9 0 (mm_L0 9 [.int (8 : Int32)]) [] hp5 (mw_rv (fun v9 hp8 => mw_sv v6 i1 v9 hp8 (fun hp10 => mw_gv 4 4 (.ref a0) hp10 (fun v11 => mm_isr v11 = true ∧ mm_R X d 7 0 (mm_L0 7 [.int (24 : Int32)]) [] hp10 (mw_rv (fun v14 hp13 => mw_sv v11 i1 v14 hp13 (fun hp15 => mw_gv 4 7 (.ref a0) hp15 (fun v16 => mw_gv 4 0 (.ref a0) hp15 (fun v17 => mw_sv v16 i1 v17 hp15 (fun hp18 => mw_gv 4 8 (.ref a0) hp18 (fun v19 => mw_gv 4 0 (.ref a0) hp18 (fun v20 => mw_sv v19 i1 v20 hp18 (fun hp21 => mw_gv 4 9 (.ref a0) hp21 (fun v22 => mw_gv 4 0 (.ref a0) hp21 (fun v23 => mw_sv v22 i1 v23 hp21 (fun hp24 => mm_R X (d + 1) 6 87 [some ((.ref a0)), some (.int (i1 + (1 : Int32)))] [] hp24 Q)))))))))))))))))))))))) : mm_R X (d + 1) 6 87 [some ((.ref a0)), some (.int i1)] [] hp Q := by
  refine mm_R.br (L' := [some ((.ref a0)), some (.int i1)]) (st' := []) (t := 161) (u := 92) (b := mm_cc .ge i1 (4 : Int32)) 3 rfl (fun c => ?_) (fun c => ?_)
  · replace H := H.1 (of_decide_eq_true c)
    exact mm_R.rt (pc' := 161) (L' := [some ((.ref a0)), some (.int i1)]) (st1 := []) 0 rfl rfl rfl rfl rfl rfl H
  · replace H := H.2 (of_decide_eq_false c)
    refine mm_R.wgv (pc' := 93) (L' := [some ((.ref a0)), some (.int i1)]) (r := []) 1 rfl rfl (H.mono (fun v1 H => ?_))
    obtain ⟨hr2, H⟩ := H
    refine mm_R.cS (pc' := 99) (L' := [some ((.ref a0)), some (.int i1)]) (st1 := [.int (8 : Int32), .int i1, v1]) (as := [.int (8 : Int32)]) (rest := [.int i1, v1]) 2 rfl rfl (mw_sp rfl rfl (Nat.le_of_ble_eq_true rfl) (mw_ac rfl mw_an) (mw_ac rfl (mw_ac (mw_c1 hr2) mw_an))) rfl rfl (H.mono (fun o hp3 H => ?_))
    obtain ⟨v4, rfl, H⟩ := H
    refine mm_R.wsv (pc' := 102) (L' := [some ((.ref a0)), some (.int i1)]) (r := []) 0 rfl rfl (H.mono (fun hp5 H => ?_))
    refine mm_R.wgv (pc' := 104) (L' := [some ((.ref a0)), some (.int i1)]) (r := []) 1 rfl rfl (H.mono (fun v6 H => ?_))
    obtain ⟨hr7, H⟩ := H
    refine mm_R.cS (pc' := 110) (L' := [some ((.ref a0)), some (.int i1)]) (st1 := [.int (8 : Int32), .int i1, v6]) (as := [.int (8 : Int32)]) (rest := [.int i1, v6]) 2 rfl rfl (mw_sp rfl rfl (Nat.le_of_ble_eq_true rfl) (mw_ac rfl mw_an) (mw_ac rfl (mw_ac (mw_c1 hr7) mw_an))) rfl rfl (H.mono (fun o hp8 H => ?_))
    obtain ⟨v9, rfl, H⟩ := H
    refine mm_R.wsv (pc' := 113) (L' := [some ((.ref a0)), some (.int i1)]) (r := []) 0 rfl rfl (H.mono (fun hp10 H => ?_))
    refine mm_R.wgv (pc' := 115) (L' := [some ((.ref a0)), some (.int i1)]) (r := []) 1 rfl rfl (H.mono (fun v11 H => ?_))
    obtain ⟨hr12, H⟩ := H
    refine mm_R.cS (pc' := 121) (L' := [some ((.ref a0)), some (.int i1)]) (st1 := [.int (24 : Int32), .int i1, v11]) (as := [.int (24 : Int32)]) (rest := [.int i1, v11]) 2 rfl rfl (mw_sp rfl rfl (Nat.le_of_ble_eq_true rfl) (mw_ac rfl mw_an) (mw_ac rfl (mw_ac (mw_c1 hr12) mw_an))) rfl rfl (H.mono (fun o hp13 H => ?_))
    obtain ⟨v14, rfl, H⟩ := H
    refine mm_R.wsv (pc' := 124) (L' := [some ((.ref a0)), some (.int i1)]) (r := []) 0 rfl rfl (H.mono (fun hp15 H => ?_))
    refine mm_R.wgv (pc' := 126) (L' := [some ((.ref a0)), some (.int i1)]) (r := []) 1 rfl rfl (H.mono (fun v16 H => ?_))
    refine mm_R.wgv (pc' := 131) (L' := [some ((.ref a0)), some (.int i1)]) (r := [.int i1, v16]) 2 rfl rfl (H.mono (fun v17 H => ?_))
    refine mm_R.wsv (pc' := 134) (L' := [some ((.ref a0)), some (.int i1)]) (r := []) 0 rfl rfl (H.mono (fun hp18 H => ?_))
    refine mm_R.wgv (pc' := 136) (L' := [some ((.ref a0)), some (.int i1)]) (r := []) 1 rfl rfl (H.mono (fun v19 H => ?_))
    refine mm_R.wgv (pc' := 141) (L' := [some ((.ref a0)), some (.int i1)]) (r := [.int i1, v19]) 2 rfl rfl (H.mono (fun v20 H => ?_))
    refine mm_R.wsv (pc' := 144) (L' := [some ((.ref a0)), some (.int i1)]) (r := []) 0 rfl rfl (H.mono (fun hp21 H => ?_))
    refine mm_R.wgv (pc' := 146) (L' := [some ((.ref a0)), some (.int i1)]) (r := []) 1 rfl rfl (H.mono (fun v22 H => ?_))
    refine mm_R.wgv (pc' := 151) (L' := [some ((.ref a0)), some (.int i1)]) (r := [.int i1, v22]) 2 rfl rfl (H.mono (fun v23 H => ?_))
    refine mm_R.wsv (pc' := 154) (L' := [some ((.ref a0)), some (.int i1)]) (r := []) 0 rfl rfl (H.mono (fun hp24 H => ?_))
    exact mm_R.pn (pc' := 87) (L' := [some ((.ref a0)), some (.int (i1 + (1 : Int32)))]) (st' := []) 2 rfl H
-- StepRunner$Value.emptyText, from 0
set_option maxRecDepth 10000 in
theorem w7_0 {X : List Int32} {d : Nat} {i0 : Int32} {hp : mm_H} {Q : Option Value → mm_H → Prop} (H : (∀ q1 hp2, q1 = hp.length → hp2 = hp ++ [(2, mm_df 2)] → mm_R X d 3 0 (mm_L0 3 [(.ref q1), .int ((if (0 : Int32) < (if (24 : Int32) < i0 then (24 : Int32) else i0) then (if (24 : Int32) < i0 then (24 : Int32) else i0) else (0 : Int32)) + (2 : Int32)), .int (0 : Int32)]) [] hp2 (mw_r0 (fun hp3 => mw_rc (.ref q1) 8 hp3 ∧ mm_R X d 8 0 (mm_L0 8 [(.ref q1)]) [] hp3 (mw_ri (fun x6 hp5 => Q (some (.ref q1)) hp5)))))) : mm_R X (d + 1) 7 0 (mm_L0 7 [.int i0]) [] hp Q := by
  show mm_R X (d + 1) 7 0 [some (.int i0), none] [] hp Q
  refine mm_R.newK (pc' := 0) (L' := [some (.int i0), none]) (r := []) 0 rfl rfl (fun q1 hp2 e1 e2 => ?_)
  replace H := H _ _ e1 e2
  refine mm_R.cP (pc' := 8) (L' := [some (.int i0), none]) (st1 := [.int (24 : Int32), .int i0, .int (0 : Int32), (.ref q1), (.ref q1)]) (as := [.int i0, .int (24 : Int32)]) (rest := [.int (0 : Int32), (.ref q1), (.ref q1)]) (o := some (.int (if (24 : Int32) < i0 then (24 : Int32) else i0))) 4 rfl rfl rfl rfl rfl (mw_sp rfl rfl (Nat.le_of_ble_eq_true rfl) (mw_ac rfl (mw_ac rfl mw_an)) (mw_ac rfl (mw_ac rfl (mw_ac rfl mw_an)))) rfl rfl ?_
  refine mm_R.cP (pc' := 11) (L' := [some (.int i0), none]) (st1 := [.int (if (24 : Int32) < i0 then (24 : Int32) else i0), .int (0 : Int32), (.ref q1), (.ref q1)]) (as := [.int (0 : Int32), .int (if (24 : Int32) < i0 then (24 : Int32) else i0)]) (rest := [(.ref q1), (.ref q1)]) (o := some (.int (if (0 : Int32) < (if (24 : Int32) < i0 then (24 : Int32) else i0) then (if (24 : Int32) < i0 then (24 : Int32) else i0) else (0 : Int32)))) 0 rfl rfl rfl rfl rfl (mw_sp rfl rfl (Nat.le_of_ble_eq_true rfl) (mw_ac rfl (mw_ac rfl mw_an)) (mw_ac rfl (mw_ac rfl mw_an))) rfl rfl ?_
  refine mm_R.cI (pc' := 17) (L' := [some (.int i0), none]) (st1 := [.int (0 : Int32), .int ((if (0 : Int32) < (if (24 : Int32) < i0 then (24 : Int32) else i0) then (if (24 : Int32) < i0 then (24 : Int32) else i0) else (0 : Int32)) + (2 : Int32)), (.ref q1), (.ref q1)]) (as := [(.ref q1), .int ((if (0 : Int32) < (if (24 : Int32) < i0 then (24 : Int32) else i0) then (if (24 : Int32) < i0 then (24 : Int32) else i0) else (0 : Int32)) + (2 : Int32)), .int (0 : Int32)]) (rest := [(.ref q1)]) 3 rfl rfl (mw_sp rfl rfl (Nat.le_of_ble_eq_true rfl) (mw_ac rfl (mw_ac rfl (mw_ac rfl mw_an))) (mw_ac rfl mw_an)) rfl rfl rfl (H.mono (fun o hp3 H => ?_))
  obtain ⟨rfl, H⟩ := H
  obtain ⟨hc4, H⟩ := H
  refine mm_R.cV (pc' := 22) (L' := [some (.int i0), some ((.ref q1))]) (st1 := [(.ref q1)]) (as := []) (rest := []) 2 rfl rfl (mw_sp rfl rfl (Nat.le_of_ble_eq_true rfl) (mw_ac rfl mw_an) mw_an) rfl rfl hc4 (H.mono (fun o hp5 H => ?_))
  obtain ⟨x6, rfl, H⟩ := H
  exact mm_R.rt (pc' := 27) (L' := [some (.int i0), some ((.ref q1))]) (st1 := [(.ref q1)]) 2 rfl rfl rfl rfl rfl rfl H
-- StepRunner$Value.becomeText, from 0
set_option maxRecDepth 10000 in
theorem w8_0 {X : List Int32} {d : Nat} {a0 : Nat} {hp : mm_H} {Q : Option Value → mm_H → Prop} (H : mw_gv 2 0 (.ref a0) hp (fun v1 => mw_nl v1 (Q (some (.int (0 : Int32))) hp) (mw_gv 2 0 (.ref a0) hp (fun v2 => mw_ln v2 hp (fun x3 => (((2 : Int32) ≤ x3 → mw_pt 2 2 (.ref a0) (.int (2 : Int32)) hp (fun hp4 => mw_pt 2 4 (.ref a0) (.int (0 : Int32)) hp4 (fun hp5 => mw_pt 2 5 (.ref a0) (.int (0 : Int32)) hp5 (fun hp6 => mw_pt 2 6 (.ref a0) (.int (2 : Int32)) hp6 (fun hp7 => mw_gv 2 0 (.ref a0) hp7 (fun v8 => mw_si 1001 .char v8 (0 : Int32) (34 : Int32) hp7 (fun hp9 => mw_gv 2 0 (.ref a0) hp9 (fun v10 => mw_si 1001 .char v10 (1 : Int32) (34 : Int32) hp9 (fun hp11 => Q (some (.int (1 : Int32))) hp11))))))))) ∧ (¬ (2 : Int32) ≤ x3 → Q (some (.int (0 : Int32))) hp))))))) : mm_R X (d + 1) 8 0 (mm_L0 8 [(.ref a0)]) [] hp Q := by
  show mm_R X (d + 1) 8 0 [some ((.ref a0))] [] hp Q
  refine mm_R.wgv (pc' := 1) (L' := [some ((.ref a0))]) (r := []) 1 rfl rfl (H.mono (fun v1 H => ?_))
  refine mm_R.wnl (pc' := 4) (L' := [some ((.ref a0))]) (r := []) (v := v1) (t := 16) (u := 7) 0 rfl rfl rfl (H.mono (fun H => ?_) (fun H => ?_))
  · exact mm_R.rt (pc' := 17) (L' := [some ((.ref a0))]) (st1 := [.int (0 : Int32)]) 1 rfl rfl rfl rfl rfl rfl H
  · refine mm_R.wgv (pc' := 8) (L' := [some ((.ref a0))]) (r := []) 1 rfl rfl (H.mono (fun v2 H => ?_))
    refine mm_R.wln (pc' := 11) (L' := [some ((.ref a0))]) (r := []) 0 rfl rfl (H.mono (fun x3 H => ?_))
    refine mm_R.br (L' := [some ((.ref a0))]) (st' := []) (t := 18) (u := 16) (b := mm_cc .ge x3 (2 : Int32)) 2 rfl (fun c => ?_) (fun c => ?_)
    · replace H := H.1 (of_decide_eq_true c)
      refine mm_R.wpt (pc' := 20) (L' := [some ((.ref a0))]) (r := []) 2 rfl rfl (H.mono (fun hp4 H => ?_))
      refine mm_R.wpt (pc' := 25) (L' := [some ((.ref a0))]) (r := []) 2 rfl rfl (H.mono (fun hp5 H => ?_))
      refine mm_R.wpt (pc' := 30) (L' := [some ((.ref a0))]) (r := []) 2 rfl rfl (H.mono (fun hp6 H => ?_))
      refine mm_R.wpt (pc' := 35) (L' := [some ((.ref a0))]) (r := []) 2 rfl rfl (H.mono (fun hp7 H => ?_))
      refine mm_R.wgv (pc' := 39) (L' := [some ((.ref a0))]) (r := []) 1 rfl rfl (H.mono (fun v8 H => ?_))
      refine mm_R.wsi (pc' := 45) (L' := [some ((.ref a0))]) (r := []) (t := 1001) (ty := .char) 2 rfl rfl rfl rfl (H.mono (fun hp9 H => ?_))
      refine mm_R.wgv (pc' := 47) (L' := [some ((.ref a0))]) (r := []) 1 rfl rfl (H.mono (fun v10 H => ?_))
      refine mm_R.wsi (pc' := 53) (L' := [some ((.ref a0))]) (r := []) (t := 1001) (ty := .char) 2 rfl rfl rfl rfl (H.mono (fun hp11 H => ?_))
      exact mm_R.rt (pc' := 55) (L' := [some ((.ref a0))]) (st1 := [.int (1 : Int32)]) 1 rfl rfl rfl rfl rfl rfl H
    · replace H := H.2 (of_decide_eq_false c)
      exact mm_R.rt (pc' := 17) (L' := [some ((.ref a0))]) (st1 := [.int (0 : Int32)]) 1 rfl rfl rfl rfl rfl rfl H
-- StepRunner$Value.emptyList, from 0
set_option maxRecDepth 10000 in
theorem w9_0 {X : List Int32} {d : Nat} {i0 : Int32} {hp : mm_H} {Q : Option Value → mm_H → Prop} (H : (∀ q1 hp2, q1 = hp.length → hp2 = hp ++ [(2, mm_df 2)] → mm_R X d 3 0 (mm_L0 3 [(.ref q1), .int (0 : Int32), .int (if (0 : Int32) < (if (8 : Int32) < i0 then (8 : Int32) else i0) then (if (8 : Int32) < i0 then (8 : Int32) else i0) else (0 : Int32))]) [] hp2 (mw_r0 (fun hp3 => mw_rc (.ref q1) 10 hp3 ∧ mm_R X d 10 0 (mm_L0 10 [(.ref q1)]) [] hp3 (mw_r0 (fun hp5 => Q (some (.ref q1)) hp5)))))) : mm_R X (d + 1) 9 0 (mm_L0 9 [.int i0]) [] hp Q := by
  show mm_R X (d + 1) 9 0 [some (.int i0), none] [] hp Q
  refine mm_R.newK (pc' := 0) (L' := [some (.int i0), none]) (r := []) 0 rfl rfl (fun q1 hp2 e1 e2 => ?_)
  replace H := H _ _ e1 e2
  refine mm_R.cP (pc' := 9) (L' := [some (.int i0), none]) (st1 := [.int (8 : Int32), .int i0, .int (0 : Int32), .int (0 : Int32), (.ref q1), (.ref q1)]) (as := [.int i0, .int (8 : Int32)]) (rest := [.int (0 : Int32), .int (0 : Int32), (.ref q1), (.ref q1)]) (o := some (.int (if (8 : Int32) < i0 then (8 : Int32) else i0))) 5 rfl rfl rfl rfl rfl (mw_sp rfl rfl (Nat.le_of_ble_eq_true rfl) (mw_ac rfl (mw_ac rfl mw_an)) (mw_ac rfl (mw_ac rfl (mw_ac rfl (mw_ac rfl mw_an))))) rfl rfl ?_
  refine mm_R.cP (pc' := 12) (L' := [some (.int i0), none]) (st1 := [.int (if (8 : Int32) < i0 then (8 : Int32) else i0), .int (0 : Int32), .int (0 : Int32), (.ref q1), (.ref q1)]) (as := [.int (0 : Int32), .int (if (8 : Int32) < i0 then (8 : Int32) else i0)]) (rest := [.int (0 : Int32), (.ref q1), (.ref q1)]) (o := some (.int (if (0 : Int32) < (if (8 : Int32) < i0 then (8 : Int32) else i0) then (if (8 : Int32) < i0 then (8 : Int32) else i0) else (0 : Int32)))) 0 rfl rfl rfl rfl rfl (mw_sp rfl rfl (Nat.le_of_ble_eq_true rfl) (mw_ac rfl (mw_ac rfl mw_an)) (mw_ac rfl (mw_ac rfl (mw_ac rfl mw_an)))) rfl rfl ?_
  refine mm_R.cI (pc' := 15) (L' := [some (.int i0), none]) (st1 := [.int (if (0 : Int32) < (if (8 : Int32) < i0 then (8 : Int32) else i0) then (if (8 : Int32) < i0 then (8 : Int32) else i0) else (0 : Int32)), .int (0 : Int32), (.ref q1), (.ref q1)]) (as := [(.ref q1), .int (0 : Int32), .int (if (0 : Int32) < (if (8 : Int32) < i0 then (8 : Int32) else i0) then (if (8 : Int32) < i0 then (8 : Int32) else i0) else (0 : Int32))]) (rest := [(.ref q1)]) 0 rfl rfl (mw_sp rfl rfl (Nat.le_of_ble_eq_true rfl) (mw_ac rfl (mw_ac rfl (mw_ac rfl mw_an))) (mw_ac rfl mw_an)) rfl rfl rfl (H.mono (fun o hp3 H => ?_))
  obtain ⟨rfl, H⟩ := H
  obtain ⟨hc4, H⟩ := H
  refine mm_R.cV (pc' := 20) (L' := [some (.int i0), some ((.ref q1))]) (st1 := [(.ref q1)]) (as := []) (rest := []) 2 rfl rfl (mw_sp rfl rfl (Nat.le_of_ble_eq_true rfl) (mw_ac rfl mw_an) mw_an) rfl rfl hc4 (H.mono (fun o hp5 H => ?_))
  obtain ⟨rfl, H⟩ := H
  exact mm_R.rt (pc' := 24) (L' := [some (.int i0), some ((.ref q1))]) (st1 := [(.ref q1)]) 1 rfl rfl rfl rfl rfl rfl H
-- StepRunner$Value.becomeList, from 0
set_option maxRecDepth 10000 in
theorem w10_0 {X : List Int32} {d : Nat} {a0 : Nat} {hp : mm_H} {Q : Option Value → mm_H → Prop} (H : mw_pt 2 2 (.ref a0) (.int (3 : Int32)) hp (fun hp1 => mw_pt 2 4 (.ref a0) (.int (0 : Int32)) hp1 (fun hp2 => mw_pt 2 5 (.ref a0) (.int (1 : Int32)) hp2 (fun hp3 => mw_pt 2 6 (.ref a0) (.int (2 : Int32)) hp3 (fun hp4 => Q none hp4))))) : mm_R X (d + 1) 10 0 (mm_L0 10 [(.ref a0)]) [] hp Q := by
  show mm_R X (d + 1) 10 0 [some ((.ref a0))] [] hp Q
  refine mm_R.wpt (pc' := 2) (L' := [some ((.ref a0))]) (r := []) 2 rfl rfl (H.mono (fun hp1 H => ?_))
  refine mm_R.wpt (pc' := 7) (L' := [some ((.ref a0))]) (r := []) 2 rfl rfl (H.mono (fun hp2 H => ?_))
  refine mm_R.wpt (pc' := 12) (L' := [some ((.ref a0))]) (r := []) 2 rfl rfl (H.mono (fun hp3 H => ?_))
  refine mm_R.wpt (pc' := 17) (L' := [some ((.ref a0))]) (r := []) 2 rfl rfl (H.mono (fun hp4 H => ?_))
  exact mm_R.rt (pc' := 20) (L' := [some ((.ref a0))]) (st1 := []) 0 rfl rfl rfl rfl rfl rfl H
-- StepRunner$Progress.<init>, from 0
set_option maxRecDepth 10000 in
theorem w11_0 {X : List Int32} {d : Nat} {a0 : Nat} {i1 : Int32} {hp : mm_H} {Q : Option Value → mm_H → Prop} (H : ((0 ≤ (16 : Int32) ∧ Int32.toNatClampNeg (16 : Int32) ≤ 100000) ∧ ∀ q1 hp2, q1 = hp.length → hp2 = hp ++ [(2009, List.replicate (Int32.toNatClampNeg (16 : Int32)) (.null))] → mw_pt 5 1 (.ref a0) ((.ref q1)) hp2 (fun hp3 => ((0 ≤ (16 : Int32) ∧ Int32.toNatClampNeg (16 : Int32) ≤ 100000) ∧ ∀ q4 hp5, q4 = hp3.length → hp5 = hp3 ++ [(2002, List.replicate (Int32.toNatClampNeg (16 : Int32)) (.null))] → mw_pt 5 2 (.ref a0) ((.ref q4)) hp5 (fun hp6 => ((0 ≤ (4 : Int32) ∧ Int32.toNatClampNeg (4 : Int32) ≤ 100000) ∧ ∀ q7 hp8, q7 = hp6.length → hp8 = hp6 ++ [(1000, List.replicate (Int32.toNatClampNeg (4 : Int32)) (.int 0))] → mw_pt 5 3 (.ref a0) ((.ref q7)) hp8 (fun hp9 => mm_R X d 9 0 (mm_L0 9 [.int (0 : Int32)]) [] hp9 (mw_rv (fun v11 hp10 => mw_pt 5 4 (.ref a0) (v11) hp10 (fun hp12 => mw_pt 5 0 (.ref a0) (.int i1) hp12 (fun hp13 => Q none hp13))))))))))) : mm_R X (d + 1) 11 0 (mm_L0 11 [(.ref a0), .int i1]) [] hp Q := by
  show mm_R X (d + 1) 11 0 [some ((.ref a0)), some (.int i1)] [] hp Q
  refine mm_R.cP (pc' := 1) (L' := [some ((.ref a0)), some (.int i1)]) (st1 := [(.ref a0)]) (as := [(.ref a0)]) (rest := []) (o := none) 1 rfl rfl rfl rfl rfl (mw_sp rfl rfl (Nat.le_of_ble_eq_true rfl) (mw_ac rfl mw_an) mw_an) rfl rfl ?_
  obtain ⟨hn16, H⟩ := H
  refine mm_R.nwqK (pc' := 7) (L' := [some ((.ref a0)), some (.int i1)]) (r := [(.ref a0)]) (x := (16 : Int32)) 2 rfl rfl  hn16 (fun q1 hp2 e1 e2 => ?_)
  replace H := H _ _ e1 e2
  refine mm_R.wpt (pc' := 10) (L' := [some ((.ref a0)), some (.int i1)]) (r := []) 0 rfl rfl (H.mono (fun hp3 H => ?_))
  obtain ⟨hn15, H⟩ := H
  refine mm_R.nwqK (pc' := 16) (L' := [some ((.ref a0)), some (.int i1)]) (r := [(.ref a0)]) (x := (16 : Int32)) 2 rfl rfl  hn15 (fun q4 hp5 e1 e2 => ?_)
  replace H := H _ _ e1 e2
  refine mm_R.wpt (pc' := 19) (L' := [some ((.ref a0)), some (.int i1)]) (r := []) 0 rfl rfl (H.mono (fun hp6 H => ?_))
  obtain ⟨hn14, H⟩ := H
  refine mm_R.nwaK (pc' := 24) (L' := [some ((.ref a0)), some (.int i1)]) (r := [(.ref a0)]) (x := (4 : Int32)) 2 rfl rfl rfl hn14 (fun q7 hp8 e1 e2 => ?_)
  replace H := H _ _ e1 e2
  refine mm_R.wpt (pc' := 26) (L' := [some ((.ref a0)), some (.int i1)]) (r := []) 0 rfl rfl (H.mono (fun hp9 H => ?_))
  refine mm_R.cS (pc' := 31) (L' := [some ((.ref a0)), some (.int i1)]) (st1 := [.int (0 : Int32), (.ref a0)]) (as := [.int (0 : Int32)]) (rest := [(.ref a0)]) 2 rfl rfl (mw_sp rfl rfl (Nat.le_of_ble_eq_true rfl) (mw_ac rfl mw_an) (mw_ac rfl mw_an)) rfl rfl (H.mono (fun o hp10 H => ?_))
  obtain ⟨v11, rfl, H⟩ := H
  refine mm_R.wpt (pc' := 34) (L' := [some ((.ref a0)), some (.int i1)]) (r := []) 0 rfl rfl (H.mono (fun hp12 H => ?_))
  refine mm_R.wpt (pc' := 39) (L' := [some ((.ref a0)), some (.int i1)]) (r := []) 2 rfl rfl (H.mono (fun hp13 H => ?_))
  exact mm_R.rt (pc' := 42) (L' := [some ((.ref a0)), some (.int i1)]) (st1 := []) 0 rfl rfl rfl rfl rfl rfl H
-- StepRunner.write, from 0
set_option maxRecDepth 10000 in
theorem w12_0 {X : List Int32} {d : Nat} {a0 : Nat} {i1 : Int32} {hp : mm_H} {Q : Option Value → mm_H → Prop} (H : mw_gv 0 0 (.ref a0) hp (fun v1 => mw_rc v1 13 hp ∧ mm_R X d 13 0 (mm_L0 13 [v1, .int i1]) [] hp (mw_ri (fun x4 hp3 => mm_fv .boolean (.int x4) = true ∧ Q (some (.int x4)) hp3)))) : mm_R X (d + 1) 12 0 (mm_L0 12 [(.ref a0), .int i1]) [] hp Q := by
  show mm_R X (d + 1) 12 0 [some ((.ref a0)), some (.int i1)] [] hp Q
  refine mm_R.wgv (pc' := 1) (L' := [some ((.ref a0)), some (.int i1)]) (r := []) 1 rfl rfl (H.mono (fun v1 H => ?_))
  obtain ⟨hc2, H⟩ := H
  refine mm_R.cV (pc' := 5) (L' := [some ((.ref a0)), some (.int i1)]) (st1 := [.int i1, v1]) (as := [.int i1]) (rest := []) 1 rfl rfl (mw_sp rfl rfl (Nat.le_of_ble_eq_true rfl) (mw_ac (mw_c1 hc2.isr) (mw_ac rfl mw_an)) mw_an) rfl rfl hc2 (H.mono (fun o hp3 H => ?_))
  obtain ⟨x4, rfl, H⟩ := H
  exact mm_R.rt (pc' := 8) (L' := [some ((.ref a0)), some (.int i1)]) (st1 := [.int x4]) 0 rfl rfl rfl rfl rfl (mw_rvi (ty := .boolean) H.1) H.2
-- StepRunner$Draft.add, from 0
set_option maxRecDepth 10000 in
theorem w13_0 {X : List Int32} {d : Nat} {a0 : Nat} {i1 : Int32} {hp : mm_H} {Q : Option Value → mm_H → Prop} (H : mm_R X d 14 0 (mm_L0 14 [.int i1]) [] hp (mw_ri (fun x2 hp1 => ((x2 = (0 : Int32) → Q (some (.int (0 : Int32))) hp1) ∧ (¬ x2 = (0 : Int32) → mw_gi 1 1 (.ref a0) hp1 (fun x3 => mw_gv 1 0 (.ref a0) hp1 (fun v4 => mw_ln v4 hp1 (fun x5 => ((x3 < x5 → mw_gv 1 0 (.ref a0) hp1 (fun v6 => mw_gi 1 1 (.ref a0) hp1 (fun x7 => mw_si 1001 .char v6 x7 i1 hp1 (fun hp8 => mw_gi 1 1 (.ref a0) hp8 (fun x9 => mw_pt 1 1 (.ref a0) (.int (x9 + (1 : Int32))) hp8 (fun hp10 => Q (some (.int (1 : Int32))) hp10)))))) ∧ (¬ x3 < x5 → Q (some (.int (0 : Int32))) hp1)))))))))) : mm_R X (d + 1) 13 0 (mm_L0 13 [(.ref a0), .int i1]) [] hp Q := by
  show mm_R X (d + 1) 13 0 [some ((.ref a0)), some (.int i1)] [] hp Q
  refine mm_R.cS (pc' := 1) (L' := [some ((.ref a0)), some (.int i1)]) (st1 := [.int i1]) (as := [.int i1]) (rest := []) 1 rfl rfl (mw_sp rfl rfl (Nat.le_of_ble_eq_true rfl) (mw_ac rfl mw_an) mw_an) rfl rfl (H.mono (fun o hp1 H => ?_))
  obtain ⟨x2, rfl, H⟩ := H
  refine mm_R.br (L' := [some ((.ref a0)), some (.int i1)]) (st' := []) (t := 19) (u := 7) (b := mm_cc .eq x2 (0 : Int32)) 1 rfl (fun c => ?_) (fun c => ?_)
  · replace H := H.1 (of_decide_eq_true c)
    exact mm_R.rt (pc' := 20) (L' := [some ((.ref a0)), some (.int i1)]) (st1 := [.int (0 : Int32)]) 1 rfl rfl rfl rfl rfl rfl H
  · replace H := H.2 (of_decide_eq_false c)
    refine mm_R.wgi (pc' := 8) (L' := [some ((.ref a0)), some (.int i1)]) (r := []) 1 rfl rfl (H.mono (fun x3 H => ?_))
    refine mm_R.wgv (pc' := 12) (L' := [some ((.ref a0)), some (.int i1)]) (r := [.int x3]) 1 rfl rfl (H.mono (fun v4 H => ?_))
    refine mm_R.wln (pc' := 15) (L' := [some ((.ref a0)), some (.int i1)]) (r := [.int x3]) 0 rfl rfl (H.mono (fun x5 H => ?_))
    refine mm_R.br (L' := [some ((.ref a0)), some (.int i1)]) (st' := []) (t := 21) (u := 19) (b := mm_cc .lt x3 x5) 1 rfl (fun c => ?_) (fun c => ?_)
    · replace H := H.1 (of_decide_eq_true c)
      refine mm_R.wgv (pc' := 22) (L' := [some ((.ref a0)), some (.int i1)]) (r := []) 1 rfl rfl (H.mono (fun v6 H => ?_))
      refine mm_R.wgi (pc' := 26) (L' := [some ((.ref a0)), some (.int i1)]) (r := [v6]) 1 rfl rfl (H.mono (fun x7 H => ?_))
      refine mm_R.wsi (pc' := 30) (L' := [some ((.ref a0)), some (.int i1)]) (r := []) (t := 1001) (ty := .char) 1 rfl rfl rfl rfl (H.mono (fun hp8 H => ?_))
      refine mm_R.wgi (pc' := 33) (L' := [some ((.ref a0)), some (.int i1)]) (r := [(.ref a0)]) 2 rfl rfl (H.mono (fun x9 H => ?_))
      refine mm_R.wpt (pc' := 38) (L' := [some ((.ref a0)), some (.int i1)]) (r := []) 2 rfl rfl (H.mono (fun hp10 H => ?_))
      exact mm_R.rt (pc' := 42) (L' := [some ((.ref a0)), some (.int i1)]) (st1 := [.int (1 : Int32)]) 1 rfl rfl rfl rfl rfl rfl H
    · replace H := H.2 (of_decide_eq_false c)
      exact mm_R.rt (pc' := 20) (L' := [some ((.ref a0)), some (.int i1)]) (st1 := [.int (0 : Int32)]) 1 rfl rfl rfl rfl rfl rfl H
-- StepRunner.isPrintable, from 0
set_option maxRecDepth 10000 in
theorem w14_0 {X : List Int32} {d : Nat} {i0 : Int32} {hp : mm_H} {Q : Option Value → mm_H → Prop} (H : ((i0 < (32 : Int32) → Q (some (.int (0 : Int32))) hp) ∧ (¬ i0 < (32 : Int32) → (((126 : Int32) < i0 → Q (some (.int (0 : Int32))) hp) ∧ (¬ (126 : Int32) < i0 → Q (some (.int (1 : Int32))) hp))))) : mm_R X (d + 1) 14 0 (mm_L0 14 [.int i0]) [] hp Q := by
  show mm_R X (d + 1) 14 0 [some (.int i0)] [] hp Q
  refine mm_R.br (L' := [some (.int i0)]) (st' := []) (t := 16) (u := 6) (b := mm_cc .lt i0 (32 : Int32)) 3 rfl (fun c => ?_) (fun c => ?_)
  · replace H := H.1 (of_decide_eq_true c)
    exact mm_R.rt (pc' := 17) (L' := [some (.int i0)]) (st1 := [.int (0 : Int32)]) 1 rfl rfl rfl rfl rfl rfl H
  · replace H := H.2 (of_decide_eq_false c)
    refine mm_R.br (L' := [some (.int i0)]) (st' := []) (t := 16) (u := 12) (b := mm_cc .gt i0 (126 : Int32)) 3 rfl (fun c => ?_) (fun c => ?_)
    · replace H := H.1 (of_decide_eq_true c)
      exact mm_R.rt (pc' := 17) (L' := [some (.int i0)]) (st1 := [.int (0 : Int32)]) 1 rfl rfl rfl rfl rfl rfl H
    · replace H := H.2 (of_decide_eq_false c)
      exact mm_R.rt (pc' := 17) (L' := [some (.int i0)]) (st1 := [.int (1 : Int32)]) 2 rfl rfl rfl rfl rfl rfl H
-- StepRunner.tool, from 0
set_option maxRecDepth 10000 in
theorem w15_0 {X : List Int32} {d : Nat} {a0 : Nat} {i1 : Int32} {hp : mm_H} {Q : Option Value → mm_H → Prop} (H : mw_gv 0 6 (.ref a0) hp (fun v1 => mw_rc v1 16 hp ∧ mm_R X d 16 0 (mm_L0 16 [v1]) [] hp (mw_ri (fun x4 hp3 => ((¬ x4 = (0 : Int32) → Q (some (.int (-1 : Int32))) hp3) ∧ (x4 = (0 : Int32) → mw_gi 0 3 (.ref a0) hp3 (fun x5 => (((4 : Int32) ≤ x5 → Q (some (.int (-1 : Int32))) hp3) ∧ (¬ (4 : Int32) ≤ x5 → ((i1 < (0 : Int32) → Q (some (.int (-1 : Int32))) hp3) ∧ (¬ i1 < (0 : Int32) → ((i1 ≤ (3 : Int32) → mw_gv 0 2 (.ref a0) hp3 (fun v6 => mw_gi 0 3 (.ref a0) hp3 (fun x7 => (∀ q8 hp9, q8 = hp3.length → hp9 = hp3 ++ [(6, mm_df 6)] → mm_isr v6 = true ∧ mm_R X d 17 0 (mm_L0 17 [(.ref q8), .int i1]) [] hp9 (mw_r0 (fun hp11 => mw_sv v6 x7 (.ref q8) hp11 (fun hp12 => mw_gi 0 3 (.ref a0) hp12 (fun x13 => mw_pt 0 3 (.ref a0) (.int (x13 + (1 : Int32))) hp12 (fun hp14 => mw_gi 0 3 (.ref a0) hp14 (fun x15 => Q (some (.int (x15 - (1 : Int32)))) hp14)))))))))) ∧ (¬ i1 ≤ (3 : Int32) → Q (some (.int (-1 : Int32))) hp3))))))))))))) : mm_R X (d + 1) 15 0 (mm_L0 15 [(.ref a0), .int i1]) [] hp Q := by
  show mm_R X (d + 1) 15 0 [some ((.ref a0)), some (.int i1)] [] hp Q
  refine mm_R.wgv (pc' := 1) (L' := [some ((.ref a0)), some (.int i1)]) (r := []) 1 rfl rfl (H.mono (fun v1 H => ?_))
  obtain ⟨hc2, H⟩ := H
  refine mm_R.cV (pc' := 4) (L' := [some ((.ref a0)), some (.int i1)]) (st1 := [v1]) (as := []) (rest := []) 0 rfl rfl (mw_sp rfl rfl (Nat.le_of_ble_eq_true rfl) (mw_ac (mw_c1 hc2.isr) mw_an) mw_an) rfl rfl hc2 (H.mono (fun o hp3 H => ?_))
  obtain ⟨x4, rfl, H⟩ := H
  refine mm_R.br (L' := [some ((.ref a0)), some (.int i1)]) (st' := []) (t := 27) (u := 10) (b := mm_cc .ne x4 (0 : Int32)) 1 rfl (fun c => ?_) (fun c => ?_)
  · replace H := H.1 (of_decide_eq_true c)
    exact mm_R.rt (pc' := 28) (L' := [some ((.ref a0)), some (.int i1)]) (st1 := [.int (-1 : Int32)]) 1 rfl rfl rfl rfl rfl rfl H
  · replace H := H.2 (Decidable.of_not_not (of_decide_eq_false c))
    refine mm_R.wgi (pc' := 11) (L' := [some ((.ref a0)), some (.int i1)]) (r := []) 1 rfl rfl (H.mono (fun x5 H => ?_))
    refine mm_R.br (L' := [some ((.ref a0)), some (.int i1)]) (st' := []) (t := 27) (u := 18) (b := mm_cc .ge x5 (4 : Int32)) 2 rfl (fun c => ?_) (fun c => ?_)
    · replace H := H.1 (of_decide_eq_true c)
      exact mm_R.rt (pc' := 28) (L' := [some ((.ref a0)), some (.int i1)]) (st1 := [.int (-1 : Int32)]) 1 rfl rfl rfl rfl rfl rfl H
    · replace H := H.2 (of_decide_eq_false c)
      refine mm_R.br (L' := [some ((.ref a0)), some (.int i1)]) (st' := []) (t := 27) (u := 22) (b := mm_cc .lt i1 (0 : Int32)) 2 rfl (fun c => ?_) (fun c => ?_)
      · replace H := H.1 (of_decide_eq_true c)
        exact mm_R.rt (pc' := 28) (L' := [some ((.ref a0)), some (.int i1)]) (st1 := [.int (-1 : Int32)]) 1 rfl rfl rfl rfl rfl rfl H
      · replace H := H.2 (of_decide_eq_false c)
        refine mm_R.br (L' := [some ((.ref a0)), some (.int i1)]) (st' := []) (t := 29) (u := 27) (b := mm_cc .le i1 (3 : Int32)) 3 rfl (fun c => ?_) (fun c => ?_)
        · replace H := H.1 (of_decide_eq_true c)
          refine mm_R.wgv (pc' := 30) (L' := [some ((.ref a0)), some (.int i1)]) (r := []) 1 rfl rfl (H.mono (fun v6 H => ?_))
          refine mm_R.wgi (pc' := 34) (L' := [some ((.ref a0)), some (.int i1)]) (r := [v6]) 1 rfl rfl (H.mono (fun x7 H => ?_))
          refine mm_R.newK (pc' := 37) (L' := [some ((.ref a0)), some (.int i1)]) (r := [.int x7, v6]) 0 rfl rfl (fun q8 hp9 e1 e2 => ?_)
          replace H := H _ _ e1 e2
          obtain ⟨hr10, H⟩ := H
          refine mm_R.cI (pc' := 42) (L' := [some ((.ref a0)), some (.int i1)]) (st1 := [.int i1, (.ref q8), (.ref q8), .int x7, v6]) (as := [(.ref q8), .int i1]) (rest := [(.ref q8), .int x7, v6]) 2 rfl rfl (mw_sp rfl rfl (Nat.le_of_ble_eq_true rfl) (mw_ac rfl (mw_ac rfl mw_an)) (mw_ac rfl (mw_ac rfl (mw_ac (mw_c1 hr10) mw_an)))) rfl rfl rfl (H.mono (fun o hp11 H => ?_))
          obtain ⟨rfl, H⟩ := H
          refine mm_R.wsv (pc' := 45) (L' := [some ((.ref a0)), some (.int i1)]) (r := []) 0 rfl rfl (H.mono (fun hp12 H => ?_))
          refine mm_R.wgi (pc' := 48) (L' := [some ((.ref a0)), some (.int i1)]) (r := [(.ref a0)]) 2 rfl rfl (H.mono (fun x13 H => ?_))
          refine mm_R.wpt (pc' := 53) (L' := [some ((.ref a0)), some (.int i1)]) (r := []) 2 rfl rfl (H.mono (fun hp14 H => ?_))
          refine mm_R.wgi (pc' := 57) (L' := [some ((.ref a0)), some (.int i1)]) (r := []) 1 rfl rfl (H.mono (fun x15 H => ?_))
          exact mm_R.rt (pc' := 62) (L' := [some ((.ref a0)), some (.int i1)]) (st1 := [.int (x15 - (1 : Int32))]) 2 rfl rfl rfl rfl rfl rfl H
        · replace H := H.2 (of_decide_eq_false c)
          exact mm_R.rt (pc' := 28) (L' := [some ((.ref a0)), some (.int i1)]) (st1 := [.int (-1 : Int32)]) 1 rfl rfl rfl rfl rfl rfl H
-- StepRunner$Run.goesOn, from 0
set_option maxRecDepth 10000 in
theorem w16_0 {X : List Int32} {d : Nat} {a0 : Nat} {hp : mm_H} {Q : Option Value → mm_H → Prop} (H : mw_gi 3 10 (.ref a0) hp (fun x1 => ((¬ x1 = (1 : Int32) → Q (some (.int (0 : Int32))) hp) ∧ (x1 = (1 : Int32) → Q (some (.int (1 : Int32))) hp)))) : mm_R X (d + 1) 16 0 (mm_L0 16 [(.ref a0)]) [] hp Q := by
  show mm_R X (d + 1) 16 0 [some ((.ref a0))] [] hp Q
  refine mm_R.wgi (pc' := 1) (L' := [some ((.ref a0))]) (r := []) 1 rfl rfl (H.mono (fun x1 H => ?_))
  refine mm_R.br (L' := [some ((.ref a0))]) (st' := []) (t := 12) (u := 8) (b := mm_cc .ne x1 (1 : Int32)) 2 rfl (fun c => ?_) (fun c => ?_)
  · replace H := H.1 (of_decide_eq_true c)
    exact mm_R.rt (pc' := 13) (L' := [some ((.ref a0))]) (st1 := [.int (0 : Int32)]) 1 rfl rfl rfl rfl rfl rfl H
  · replace H := H.2 (Decidable.of_not_not (of_decide_eq_false c))
    exact mm_R.rt (pc' := 13) (L' := [some ((.ref a0))]) (st1 := [.int (1 : Int32)]) 2 rfl rfl rfl rfl rfl rfl H
-- StepRunner$Tool.<init>, from 0
set_option maxRecDepth 10000 in
theorem w17_0 {X : List Int32} {d : Nat} {a0 : Nat} {i1 : Int32} {hp : mm_H} {Q : Option Value → mm_H → Prop} (H : ((0 ≤ (4 : Int32) ∧ Int32.toNatClampNeg (4 : Int32) ≤ 100000) ∧ ∀ q1 hp2, q1 = hp.length → hp2 = hp ++ [(1000, List.replicate (Int32.toNatClampNeg (4 : Int32)) (.int 0))] → mw_pt 6 1 (.ref a0) ((.ref q1)) hp2 (fun hp3 => ((0 ≤ (4 : Int32) ∧ Int32.toNatClampNeg (4 : Int32) ≤ 100000) ∧ ∀ q4 hp5, q4 = hp3.length → hp5 = hp3 ++ [(1001, List.replicate (Int32.toNatClampNeg (4 : Int32)) (.int 0))] → mw_pt 6 2 (.ref a0) ((.ref q4)) hp5 (fun hp6 => ((0 ≤ (4 : Int32) ∧ Int32.toNatClampNeg (4 : Int32) ≤ 100000) ∧ ∀ q7 hp8, q7 = hp6.length → hp8 = hp6 ++ [(1000, List.replicate (Int32.toNatClampNeg (4 : Int32)) (.int 0))] → mw_pt 6 3 (.ref a0) ((.ref q7)) hp8 (fun hp9 => ((0 ≤ (4 : Int32) ∧ Int32.toNatClampNeg (4 : Int32) ≤ 100000) ∧ ∀ q10 hp11, q10 = hp9.length → hp11 = hp9 ++ [(1000, List.replicate (Int32.toNatClampNeg (4 : Int32)) (.int 0))] → mw_pt 6 4 (.ref a0) ((.ref q10)) hp11 (fun hp12 => mw_pt 6 0 (.ref a0) (.int i1) hp12 (fun hp13 => Q none hp13)))))))))) : mm_R X (d + 1) 17 0 (mm_L0 17 [(.ref a0), .int i1]) [] hp Q := by
  show mm_R X (d + 1) 17 0 [some ((.ref a0)), some (.int i1)] [] hp Q
  refine mm_R.cP (pc' := 1) (L' := [some ((.ref a0)), some (.int i1)]) (st1 := [(.ref a0)]) (as := [(.ref a0)]) (rest := []) (o := none) 1 rfl rfl rfl rfl rfl (mw_sp rfl rfl (Nat.le_of_ble_eq_true rfl) (mw_ac rfl mw_an) mw_an) rfl rfl ?_
  obtain ⟨hn17, H⟩ := H
  refine mm_R.nwaK (pc' := 6) (L' := [some ((.ref a0)), some (.int i1)]) (r := [(.ref a0)]) (x := (4 : Int32)) 2 rfl rfl rfl hn17 (fun q1 hp2 e1 e2 => ?_)
  replace H := H _ _ e1 e2
  refine mm_R.wpt (pc' := 8) (L' := [some ((.ref a0)), some (.int i1)]) (r := []) 0 rfl rfl (H.mono (fun hp3 H => ?_))
  obtain ⟨hn16, H⟩ := H
  refine mm_R.nwaK (pc' := 13) (L' := [some ((.ref a0)), some (.int i1)]) (r := [(.ref a0)]) (x := (4 : Int32)) 2 rfl rfl rfl hn16 (fun q4 hp5 e1 e2 => ?_)
  replace H := H _ _ e1 e2
  refine mm_R.wpt (pc' := 15) (L' := [some ((.ref a0)), some (.int i1)]) (r := []) 0 rfl rfl (H.mono (fun hp6 H => ?_))
  obtain ⟨hn15, H⟩ := H
  refine mm_R.nwaK (pc' := 20) (L' := [some ((.ref a0)), some (.int i1)]) (r := [(.ref a0)]) (x := (4 : Int32)) 2 rfl rfl rfl hn15 (fun q7 hp8 e1 e2 => ?_)
  replace H := H _ _ e1 e2
  refine mm_R.wpt (pc' := 22) (L' := [some ((.ref a0)), some (.int i1)]) (r := []) 0 rfl rfl (H.mono (fun hp9 H => ?_))
  obtain ⟨hn14, H⟩ := H
  refine mm_R.nwaK (pc' := 27) (L' := [some ((.ref a0)), some (.int i1)]) (r := [(.ref a0)]) (x := (4 : Int32)) 2 rfl rfl rfl hn14 (fun q10 hp11 e1 e2 => ?_)
  replace H := H _ _ e1 e2
  refine mm_R.wpt (pc' := 29) (L' := [some ((.ref a0)), some (.int i1)]) (r := []) 0 rfl rfl (H.mono (fun hp12 H => ?_))
  refine mm_R.wpt (pc' := 34) (L' := [some ((.ref a0)), some (.int i1)]) (r := []) 2 rfl rfl (H.mono (fun hp13 H => ?_))
  exact mm_R.rt (pc' := 37) (L' := [some ((.ref a0)), some (.int i1)]) (st1 := []) 0 rfl rfl rfl rfl rfl rfl H
