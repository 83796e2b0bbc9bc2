-- StepRunner$Value.ofNumber, from 0
set_option maxRecDepth 10000 in
theorem w39_0 {X : List Int32} {d : Nat} {i0 : Int32} {hp : mm_H} {Q : Option Value → mm_H → Prop} (H : (∀ q1 hp2, q1 = hp.length → hp2 = hp ++ [(2, mm_df 2)] → mm_R X d 3 0 (mm_L0 3 [(.ref q1), .int (7 : Int32), .int (0 : Int32)]) [] hp2 (mw_r0 (fun hp3 => mw_rc (.ref q1) 40 hp3 ∧ mm_R X d 40 0 (mm_L0 40 [(.ref q1), .int i0]) [] hp3 (mw_ri (fun x6 hp5 => ((x6 = (0 : Int32) → Q (some .null) hp5) ∧ (¬ x6 = (0 : Int32) → Q (some (.ref q1)) hp5)))))))) : mm_R X (d + 1) 39 0 (mm_L0 39 [.int i0]) [] hp Q := by
  show mm_R X (d + 1) 39 0 [some (.int i0), none] [] hp Q
  refine mm_R.newK (pc' := 0) (L' := [some (.int i0), none]) (r := []) 0 rfl rfl (fun q1 hp2 e1 e2 => ?_)
  replace H := H _ _ e1 e2
  refine mm_R.cI (pc' := 7) (L' := [some (.int i0), none]) (st1 := [.int (0 : Int32), .int (7 : Int32), (.ref q1), (.ref q1)]) (as := [(.ref q1), .int (7 : Int32), .int (0 : Int32)]) (rest := [(.ref q1)]) 3 rfl rfl (mw_sp rfl rfl (Nat.le_of_ble_eq_true rfl) (mw_ac rfl (mw_ac rfl (mw_ac rfl mw_an))) (mw_ac rfl mw_an)) rfl rfl rfl (H.mono (fun o hp3 H => ?_))
  obtain ⟨rfl, H⟩ := H
  obtain ⟨hc4, H⟩ := H
  refine mm_R.cV (pc' := 13) (L' := [some (.int i0), some ((.ref q1))]) (st1 := [.int i0, (.ref q1)]) (as := [.int i0]) (rest := []) 3 rfl rfl (mw_sp rfl rfl (Nat.le_of_ble_eq_true rfl) (mw_ac rfl (mw_ac rfl mw_an)) mw_an) rfl rfl hc4 (H.mono (fun o hp5 H => ?_))
  obtain ⟨x6, rfl, H⟩ := H
  refine mm_R.br (L' := [some (.int i0), some ((.ref q1))]) (st' := []) (t := 23) (u := 19) (b := mm_cc .eq x6 (0 : Int32)) 1 rfl (fun c => ?_) (fun c => ?_)
  · replace H := H.1 (of_decide_eq_true c)
    exact mm_R.rt (pc' := 24) (L' := [some (.int i0), some ((.ref q1))]) (st1 := [.null]) 1 rfl rfl rfl rfl rfl rfl H
  · replace H := H.2 (of_decide_eq_false c)
    exact mm_R.rt (pc' := 24) (L' := [some (.int i0), some ((.ref q1))]) (st1 := [(.ref q1)]) 2 rfl rfl rfl rfl rfl rfl H
-- StepRunner$Value.becomeNumber, from 0
set_option maxRecDepth 10000 in
theorem w40_0 {X : List Int32} {d : Nat} {a0 : Nat} {i1 : Int32} {hp : mm_H} {Q : Option Value → mm_H → Prop} (H : mw_gv 2 0 (.ref a0) hp (fun v1 => mw_nl v1 (Q (some (.int (0 : Int32))) hp) (mw_gv 2 0 (.ref a0) hp (fun v2 => mw_ln v2 hp (fun x3 => ((x3 < (7 : Int32) → Q (some (.int (0 : Int32))) hp) ∧ (¬ x3 < (7 : Int32) → ((i1 < (-999999 : Int32) → Q (some (.int (0 : Int32))) hp) ∧ (¬ i1 < (-999999 : Int32) → ((i1 ≤ (999999 : Int32) → mw_pt 2 2 (.ref a0) (.int (1 : Int32)) hp (fun hp4 => mw_pt 2 3 (.ref a0) (.int i1) hp4 (fun hp5 => mw_pt 2 4 (.ref a0) (.int (0 : Int32)) hp5 (fun hp6 => mw_pt 2 5 (.ref a0) (.int (0 : Int32)) hp6 (fun hp7 => (((0 : Int32) ≤ i1 → mm_R X (d + 1) 40 68 [some ((.ref a0)), some (.int i1), some (.int i1), some (.int (1 : Int32)), some (.int (10 : Int32)), none] [] hp7 Q) ∧ (¬ (0 : Int32) ≤ i1 → mm_R X (d + 1) 40 68 [some ((.ref a0)), some (.int i1), some (.int (-i1)), some (.int (1 : Int32)), some (.int (10 : Int32)), none] [] hp7 Q))))))) ∧ (¬ i1 ≤ (999999 : Int32) → Q (some (.int (0 : Int32))) hp))))))))))) : mm_R X (d + 1) 40 0 (mm_L0 40 [(.ref a0), .int i1]) [] hp Q := by
  show mm_R X (d + 1) 40 0 [some ((.ref a0)), some (.int i1), none, none, none, none] [] hp Q
  refine mm_R.wgv (pc' := 1) (L' := [some ((.ref a0)), some (.int i1), none, none, none, none]) (r := []) 1 rfl rfl (H.mono (fun v1 H => ?_))
  refine mm_R.wnl (pc' := 4) (L' := [some ((.ref a0)), some (.int i1), none, none, none, none]) (r := []) (v := v1) (t := 29) (u := 7) 0 rfl rfl rfl (H.mono (fun H => ?_) (fun H => ?_))
  · exact mm_R.rt (pc' := 30) (L' := [some ((.ref a0)), some (.int i1), none, none, none, none]) (st1 := [.int (0 : Int32)]) 1 rfl rfl rfl rfl rfl rfl H
  · refine mm_R.wgv (pc' := 8) (L' := [some ((.ref a0)), some (.int i1), none, none, none, none]) (r := []) 1 rfl rfl (H.mono (fun v2 H => ?_))
    refine mm_R.wln (pc' := 11) (L' := [some ((.ref a0)), some (.int i1), none, none, none, none]) (r := []) 0 rfl rfl (H.mono (fun x3 H => ?_))
    refine mm_R.br (L' := [some ((.ref a0)), some (.int i1), none, none, none, none]) (st' := []) (t := 29) (u := 17) (b := mm_cc .lt x3 (7 : Int32)) 2 rfl (fun c => ?_) (fun c => ?_)
    · replace H := H.1 (of_decide_eq_true c)
      exact mm_R.rt (pc' := 30) (L' := [some ((.ref a0)), some (.int i1), none, none, none, none]) (st1 := [.int (0 : Int32)]) 1 rfl rfl rfl rfl rfl rfl H
    · replace H := H.2 (of_decide_eq_false c)
      refine mm_R.br (L' := [some ((.ref a0)), some (.int i1), none, none, none, none]) (st' := []) (t := 29) (u := 23) (b := mm_cc .lt i1 (-999999 : Int32)) 3 rfl (fun c => ?_) (fun c => ?_)
      · replace H := H.1 (of_decide_eq_true c)
        exact mm_R.rt (pc' := 30) (L' := [some ((.ref a0)), some (.int i1), none, none, none, none]) (st1 := [.int (0 : Int32)]) 1 rfl rfl rfl rfl rfl rfl H
      · replace H := H.2 (of_decide_eq_false c)
        refine mm_R.br (L' := [some ((.ref a0)), some (.int i1), none, none, none, none]) (st' := []) (t := 31) (u := 29) (b := mm_cc .le i1 (999999 : Int32)) 3 rfl (fun c => ?_) (fun c => ?_)
        · replace H := H.1 (of_decide_eq_true c)
          refine mm_R.wpt (pc' := 33) (L' := [some ((.ref a0)), some (.int i1), none, none, none, none]) (r := []) 2 rfl rfl (H.mono (fun hp4 H => ?_))
          refine mm_R.wpt (pc' := 38) (L' := [some ((.ref a0)), some (.int i1), none, none, none, none]) (r := []) 2 rfl rfl (H.mono (fun hp5 H => ?_))
          refine mm_R.wpt (pc' := 43) (L' := [some ((.ref a0)), some (.int i1), none, none, none, none]) (r := []) 2 rfl rfl (H.mono (fun hp6 H => ?_))
          refine mm_R.wpt (pc' := 48) (L' := [some ((.ref a0)), some (.int i1), none, none, none, none]) (r := []) 2 rfl rfl (H.mono (fun hp7 H => ?_))
          refine mm_R.br (L' := [some ((.ref a0)), some (.int i1), none, none, none, none]) (st' := []) (t := 60) (u := 55) (b := mm_cc .ge i1 (0 : Int32)) 2 rfl (fun c => ?_) (fun c => ?_)
          · replace H := H.1 (of_decide_eq_true c)
            exact mm_R.pn (pc' := 68) (L' := [some ((.ref a0)), some (.int i1), some (.int i1), some (.int (1 : Int32)), some (.int (10 : Int32)), none]) (st' := []) 6 rfl H
          · replace H := H.2 (of_decide_eq_false c)
            exact mm_R.pn (pc' := 68) (L' := [some ((.ref a0)), some (.int i1), some (.int (-i1)), some (.int (1 : Int32)), some (.int (10 : Int32)), none]) (st' := []) 8 rfl H
        · replace H := H.2 (of_decide_eq_false c)
          exact mm_R.rt (pc' := 30) (L' := [some ((.ref a0)), some (.int i1), none, none, none, none]) (st1 := [.int (0 : Int32)]) 1 rfl rfl rfl rfl rfl rfl H
-- StepRunner$Value.becomeNumber, from 68
set_option maxRecDepth 10000 in
theorem w40_68 {X : List Int32} {d : Nat} {a0 : Nat} {i1 : Int32} {i2 : Int32} {i3 : Int32} {i4 : Int32} {o5 : Option Value} {hp : mm_H} {Q : Option Value → mm_H → Prop} (H : (((6 : Int32) ≤ i3 → (((0 : Int32) ≤ i1 → mm_R X (d + 1) 40 102 [some ((.ref a0)), some (.int i1), some (.int i2), some (.int i3), some (.int i4), o5] [.int (0 : Int32)] hp Q) ∧ (¬ (0 : Int32) ≤ i1 → mm_R X (d + 1) 40 102 [some ((.ref a0)), some (.int i1), some (.int i2), some (.int i3), some (.int i4), o5] [.int (1 : Int32)] hp Q))) ∧ (¬ (6 : Int32) ≤ i3 → ((i2 < i4 → (((0 : Int32) ≤ i1 → mm_R X (d + 1) 40 102 [some ((.ref a0)), some (.int i1), some (.int i2), some (.int i3), some (.int i4), o5] [.int (0 : Int32)] hp Q) ∧ (¬ (0 : Int32) ≤ i1 → mm_R X (d + 1) 40 102 [some ((.ref a0)), some (.int i1), some (.int i2), some (.int i3), some (.int i4), o5] [.int (1 : Int32)] hp Q))) ∧ (¬ i2 < i4 → mm_R X (d + 1) 40 68 [some ((.ref a0)), some (.int i1), some (.int i2), some (.int (i3 + (1 : Int32))), some (.int (i4 * (10 : Int32))), o5] [] hp Q))))) : mm_R X (d + 1) 40 68 [some ((.ref a0)), some (.int i1), some (.int i2), some (.int i3), some (.int i4), o5] [] hp Q := by
  refine mm_R.br (L' := [some ((.ref a0)), some (.int i1), some (.int i2), some (.int i3), some (.int i4), o5]) (st' := []) (t := 93) (u := 74) (b := mm_cc .ge i3 (6 : Int32)) 3 rfl (fun c => ?_) (fun c => ?_)
  · replace H := H.1 (of_decide_eq_true c)
    refine mm_R.br (L' := [some ((.ref a0)), some (.int i1), some (.int i2), some (.int i3), some (.int i4), o5]) (st' := []) (t := 101) (u := 97) (b := mm_cc .ge i1 (0 : Int32)) 2 rfl (fun c => ?_) (fun c => ?_)
    · replace H := H.1 (of_decide_eq_true c)
      exact mm_R.pn (pc' := 102) (L' := [some ((.ref a0)), some (.int i1), some (.int i2), some (.int i3), some (.int i4), o5]) (st' := [.int (0 : Int32)]) 1 rfl H
    · replace H := H.2 (of_decide_eq_false c)
      exact mm_R.pn (pc' := 102) (L' := [some ((.ref a0)), some (.int i1), some (.int i2), some (.int i3), some (.int i4), o5]) (st' := [.int (1 : Int32)]) 2 rfl H
  · replace H := H.2 (of_decide_eq_false c)
    refine mm_R.br (L' := [some ((.ref a0)), some (.int i1), some (.int i2), some (.int i3), some (.int i4), o5]) (st' := []) (t := 93) (u := 80) (b := mm_cc .lt i2 i4) 3 rfl (fun c => ?_) (fun c => ?_)
    · replace H := H.1 (of_decide_eq_true c)
      refine mm_R.br (L' := [some ((.ref a0)), some (.int i1), some (.int i2), some (.int i3), some (.int i4), o5]) (st' := []) (t := 101) (u := 97) (b := mm_cc .ge i1 (0 : Int32)) 2 rfl (fun c => ?_) (fun c => ?_)
      · replace H := H.1 (of_decide_eq_true c)
        exact mm_R.pn (pc' := 102) (L' := [some ((.ref a0)), some (.int i1), some (.int i2), some (.int i3), some (.int i4), o5]) (st' := [.int (0 : Int32)]) 1 rfl H
      · replace H := H.2 (of_decide_eq_false c)
        exact mm_R.pn (pc' := 102) (L' := [some ((.ref a0)), some (.int i1), some (.int i2), some (.int i3), some (.int i4), o5]) (st' := [.int (1 : Int32)]) 2 rfl H
    · replace H := H.2 (of_decide_eq_false c)
      exact mm_R.pn (pc' := 68) (L' := [some ((.ref a0)), some (.int i1), some (.int i2), some (.int (i3 + (1 : Int32))), some (.int (i4 * (10 : Int32))), o5]) (st' := []) 6 rfl H
-- StepRunner$Value.becomeNumber, from 102
set_option maxRecDepth 10000 in
theorem w40_102 {X : List Int32} {d : Nat} {a0 : Nat} {i1 : Int32} {i2 : Int32} {i3 : Int32} {i4 : Int32} {o5 : Option Value} {s0 : Int32} {hp : mm_H} {Q : Option Value → mm_H → Prop} (H : mw_pt 2 6 (.ref a0) (.int (s0 + i3)) hp (fun hp1 => mw_gv 2 0 (.ref a0) hp1 (fun v2 => mw_si 1001 .char v2 (0 : Int32) (45 : Int32) hp1 (fun hp3 => mw_gi 2 6 (.ref a0) hp3 (fun x4 => mm_R X (d + 1) 40 128 [some ((.ref a0)), some (.int i1), some (.int i2), some (.int i3), some (.int s0), some (.int (x4 - (1 : Int32)))] [] hp3 Q))))) : mm_R X (d + 1) 40 102 [some ((.ref a0)), some (.int i1), some (.int i2), some (.int i3), some (.int i4), o5] [.int s0] hp Q := by
  refine mm_R.wpt (pc' := 109) (L' := [some ((.ref a0)), some (.int i1), some (.int i2), some (.int i3), some (.int s0), o5]) (r := []) 5 rfl rfl (H.mono (fun hp1 H => ?_))
  refine mm_R.wgv (pc' := 113) (L' := [some ((.ref a0)), some (.int i1), some (.int i2), some (.int i3), some (.int s0), o5]) (r := []) 1 rfl rfl (H.mono (fun v2 H => ?_))
  refine mm_R.wsi (pc' := 119) (L' := [some ((.ref a0)), some (.int i1), some (.int i2), some (.int i3), some (.int s0), o5]) (r := []) (t := 1001) (ty := .char) 2 rfl rfl rfl rfl (H.mono (fun hp3 H => ?_))
  refine mm_R.wgi (pc' := 121) (L' := [some ((.ref a0)), some (.int i1), some (.int i2), some (.int i3), some (.int s0), o5]) (r := []) 1 rfl rfl (H.mono (fun x4 H => ?_))
  exact mm_R.pn (pc' := 128) (L' := [some ((.ref a0)), some (.int i1), some (.int i2), some (.int i3), some (.int s0), some (.int (x4 - (1 : Int32)))]) (st' := []) 3 rfl H
-- StepRunner$Value.becomeNumber, from 128
set_option maxRecDepth 10000 in
theorem w40_128 {X : List Int32} {d : Nat} {a0 : Nat} {i1 : Int32} {i2 : Int32} {i3 : Int32} {i4 : Int32} {i5 : Int32} {hp : mm_H} {Q : Option Value → mm_H → Prop} (H : ((i5 < i4 → Q (some (.int (1 : Int32))) hp) ∧ (¬ i5 < i4 → mw_gv 2 0 (.ref a0) hp (fun v1 => mw_si 1001 .char v1 i5 ((Int32.toUInt32 ((48 : Int32) + (i2 - i2 / (10 : Int32) * (10 : Int32))) % 65536).toInt32) hp (fun hp2 => mm_R X (d + 1) 40 128 [some ((.ref a0)), some (.int i1), some (.int (i2 / (10 : Int32))), some (.int i3), some (.int i4), some (.int (i5 + (-1 : Int32)))] [] hp2 Q))))) : mm_R X (d + 1) 40 128 [some ((.ref a0)), some (.int i1), some (.int i2), some (.int i3), some (.int i4), some (.int i5)] [] hp Q := by
  refine mm_R.br (L' := [some ((.ref a0)), some (.int i1), some (.int i2), some (.int i3), some (.int i4), some (.int i5)]) (st' := []) (t := 161) (u := 135) (b := mm_cc .lt i5 i4) 3 rfl (fun c => ?_) (fun c => ?_)
  · replace H := H.1 (of_decide_eq_true c)
    exact mm_R.rt (pc' := 162) (L' := [some ((.ref a0)), some (.int i1), some (.int i2), some (.int i3), some (.int i4), some (.int i5)]) (st1 := [.int (1 : Int32)]) 1 rfl rfl rfl rfl rfl rfl H
  · replace H := H.2 (of_decide_eq_false c)
    refine mm_R.wgv (pc' := 136) (L' := [some ((.ref a0)), some (.int i1), some (.int i2), some (.int i3), some (.int i4), some (.int i5)]) (r := []) 1 rfl rfl (H.mono (fun v1 H => ?_))
    refine mm_R.wsi (pc' := 149) (L' := [some ((.ref a0)), some (.int i1), some (.int i2), some (.int i3), some (.int i4), some (.int i5)]) (r := []) (t := 1001) (ty := .char) 7 rfl rfl rfl rfl (H.mono (fun hp2 H => ?_))
    exact mm_R.pn (pc' := 128) (L' := [some ((.ref a0)), some (.int i1), some (.int (i2 / (10 : Int32))), some (.int i3), some (.int i4), some (.int (i5 + (-1 : Int32)))]) (st' := []) 6 rfl H
-- StepRunner.from, from 0
set_option maxRecDepth 10000 in
theorem w41_0 {X : List Int32} {d : Nat} {a0 : Nat} {i1 : Int32} {i2 : Int32} {hp : mm_H} {Q : Option Value → mm_H → Prop} (H : mw_gv 0 0 (.ref a0) hp (fun v1 => mw_rc v1 42 hp ∧ mm_R X d 42 0 (mm_L0 42 [v1]) [] hp (mw_rv (fun v4 hp3 => mm_isr v4 = true ∧ mw_rc (.ref a0) 23 hp3 ∧ mm_R X d 23 0 (mm_L0 23 [(.ref a0), .int i1]) [] hp3 (mw_rv (fun v8 hp7 => mm_isr v8 = true ∧ mw_nl v4 (Q (some (.int (0 : Int32))) hp7) (mw_nl v8 (Q (some (.int (0 : Int32))) hp7) (mm_R X d 24 0 (mm_L0 24 [.int i2]) [] hp7 (mw_ri (fun x11 hp10 => ((¬ x11 = (0 : Int32) → mw_gv 7 6 v8 hp10 (fun v12 => mw_sv v12 i2 v4 hp10 (fun hp13 => Q (some (.int (1 : Int32))) hp13))) ∧ (x11 = (0 : Int32) → Q (some (.int (0 : Int32))) hp10)))))))))))) : mm_R X (d + 1) 41 0 (mm_L0 41 [(.ref a0), .int i1, .int i2]) [] hp Q := by
  show mm_R X (d + 1) 41 0 [some ((.ref a0)), some (.int i1), some (.int i2), none, none] [] hp Q
  refine mm_R.wgv (pc' := 1) (L' := [some ((.ref a0)), some (.int i1), some (.int i2), none, none]) (r := []) 1 rfl rfl (H.mono (fun v1 H => ?_))
  obtain ⟨hc2, H⟩ := H
  refine mm_R.cV (pc' := 4) (L' := [some ((.ref a0)), some (.int i1), some (.int i2), none, none]) (st1 := [v1]) (as := []) (rest := []) 0 rfl rfl (mw_sp rfl rfl (Nat.le_of_ble_eq_true rfl) (mw_ac (mw_c1 hc2.isr) mw_an) mw_an) rfl rfl hc2 (H.mono (fun o hp3 H => ?_))
  obtain ⟨v4, rfl, H⟩ := H
  obtain ⟨hr5, H⟩ := H
  refine mm_R.as (pc' := 7) (L' := [some ((.ref a0)), some (.int i1), some (.int i2), none, none]) (r := []) (v := v4) 0 rfl rfl rfl rfl hr5 ?_
  obtain ⟨hc6, H⟩ := H
  refine mm_R.cV (pc' := 10) (L' := [some ((.ref a0)), some (.int i1), some (.int i2), some (v4), none]) (st1 := [.int i1, (.ref a0)]) (as := [.int i1]) (rest := []) 2 rfl rfl (mw_sp rfl rfl (Nat.le_of_ble_eq_true rfl) (mw_ac rfl (mw_ac rfl mw_an)) mw_an) rfl rfl hc6 (H.mono (fun o hp7 H => ?_))
  obtain ⟨v8, rfl, H⟩ := H
  obtain ⟨hr9, H⟩ := H
  refine mm_R.as (pc' := 13) (L' := [some ((.ref a0)), some (.int i1), some (.int i2), some (v4), none]) (r := []) (v := v8) 0 rfl rfl rfl rfl hr9 ?_
  refine mm_R.al (pc' := 15) (L' := [some ((.ref a0)), some (.int i1), some (.int i2), some (v4), some (v8)]) (r := []) (v := v4) 0 rfl rfl rfl rfl hr5 ?_
  refine mm_R.wnl (pc' := 16) (L' := [some ((.ref a0)), some (.int i1), some (.int i2), some (v4), some (v8)]) (r := []) (v := v4) (t := 31) (u := 19) 0 rfl rfl rfl (H.mono (fun H => ?_) (fun H => ?_))
  · exact mm_R.rt (pc' := 32) (L' := [some ((.ref a0)), some (.int i1), some (.int i2), some (v4), some (v8)]) (st1 := [.int (0 : Int32)]) 1 rfl rfl rfl rfl rfl rfl H
  · refine mm_R.al (pc' := 19) (L' := [some ((.ref a0)), some (.int i1), some (.int i2), some (v4), some (v8)]) (r := []) (v := v8) 0 rfl rfl rfl rfl hr9 ?_
    refine mm_R.wnl (pc' := 21) (L' := [some ((.ref a0)), some (.int i1), some (.int i2), some (v4), some (v8)]) (r := []) (v := v8) (t := 31) (u := 24) 0 rfl rfl rfl (H.mono (fun H => ?_) (fun H => ?_))
    · exact mm_R.rt (pc' := 32) (L' := [some ((.ref a0)), some (.int i1), some (.int i2), some (v4), some (v8)]) (st1 := [.int (0 : Int32)]) 1 rfl rfl rfl rfl rfl rfl H
    · refine mm_R.cS (pc' := 25) (L' := [some ((.ref a0)), some (.int i1), some (.int i2), some (v4), some (v8)]) (st1 := [.int i2]) (as := [.int i2]) (rest := []) 1 rfl rfl (mw_sp rfl rfl (Nat.le_of_ble_eq_true rfl) (mw_ac rfl mw_an) mw_an) rfl rfl (H.mono (fun o hp10 H => ?_))
      obtain ⟨x11, rfl, H⟩ := H
      refine mm_R.br (L' := [some ((.ref a0)), some (.int i1), some (.int i2), some (v4), some (v8)]) (st' := []) (t := 33) (u := 31) (b := mm_cc .ne x11 (0 : Int32)) 1 rfl (fun c => ?_) (fun c => ?_)
      · replace H := H.1 (of_decide_eq_true c)
        refine mm_R.al (pc' := 33) (L' := [some ((.ref a0)), some (.int i1), some (.int i2), some (v4), some (v8)]) (r := []) (v := v8) 0 rfl rfl rfl rfl hr9 ?_
        refine mm_R.wgv (pc' := 35) (L' := [some ((.ref a0)), some (.int i1), some (.int i2), some (v4), some (v8)]) (r := []) 0 rfl rfl (H.mono (fun v12 H => ?_))
        refine mm_R.al (pc' := 39) (L' := [some ((.ref a0)), some (.int i1), some (.int i2), some (v4), some (v8)]) (r := [.int i2, v12]) (v := v4) 1 rfl rfl rfl rfl hr5 ?_
        refine mm_R.wsv (pc' := 40) (L' := [some ((.ref a0)), some (.int i1), some (.int i2), some (v4), some (v8)]) (r := []) 0 rfl rfl (H.mono (fun hp13 H => ?_))
        exact mm_R.rt (pc' := 42) (L' := [some ((.ref a0)), some (.int i1), some (.int i2), some (v4), some (v8)]) (st1 := [.int (1 : Int32)]) 1 rfl rfl rfl rfl rfl rfl H
      · replace H := H.2 (Decidable.of_not_not (of_decide_eq_false c))
        exact mm_R.rt (pc' := 32) (L' := [some ((.ref a0)), some (.int i1), some (.int i2), some (v4), some (v8)]) (st1 := [.int (0 : Int32)]) 1 rfl rfl rfl rfl rfl rfl H
-- StepRunner$Draft.takeRule, from 0
set_option maxRecDepth 10000 in
theorem w42_0 {X : List Int32} {d : Nat} {a0 : Nat} {hp : mm_H} {Q : Option Value → mm_H → Prop} (H : mw_gv 1 0 (.ref a0) hp (fun v1 => mw_gi 1 1 (.ref a0) hp (fun x2 => mm_isr v1 = true ∧ mm_R X d 43 0 (mm_L0 43 [v1, .int x2]) [] hp (mw_rv (fun v5 hp4 => mm_isr v5 = true ∧ mw_pt 1 1 (.ref a0) (.int (0 : Int32)) hp4 (fun hp7 => mw_nr v5 ∧ Q (some v5) hp7)))))) : mm_R X (d + 1) 42 0 (mm_L0 42 [(.ref a0)]) [] hp Q := by
  show mm_R X (d + 1) 42 0 [some ((.ref a0)), none] [] hp Q
  refine mm_R.wgv (pc' := 1) (L' := [some ((.ref a0)), none]) (r := []) 1 rfl rfl (H.mono (fun v1 H => ?_))
  refine mm_R.wgi (pc' := 5) (L' := [some ((.ref a0)), none]) (r := [v1]) 1 rfl rfl (H.mono (fun x2 H => ?_))
  obtain ⟨hr3, H⟩ := H
  refine mm_R.cS (pc' := 8) (L' := [some ((.ref a0)), none]) (st1 := [.int x2, v1]) (as := [v1, .int x2]) (rest := []) 0 rfl rfl (mw_sp rfl rfl (Nat.le_of_ble_eq_true rfl) (mw_ac (mw_c1 hr3) (mw_ac rfl mw_an)) mw_an) rfl rfl (H.mono (fun o hp4 H => ?_))
  obtain ⟨v5, rfl, H⟩ := H
  obtain ⟨hr6, H⟩ := H
  refine mm_R.as (pc' := 11) (L' := [some ((.ref a0)), none]) (r := []) (v := v5) 0 rfl rfl rfl rfl hr6 ?_
  refine mm_R.wpt (pc' := 14) (L' := [some ((.ref a0)), some (v5)]) (r := []) 2 rfl rfl (H.mono (fun hp7 H => ?_))
  refine mm_R.al (pc' := 17) (L' := [some ((.ref a0)), some (v5)]) (r := []) (v := v5) 0 rfl rfl rfl rfl hr6 ?_
  exact mm_R.rt (pc' := 18) (L' := [some ((.ref a0)), some (v5)]) (st1 := [v5]) 0 rfl rfl rfl rfl rfl (mw_rva (ty := (.object "StepRunner$Rule")) H.1 rfl) H.2
-- StepRunner$Rule.read, from 0
set_option maxRecDepth 10000 in
theorem w43_0 {X : List Int32} {d : Nat} {r0 : Value} {i1 : Int32} {hp : mm_H} {Q : Option Value → mm_H → Prop} (H : mm_isr r0 = true ∧ mw_ln r0 hp (fun x2 => (∀ q3 hp4, q3 = hp.length → hp4 = hp ++ [(8, mm_df 8)] → mm_R X d 44 0 (mm_L0 44 [(.ref q3), .int (if x2 < i1 then x2 else i1)]) [] hp4 (mw_r0 (fun hp5 => mm_R X (d + 1) 43 19 [some (r0), some (.int i1), some (.int (if x2 < i1 then x2 else i1)), some ((.ref q3)), some (.int (0 : Int32)), none] [] hp5 Q))))) : mm_R X (d + 1) 43 0 (mm_L0 43 [r0, .int i1]) [] hp Q := by
  show mm_R X (d + 1) 43 0 [some (r0), some (.int i1), none, none, none, none] [] hp Q
  obtain ⟨hr1, H⟩ := H
  refine mm_R.al (pc' := 1) (L' := [some (r0), some (.int i1), none, none, none, none]) (r := [.int i1]) (v := r0) 1 rfl rfl rfl rfl hr1 ?_
  refine mm_R.wln (pc' := 2) (L' := [some (r0), some (.int i1), none, none, none, none]) (r := [.int i1]) 0 rfl rfl (H.mono (fun x2 H => ?_))
  refine mm_R.cP (pc' := 3) (L' := [some (r0), some (.int i1), none, none, none, none]) (st1 := [.int x2, .int i1]) (as := [.int i1, .int x2]) (rest := []) (o := some (.int (if x2 < i1 then x2 else i1))) 0 rfl rfl rfl rfl rfl (mw_sp rfl rfl (Nat.le_of_ble_eq_true rfl) (mw_ac rfl (mw_ac rfl mw_an)) mw_an) rfl rfl ?_
  refine mm_R.newK (pc' := 7) (L' := [some (r0), some (.int i1), some (.int (if x2 < i1 then x2 else i1)), none, none, none]) (r := []) 1 rfl rfl (fun q3 hp4 e1 e2 => ?_)
  replace H := H _ _ e1 e2
  refine mm_R.cI (pc' := 12) (L' := [some (r0), some (.int i1), some (.int (if x2 < i1 then x2 else i1)), none, none, none]) (st1 := [.int (if x2 < i1 then x2 else i1), (.ref q3), (.ref q3)]) (as := [(.ref q3), .int (if x2 < i1 then x2 else i1)]) (rest := [(.ref q3)]) 2 rfl rfl (mw_sp rfl rfl (Nat.le_of_ble_eq_true rfl) (mw_ac rfl (mw_ac rfl mw_an)) (mw_ac rfl mw_an)) rfl rfl rfl (H.mono (fun o hp5 H => ?_))
  obtain ⟨rfl, H⟩ := H
  exact mm_R.pn (pc' := 19) (L' := [some (r0), some (.int i1), some (.int (if x2 < i1 then x2 else i1)), some ((.ref q3)), some (.int (0 : Int32)), none]) (st' := []) 3 rfl H
-- StepRunner$Rule.read, from 19
set_option maxRecDepth 10000 in
theorem w43_19 {X : List Int32} {d : Nat} {r0 : Value} {i1 : Int32} {i2 : Int32} {r3 : Value} {i4 : Int32} {o5 : Option Value} {hp : mm_H} {Q : Option Value → mm_H → Prop} (H : ((i2 ≤ i4 → mm_isr r3 = true ∧ mw_nr r3 ∧ Q (some r3) hp) ∧ (¬ i2 ≤ i4 → mm_isr r0 = true ∧ mm_R X d 45 0 (mm_L0 45 [(.retAddr 1), r0, .int i4, .int i2]) [] hp (mw_ri (fun x4 hp3 => ((x4 = (0 : Int32) → mm_isr r3 = true ∧ mw_ai 1001 r0 i4 hp3 (fun x6 => mw_rc r3 47 hp3 ∧ mm_R X d 47 0 (mm_L0 47 [r3, .int x6]) [] hp3 (mw_r0 (fun hp8 => mw_gi 8 2 r3 hp8 (fun x9 => mw_pt 8 2 r3 (.int (x9 + (1 : Int32))) hp8 (fun hp10 => mm_R X (d + 1) 43 19 [some (r0), some (.int i1), some (.int i2), some (r3), some (.int (i4 + (1 : Int32))), o5] [] hp10 Q)))))) ∧ (¬ x4 = (0 : Int32) → mm_isr r3 = true ∧ mw_rc r3 46 hp3 ∧ mm_R X d 46 0 (mm_L0 46 [r3, r0, .int (i4 + (2 : Int32)), .int i2]) [] hp3 (mw_ri (fun x14 hp13 => ((i4 < x14 → mm_R X (d + 1) 43 19 [some (r0), some (.int i1), some (.int i2), some (r3), some (.int x14), some (.int x14)] [] hp13 Q) ∧ (¬ i4 < x14 → Q (some .null) hp13))))))))))) : mm_R X (d + 1) 43 19 [some (r0), some (.int i1), some (.int i2), some (r3), some (.int i4), o5] [] hp Q := by
  refine mm_R.br (L' := [some (r0), some (.int i1), some (.int i2), some (r3), some (.int i4), o5]) (st' := []) (t := 89) (u := 25) (b := mm_cc .ge i4 i2) 3 rfl (fun c => ?_) (fun c => ?_)
  · replace H := H.1 (of_decide_eq_true c)
    obtain ⟨hr1, H⟩ := H
    refine mm_R.al (pc' := 89) (L' := [some (r0), some (.int i1), some (.int i2), some (r3), some (.int i4), o5]) (r := []) (v := r3) 0 rfl rfl rfl rfl hr1 ?_
    exact mm_R.rt (pc' := 90) (L' := [some (r0), some (.int i1), some (.int i2), some (r3), some (.int i4), o5]) (st1 := [r3]) 0 rfl rfl rfl rfl rfl (mw_rva (ty := (.object "StepRunner$Rule")) H.1 rfl) H.2
  · replace H := H.2 (of_decide_eq_false c)
    obtain ⟨hr2, H⟩ := H
    refine mm_R.al (pc' := 27) (L' := [some (r0), some (.int i1), some (.int i2), some (r3), some (.int i4), o5]) (r := [(.retAddr 1)]) (v := r0) 1 rfl rfl rfl rfl hr2 ?_
    refine mm_R.cS (pc' := 31) (L' := [some (r0), some (.int i1), some (.int i2), some (r3), some (.int i4), o5]) (st1 := [.int i2, .int i4, r0, (.retAddr 1)]) (as := [(.retAddr 1), r0, .int i4, .int i2]) (rest := []) 2 rfl rfl (mw_sp rfl rfl (Nat.le_of_ble_eq_true rfl) (mw_ac rfl (mw_ac (mw_c1 hr2) (mw_ac rfl (mw_ac rfl mw_an)))) mw_an) rfl rfl (H.mono (fun o hp3 H => ?_))
    obtain ⟨x4, rfl, H⟩ := H
    refine mm_R.br (L' := [some (r0), some (.int i1), some (.int i2), some (r3), some (.int i4), o5]) (st' := []) (t := 65) (u := 37) (b := mm_cc .eq x4 (0 : Int32)) 1 rfl (fun c => ?_) (fun c => ?_)
    · replace H := H.1 (of_decide_eq_true c)
      obtain ⟨hr5, H⟩ := H
      refine mm_R.al (pc' := 65) (L' := [some (r0), some (.int i1), some (.int i2), some (r3), some (.int i4), o5]) (r := []) (v := r3) 0 rfl rfl rfl rfl hr5 ?_
      refine mm_R.al (pc' := 66) (L' := [some (r0), some (.int i1), some (.int i2), some (r3), some (.int i4), o5]) (r := [r3]) (v := r0) 0 rfl rfl rfl rfl hr2 ?_
      refine mm_R.wai (pc' := 69) (L' := [some (r0), some (.int i1), some (.int i2), some (r3), some (.int i4), o5]) (r := [r3]) (t := 1001) 1 rfl rfl rfl rfl (H.mono (fun x6 H => ?_))
      obtain ⟨hc7, H⟩ := H
      refine mm_R.cV (pc' := 70) (L' := [some (r0), some (.int i1), some (.int i2), some (r3), some (.int i4), o5]) (st1 := [.int x6, r3]) (as := [.int x6]) (rest := []) 0 rfl rfl (mw_sp rfl rfl (Nat.le_of_ble_eq_true rfl) (mw_ac (mw_c1 hc7.isr) (mw_ac rfl mw_an)) mw_an) rfl rfl hc7 (H.mono (fun o hp8 H => ?_))
      obtain ⟨rfl, H⟩ := H
      refine mm_R.al (pc' := 73) (L' := [some (r0), some (.int i1), some (.int i2), some (r3), some (.int i4), o5]) (r := []) (v := r3) 0 rfl rfl rfl rfl hc7.isr ?_
      refine mm_R.dp (pc' := 74) (L' := [some (r0), some (.int i1), some (.int i2), some (r3), some (.int i4), o5]) (r := []) (v := r3) 0 rfl rfl hc7.isr ?_
      refine mm_R.wgi (pc' := 75) (L' := [some (r0), some (.int i1), some (.int i2), some (r3), some (.int i4), o5]) (r := [r3]) 0 rfl rfl (H.mono (fun x9 H => ?_))
      refine mm_R.wpt (pc' := 80) (L' := [some (r0), some (.int i1), some (.int i2), some (r3), some (.int i4), o5]) (r := []) 2 rfl rfl (H.mono (fun hp10 H => ?_))
      exact mm_R.pn (pc' := 19) (L' := [some (r0), some (.int i1), some (.int i2), some (r3), some (.int (i4 + (1 : Int32))), o5]) (st' := []) 2 rfl H
    · replace H := H.2 (of_decide_eq_false c)
      obtain ⟨hr11, H⟩ := H
      refine mm_R.al (pc' := 37) (L' := [some (r0), some (.int i1), some (.int i2), some (r3), some (.int i4), o5]) (r := []) (v := r3) 0 rfl rfl rfl rfl hr11 ?_
      refine mm_R.al (pc' := 38) (L' := [some (r0), some (.int i1), some (.int i2), some (r3), some (.int i4), o5]) (r := [r3]) (v := r0) 0 rfl rfl rfl rfl hr2 ?_
      obtain ⟨hc12, H⟩ := H
      refine mm_R.cV (pc' := 44) (L' := [some (r0), some (.int i1), some (.int i2), some (r3), some (.int i4), o5]) (st1 := [.int i2, .int (i4 + (2 : Int32)), r0, r3]) (as := [r0, .int (i4 + (2 : Int32)), .int i2]) (rest := []) 4 rfl rfl (mw_sp rfl rfl (Nat.le_of_ble_eq_true rfl) (mw_ac (mw_c1 hc12.isr) (mw_ac (mw_c1 hr2) (mw_ac rfl (mw_ac rfl mw_an)))) mw_an) rfl rfl hc12 (H.mono (fun o hp13 H => ?_))
      obtain ⟨x14, rfl, H⟩ := H
      refine mm_R.br (L' := [some (r0), some (.int i1), some (.int i2), some (r3), some (.int i4), some (.int x14)]) (st' := []) (t := 58) (u := 56) (b := mm_cc .gt x14 i4) 4 rfl (fun c => ?_) (fun c => ?_)
      · replace H := H.1 (of_decide_eq_true c)
        exact mm_R.pn (pc' := 19) (L' := [some (r0), some (.int i1), some (.int i2), some (r3), some (.int x14), some (.int x14)]) (st' := []) 3 rfl H
      · replace H := H.2 (of_decide_eq_false c)
        exact mm_R.rt (pc' := 57) (L' := [some (r0), some (.int i1), some (.int i2), some (r3), some (.int i4), some (.int x14)]) (st1 := [.null]) 1 rfl rfl rfl rfl rfl rfl H
-- StepRunner$Rule.<init>, from 0
set_option maxRecDepth 10000 in
theorem w44_0 {X : List Int32} {d : Nat} {a0 : Nat} {i1 : Int32} {hp : mm_H} {Q : Option Value → mm_H → Prop} (H : ((0 ≤ (if (0 : Int32) < i1 then i1 else (0 : Int32)) ∧ Int32.toNatClampNeg (if (0 : Int32) < i1 then i1 else (0 : Int32)) ≤ 100000) ∧ ∀ q1 hp2, q1 = hp.length → hp2 = hp ++ [(1000, List.replicate (Int32.toNatClampNeg (if (0 : Int32) < i1 then i1 else (0 : Int32))) (.int 0))] → mw_pt 8 0 (.ref a0) ((.ref q1)) hp2 (fun hp3 => Q none hp3))) : mm_R X (d + 1) 44 0 (mm_L0 44 [(.ref a0), .int i1]) [] hp Q := by
  show mm_R X (d + 1) 44 0 [some ((.ref a0)), some (.int i1)] [] hp Q
  refine mm_R.cP (pc' := 1) (L' := [some ((.ref a0)), some (.int i1)]) (st1 := [(.ref a0)]) (as := [(.ref a0)]) (rest := []) (o := none) 1 rfl rfl rfl rfl rfl (mw_sp rfl rfl (Nat.le_of_ble_eq_true rfl) (mw_ac rfl mw_an) mw_an) rfl rfl ?_
  refine mm_R.cP (pc' := 7) (L' := [some ((.ref a0)), some (.int i1)]) (st1 := [.int i1, .int (0 : Int32), (.ref a0)]) (as := [.int (0 : Int32), .int i1]) (rest := [(.ref a0)]) (o := some (.int (if (0 : Int32) < i1 then i1 else (0 : Int32)))) 3 rfl rfl rfl rfl rfl (mw_sp rfl rfl (Nat.le_of_ble_eq_true rfl) (mw_ac rfl (mw_ac rfl mw_an)) (mw_ac rfl mw_an)) rfl rfl ?_
  obtain ⟨hn4, H⟩ := H
  refine mm_R.nwaK (pc' := 10) (L' := [some ((.ref a0)), some (.int i1)]) (r := [(.ref a0)]) (x := (if (0 : Int32) < i1 then i1 else (0 : Int32))) 0 rfl rfl rfl hn4 (fun q1 hp2 e1 e2 => ?_)
  replace H := H _ _ e1 e2
  refine mm_R.wpt (pc' := 12) (L' := [some ((.ref a0)), some (.int i1)]) (r := []) 0 rfl rfl (H.mono (fun hp3 H => ?_))
  exact mm_R.rt (pc' := 15) (L' := [some ((.ref a0)), some (.int i1)]) (st1 := []) 0 rfl rfl rfl rfl rfl rfl H
-- StepRunner$Rule.stands, from 0
set_option maxRecDepth 10000 in
theorem w45_0 {X : List Int32} {d : Nat} {r0 : Value} {r1 : Value} {i2 : Int32} {i3 : Int32} {hp : mm_H} {Q : Option Value → mm_H → Prop} (H : ((i2 < (0 : Int32) → Q (some (.int (0 : Int32))) hp) ∧ (¬ i2 < (0 : Int32) → mm_isr r1 = true ∧ mw_ln r1 hp (fun x2 => ((x2 < i3 → Q (some (.int (0 : Int32))) hp) ∧ (¬ x2 < i3 → mm_isr r0 = true ∧ mw_tl r0 d (fun x4 => ((x4 ≤ (i3 - i2) → mm_R X (d + 1) 45 25 [some (r0), some (r1), some (.int i2), some (.int i3), some (.int (0 : Int32))] [] hp Q) ∧ (¬ x4 ≤ (i3 - i2) → Q (some (.int (0 : Int32))) hp))))))))) : mm_R X (d + 1) 45 0 (mm_L0 45 [r0, r1, .int i2, .int i3]) [] hp Q := by
  show mm_R X (d + 1) 45 0 [some (r0), some (r1), some (.int i2), some (.int i3), none] [] hp Q
  refine mm_R.br (L' := [some (r0), some (r1), some (.int i2), some (.int i3), none]) (st' := []) (t := 20) (u := 4) (b := mm_cc .lt i2 (0 : Int32)) 2 rfl (fun c => ?_) (fun c => ?_)
  · replace H := H.1 (of_decide_eq_true c)
    exact mm_R.rt (pc' := 21) (L' := [some (r0), some (r1), some (.int i2), some (.int i3), none]) (st1 := [.int (0 : Int32)]) 1 rfl rfl rfl rfl rfl rfl H
  · replace H := H.2 (of_decide_eq_false c)
    obtain ⟨hr1, H⟩ := H
    refine mm_R.al (pc' := 5) (L' := [some (r0), some (r1), some (.int i2), some (.int i3), none]) (r := [.int i3]) (v := r1) 1 rfl rfl rfl rfl hr1 ?_
    refine mm_R.wln (pc' := 6) (L' := [some (r0), some (r1), some (.int i2), some (.int i3), none]) (r := [.int i3]) 0 rfl rfl (H.mono (fun x2 H => ?_))
    refine mm_R.br (L' := [some (r0), some (r1), some (.int i2), some (.int i3), none]) (st' := []) (t := 20) (u := 10) (b := mm_cc .gt i3 x2) 1 rfl (fun c => ?_) (fun c => ?_)
    · replace H := H.1 (of_decide_eq_true c)
      exact mm_R.rt (pc' := 21) (L' := [some (r0), some (r1), some (.int i2), some (.int i3), none]) (st1 := [.int (0 : Int32)]) 1 rfl rfl rfl rfl rfl rfl H
    · replace H := H.2 (of_decide_eq_false c)
      obtain ⟨hr3, H⟩ := H
      refine mm_R.al (pc' := 10) (L' := [some (r0), some (r1), some (.int i2), some (.int i3), none]) (r := []) (v := r0) 0 rfl rfl rfl rfl hr3 ?_
      refine mm_R.cTl (pc' := 11) (L' := [some (r0), some (r1), some (.int i2), some (.int i3), none]) (rest := []) 0 rfl rfl rfl mw_an (H.mono (fun x4 H => ?_))
      refine mm_R.br (L' := [some (r0), some (r1), some (.int i2), some (.int i3), none]) (st' := []) (t := 22) (u := 20) (b := mm_cc .le x4 (i3 - i2)) 4 rfl (fun c => ?_) (fun c => ?_)
      · replace H := H.1 (of_decide_eq_true c)
        exact mm_R.pn (pc' := 25) (L' := [some (r0), some (r1), some (.int i2), some (.int i3), some (.int (0 : Int32))]) (st' := []) 2 rfl H
      · replace H := H.2 (of_decide_eq_false c)
        exact mm_R.rt (pc' := 21) (L' := [some (r0), some (r1), some (.int i2), some (.int i3), none]) (st1 := [.int (0 : Int32)]) 1 rfl rfl rfl rfl rfl rfl H
-- StepRunner$Rule.stands, from 25
set_option maxRecDepth 10000 in
theorem w45_25 {X : List Int32} {d : Nat} {r0 : Value} {r1 : Value} {i2 : Int32} {i3 : Int32} {i4 : Int32} {hp : mm_H} {Q : Option Value → mm_H → Prop} (H : mm_isr r0 = true ∧ mw_tl r0 d (fun x2 => ((x2 ≤ i4 → Q (some (.int (1 : Int32))) hp) ∧ (¬ x2 ≤ i4 → mm_isr r1 = true ∧ mw_ai 1001 r1 (i2 + i4) hp (fun x4 => mw_tc r0 i4 d (fun x5 => ((x4 = x5 → mm_R X (d + 1) 45 25 [some (r0), some (r1), some (.int i2), some (.int i3), some (.int (i4 + (1 : Int32)))] [] hp Q) ∧ (¬ x4 = x5 → Q (some (.int (0 : Int32))) hp)))))))) : mm_R X (d + 1) 45 25 [some (r0), some (r1), some (.int i2), some (.int i3), some (.int i4)] [] hp Q := by
  obtain ⟨hr1, H⟩ := H
  refine mm_R.al (pc' := 27) (L' := [some (r0), some (r1), some (.int i2), some (.int i3), some (.int i4)]) (r := [.int i4]) (v := r0) 1 rfl rfl rfl rfl hr1 ?_
  refine mm_R.cTl (pc' := 28) (L' := [some (r0), some (r1), some (.int i2), some (.int i3), some (.int i4)]) (rest := [.int i4]) 0 rfl rfl rfl (mw_ac rfl mw_an) (H.mono (fun x2 H => ?_))
  refine mm_R.br (L' := [some (r0), some (r1), some (.int i2), some (.int i3), some (.int i4)]) (st' := []) (t := 57) (u := 34) (b := mm_cc .ge i4 x2) 1 rfl (fun c => ?_) (fun c => ?_)
  · replace H := H.1 (of_decide_eq_true c)
    exact mm_R.rt (pc' := 58) (L' := [some (r0), some (r1), some (.int i2), some (.int i3), some (.int i4)]) (st1 := [.int (1 : Int32)]) 1 rfl rfl rfl rfl rfl rfl H
  · replace H := H.2 (of_decide_eq_false c)
    obtain ⟨hr3, H⟩ := H
    refine mm_R.al (pc' := 34) (L' := [some (r0), some (r1), some (.int i2), some (.int i3), some (.int i4)]) (r := []) (v := r1) 0 rfl rfl rfl rfl hr3 ?_
    refine mm_R.wai (pc' := 39) (L' := [some (r0), some (r1), some (.int i2), some (.int i3), some (.int i4)]) (r := []) (t := 1001) 3 rfl rfl rfl rfl (H.mono (fun x4 H => ?_))
    refine mm_R.al (pc' := 40) (L' := [some (r0), some (r1), some (.int i2), some (.int i3), some (.int i4)]) (r := [.int x4]) (v := r0) 0 rfl rfl rfl rfl hr1 ?_
    refine mm_R.cTc (pc' := 43) (L' := [some (r0), some (r1), some (.int i2), some (.int i3), some (.int i4)]) (rest := [.int x4]) 1 rfl rfl rfl (mw_ac rfl mw_an) (H.mono (fun x5 H => ?_))
    refine mm_R.br (L' := [some (r0), some (r1), some (.int i2), some (.int i3), some (.int i4)]) (st' := []) (t := 51) (u := 49) (b := mm_cc .eq x4 x5) 1 rfl (fun c => ?_) (fun c => ?_)
    · replace H := H.1 (of_decide_eq_true c)
      exact mm_R.pn (pc' := 25) (L' := [some (r0), some (r1), some (.int i2), some (.int i3), some (.int (i4 + (1 : Int32)))]) (st' := []) 2 rfl H
    · replace H := H.2 (of_decide_eq_false c)
      exact mm_R.rt (pc' := 50) (L' := [some (r0), some (r1), some (.int i2), some (.int i3), some (.int i4)]) (st1 := [.int (0 : Int32)]) 1 rfl rfl rfl rfl rfl rfl H
-- StepRunner$Rule.addReference, from 0
set_option maxRecDepth 10000 in
theorem w46_0 {X : List Int32} {d : Nat} {a0 : Nat} {r1 : Value} {i2 : Int32} {i3 : Int32} {hp : mm_H} {Q : Option Value → mm_H → Prop} (H : mm_isr r1 = true ∧ mm_R X d 45 0 (mm_L0 45 [(.retAddr 2), r1, .int i2, .int i3]) [] hp (mw_ri (fun x3 hp2 => ((x3 = (0 : Int32) → mm_R X d 45 0 (mm_L0 45 [(.retAddr 3), r1, .int i2, .int i3]) [] hp2 (mw_ri (fun x5 hp4 => ((x5 = (0 : Int32) → Q (some (.int (-1 : Int32))) hp4) ∧ (¬ x5 = (0 : Int32) → mw_tl (.retAddr 3) d (fun x6 => ((i3 ≤ (i2 + x6) → Q (some (.int (-1 : Int32))) hp4) ∧ (¬ i3 ≤ (i2 + x6) → mw_ai 1001 r1 (i2 + x6) hp4 (fun x7 => ((x7 < (97 : Int32) → Q (some (.int (-1 : Int32))) hp4) ∧ (¬ x7 < (97 : Int32) → mw_ai 1001 r1 (i2 + x6) hp4 (fun x8 => ((x8 ≤ (100 : Int32) → mw_ai 1001 r1 (i2 + x6) hp4 (fun x9 => mw_rc (.ref a0) 47 hp4 ∧ mm_R X d 47 0 (mm_L0 47 [(.ref a0), .int ((200 : Int32) + (x9 - (97 : Int32)))]) [] hp4 (mw_r0 (fun hp11 => mw_rc (.ref a0) 48 hp11 ∧ mm_R X d 48 0 (mm_L0 48 [(.ref a0), r1, .int ((i2 + x6) + (1 : Int32)), .int i3]) [] hp11 (mw_ri (fun x14 hp13 => Q (some (.int x14)) hp13)))))) ∧ (¬ x8 ≤ (100 : Int32) → Q (some (.int (-1 : Int32))) hp4)))))))))))))) ∧ (¬ x3 = (0 : Int32) → mw_rc (.ref a0) 47 hp2 ∧ mm_R X d 47 0 (mm_L0 47 [(.ref a0), .int (204 : Int32)]) [] hp2 (mw_r0 (fun hp16 => mw_tl (.retAddr 2) d (fun x17 => mw_rc (.ref a0) 48 hp16 ∧ mm_R X d 48 0 (mm_L0 48 [(.ref a0), r1, .int (i2 + x17), .int i3]) [] hp16 (mw_ri (fun x20 hp19 => Q (some (.int x20)) hp19)))))))))) : mm_R X (d + 1) 46 0 (mm_L0 46 [(.ref a0), r1, .int i2, .int i3]) [] hp Q := by
  show mm_R X (d + 1) 46 0 [some ((.ref a0)), some (r1), some (.int i2), some (.int i3), none] [] hp Q
  obtain ⟨hr1, H⟩ := H
  refine mm_R.al (pc' := 5) (L' := [some ((.ref a0)), some (r1), some (.int i2), some (.int i3), some (.int i2)]) (r := [(.retAddr 2)]) (v := r1) 3 rfl rfl rfl rfl hr1 ?_
  refine mm_R.cS (pc' := 9) (L' := [some ((.ref a0)), some (r1), some (.int i2), some (.int i3), some (.int i2)]) (st1 := [.int i3, .int i2, r1, (.retAddr 2)]) (as := [(.retAddr 2), r1, .int i2, .int i3]) (rest := []) 2 rfl rfl (mw_sp rfl rfl (Nat.le_of_ble_eq_true rfl) (mw_ac rfl (mw_ac (mw_c1 hr1) (mw_ac rfl (mw_ac rfl mw_an)))) mw_an) rfl rfl (H.mono (fun o hp2 H => ?_))
  obtain ⟨x3, rfl, H⟩ := H
  refine mm_R.br (L' := [some ((.ref a0)), some (r1), some (.int i2), some (.int i3), some (.int i2)]) (st' := []) (t := 35) (u := 15) (b := mm_cc .eq x3 (0 : Int32)) 1 rfl (fun c => ?_) (fun c => ?_)
  · replace H := H.1 (of_decide_eq_true c)
    refine mm_R.al (pc' := 37) (L' := [some ((.ref a0)), some (r1), some (.int i2), some (.int i3), some (.int i2)]) (r := [(.retAddr 3)]) (v := r1) 1 rfl rfl rfl rfl hr1 ?_
    refine mm_R.cS (pc' := 41) (L' := [some ((.ref a0)), some (r1), some (.int i2), some (.int i3), some (.int i2)]) (st1 := [.int i3, .int i2, r1, (.retAddr 3)]) (as := [(.retAddr 3), r1, .int i2, .int i3]) (rest := []) 2 rfl rfl (mw_sp rfl rfl (Nat.le_of_ble_eq_true rfl) (mw_ac rfl (mw_ac (mw_c1 hr1) (mw_ac rfl (mw_ac rfl mw_an)))) mw_an) rfl rfl (H.mono (fun o hp4 H => ?_))
    obtain ⟨x5, rfl, H⟩ := H
    refine mm_R.br (L' := [some ((.ref a0)), some (r1), some (.int i2), some (.int i3), some (.int i2)]) (st' := []) (t := 104) (u := 47) (b := mm_cc .eq x5 (0 : Int32)) 1 rfl (fun c => ?_) (fun c => ?_)
    · replace H := H.1 (of_decide_eq_true c)
      exact mm_R.rt (pc' := 105) (L' := [some ((.ref a0)), some (r1), some (.int i2), some (.int i3), some (.int i2)]) (st1 := [.int (-1 : Int32)]) 1 rfl rfl rfl rfl rfl rfl H
    · replace H := H.2 (of_decide_eq_false c)
      refine mm_R.cTl (pc' := 51) (L' := [some ((.ref a0)), some (r1), some (.int i2), some (.int i3), some (.int i2)]) (rest := [.int i2]) 2 rfl rfl rfl (mw_ac rfl mw_an) (H.mono (fun x6 H => ?_))
      refine mm_R.br (L' := [some ((.ref a0)), some (r1), some (.int i2), some (.int i3), some (.int (i2 + x6))]) (st' := []) (t := 81) (u := 63) (b := mm_cc .ge (i2 + x6) i3) 5 rfl (fun c => ?_) (fun c => ?_)
      · replace H := H.1 (of_decide_eq_true c)
        exact mm_R.rt (pc' := 82) (L' := [some ((.ref a0)), some (r1), some (.int i2), some (.int i3), some (.int (i2 + x6))]) (st1 := [.int (-1 : Int32)]) 1 rfl rfl rfl rfl rfl rfl H
      · replace H := H.2 (of_decide_eq_false c)
        refine mm_R.al (pc' := 63) (L' := [some ((.ref a0)), some (r1), some (.int i2), some (.int i3), some (.int (i2 + x6))]) (r := []) (v := r1) 0 rfl rfl rfl rfl hr1 ?_
        refine mm_R.wai (pc' := 66) (L' := [some ((.ref a0)), some (r1), some (.int i2), some (.int i3), some (.int (i2 + x6))]) (r := []) (t := 1001) 1 rfl rfl rfl rfl (H.mono (fun x7 H => ?_))
        refine mm_R.br (L' := [some ((.ref a0)), some (r1), some (.int i2), some (.int i3), some (.int (i2 + x6))]) (st' := []) (t := 81) (u := 72) (b := mm_cc .lt x7 (97 : Int32)) 2 rfl (fun c => ?_) (fun c => ?_)
        · replace H := H.1 (of_decide_eq_true c)
          exact mm_R.rt (pc' := 82) (L' := [some ((.ref a0)), some (r1), some (.int i2), some (.int i3), some (.int (i2 + x6))]) (st1 := [.int (-1 : Int32)]) 1 rfl rfl rfl rfl rfl rfl H
        · replace H := H.2 (of_decide_eq_false c)
          refine mm_R.al (pc' := 72) (L' := [some ((.ref a0)), some (r1), some (.int i2), some (.int i3), some (.int (i2 + x6))]) (r := []) (v := r1) 0 rfl rfl rfl rfl hr1 ?_
          refine mm_R.wai (pc' := 75) (L' := [some ((.ref a0)), some (r1), some (.int i2), some (.int i3), some (.int (i2 + x6))]) (r := []) (t := 1001) 1 rfl rfl rfl rfl (H.mono (fun x8 H => ?_))
          refine mm_R.br (L' := [some ((.ref a0)), some (r1), some (.int i2), some (.int i3), some (.int (i2 + x6))]) (st' := []) (t := 83) (u := 81) (b := mm_cc .le x8 (100 : Int32)) 2 rfl (fun c => ?_) (fun c => ?_)
          · replace H := H.1 (of_decide_eq_true c)
            refine mm_R.al (pc' := 87) (L' := [some ((.ref a0)), some (r1), some (.int i2), some (.int i3), some (.int (i2 + x6))]) (r := [.int (200 : Int32), (.ref a0)]) (v := r1) 2 rfl rfl rfl rfl hr1 ?_
            refine mm_R.wai (pc' := 90) (L' := [some ((.ref a0)), some (r1), some (.int i2), some (.int i3), some (.int (i2 + x6))]) (r := [.int (200 : Int32), (.ref a0)]) (t := 1001) 1 rfl rfl rfl rfl (H.mono (fun x9 H => ?_))
            obtain ⟨hc10, H⟩ := H
            refine mm_R.cV (pc' := 95) (L' := [some ((.ref a0)), some (r1), some (.int i2), some (.int i3), some (.int (i2 + x6))]) (st1 := [.int ((200 : Int32) + (x9 - (97 : Int32))), (.ref a0)]) (as := [.int ((200 : Int32) + (x9 - (97 : Int32)))]) (rest := []) 3 rfl rfl (mw_sp rfl rfl (Nat.le_of_ble_eq_true rfl) (mw_ac rfl (mw_ac rfl mw_an)) mw_an) rfl rfl hc10 (H.mono (fun o hp11 H => ?_))
            obtain ⟨rfl, H⟩ := H
            refine mm_R.al (pc' := 107) (L' := [some ((.ref a0)), some (r1), some (.int i2), some (.int i3), some (.int ((i2 + x6) + (1 : Int32)))]) (r := [(.ref a0)]) (v := r1) 3 rfl rfl rfl rfl hr1 ?_
            obtain ⟨hc12, H⟩ := H
            refine mm_R.cV (pc' := 111) (L' := [some ((.ref a0)), some (r1), some (.int i2), some (.int i3), some (.int ((i2 + x6) + (1 : Int32)))]) (st1 := [.int i3, .int ((i2 + x6) + (1 : Int32)), r1, (.ref a0)]) (as := [r1, .int ((i2 + x6) + (1 : Int32)), .int i3]) (rest := []) 2 rfl rfl (mw_sp rfl rfl (Nat.le_of_ble_eq_true rfl) (mw_ac rfl (mw_ac (mw_c1 hr1) (mw_ac rfl (mw_ac rfl mw_an)))) mw_an) rfl rfl hc12 (H.mono (fun o hp13 H => ?_))
            obtain ⟨x14, rfl, H⟩ := H
            exact mm_R.rt (pc' := 114) (L' := [some ((.ref a0)), some (r1), some (.int i2), some (.int i3), some (.int ((i2 + x6) + (1 : Int32)))]) (st1 := [.int x14]) 0 rfl rfl rfl rfl rfl rfl H
          · replace H := H.2 (of_decide_eq_false c)
            exact mm_R.rt (pc' := 82) (L' := [some ((.ref a0)), some (r1), some (.int i2), some (.int i3), some (.int (i2 + x6))]) (st1 := [.int (-1 : Int32)]) 1 rfl rfl rfl rfl rfl rfl H
  · replace H := H.2 (of_decide_eq_false c)
    obtain ⟨hc15, H⟩ := H
    refine mm_R.cV (pc' := 19) (L' := [some ((.ref a0)), some (r1), some (.int i2), some (.int i3), some (.int i2)]) (st1 := [.int (204 : Int32), (.ref a0)]) (as := [.int (204 : Int32)]) (rest := []) 2 rfl rfl (mw_sp rfl rfl (Nat.le_of_ble_eq_true rfl) (mw_ac rfl (mw_ac rfl mw_an)) mw_an) rfl rfl hc15 (H.mono (fun o hp16 H => ?_))
    obtain ⟨rfl, H⟩ := H
    refine mm_R.cTl (pc' := 26) (L' := [some ((.ref a0)), some (r1), some (.int i2), some (.int i3), some (.int i2)]) (rest := [.int i2]) 2 rfl rfl rfl (mw_ac rfl mw_an) (H.mono (fun x17 H => ?_))
    refine mm_R.al (pc' := 107) (L' := [some ((.ref a0)), some (r1), some (.int i2), some (.int i3), some (.int (i2 + x17))]) (r := [(.ref a0)]) (v := r1) 4 rfl rfl rfl rfl hr1 ?_
    obtain ⟨hc18, H⟩ := H
    refine mm_R.cV (pc' := 111) (L' := [some ((.ref a0)), some (r1), some (.int i2), some (.int i3), some (.int (i2 + x17))]) (st1 := [.int i3, .int (i2 + x17), r1, (.ref a0)]) (as := [r1, .int (i2 + x17), .int i3]) (rest := []) 2 rfl rfl (mw_sp rfl rfl (Nat.le_of_ble_eq_true rfl) (mw_ac rfl (mw_ac (mw_c1 hr1) (mw_ac rfl (mw_ac rfl mw_an)))) mw_an) rfl rfl hc18 (H.mono (fun o hp19 H => ?_))
    obtain ⟨x20, rfl, H⟩ := H
    exact mm_R.rt (pc' := 114) (L' := [some ((.ref a0)), some (r1), some (.int i2), some (.int i3), some (.int (i2 + x17))]) (st1 := [.int x20]) 0 rfl rfl rfl rfl rfl rfl H
-- StepRunner$Rule.addCode, from 0
set_option maxRecDepth 10000 in
theorem w47_0 {X : List Int32} {d : Nat} {a0 : Nat} {i1 : Int32} {hp : mm_H} {Q : Option Value → mm_H → Prop} (H : mw_gi 8 1 (.ref a0) hp (fun x1 => mw_gv 8 0 (.ref a0) hp (fun v2 => mw_ln v2 hp (fun x3 => ((x3 ≤ x1 → Q none hp) ∧ (¬ x3 ≤ x1 → mw_gv 8 0 (.ref a0) hp (fun v4 => mw_gi 8 1 (.ref a0) hp (fun x5 => mw_si 1000 .int v4 x5 i1 hp (fun hp6 => mw_gi 8 1 (.ref a0) hp6 (fun x7 => mw_pt 8 1 (.ref a0) (.int (x7 + (1 : Int32))) hp6 (fun hp8 => Q none hp8))))))))))) : mm_R X (d + 1) 47 0 (mm_L0 47 [(.ref a0), .int i1]) [] hp Q := by
  show mm_R X (d + 1) 47 0 [some ((.ref a0)), some (.int i1)] [] hp Q
  refine mm_R.wgi (pc' := 1) (L' := [some ((.ref a0)), some (.int i1)]) (r := []) 1 rfl rfl (H.mono (fun x1 H => ?_))
  refine mm_R.wgv (pc' := 5) (L' := [some ((.ref a0)), some (.int i1)]) (r := [.int x1]) 1 rfl rfl (H.mono (fun v2 H => ?_))
  refine mm_R.wln (pc' := 8) (L' := [some ((.ref a0)), some (.int i1)]) (r := [.int x1]) 0 rfl rfl (H.mono (fun x3 H => ?_))
  refine mm_R.br (L' := [some ((.ref a0)), some (.int i1)]) (st' := []) (t := 32) (u := 12) (b := mm_cc .ge x1 x3) 1 rfl (fun c => ?_) (fun c => ?_)
  · replace H := H.1 (of_decide_eq_true c)
    exact mm_R.rt (pc' := 32) (L' := [some ((.ref a0)), some (.int i1)]) (st1 := []) 0 rfl rfl rfl rfl rfl rfl H
  · replace H := H.2 (of_decide_eq_false c)
    refine mm_R.wgv (pc' := 13) (L' := [some ((.ref a0)), some (.int i1)]) (r := []) 1 rfl rfl (H.mono (fun v4 H => ?_))
    refine mm_R.wgi (pc' := 17) (L' := [some ((.ref a0)), some (.int i1)]) (r := [v4]) 1 rfl rfl (H.mono (fun x5 H => ?_))
    refine mm_R.wsi (pc' := 21) (L' := [some ((.ref a0)), some (.int i1)]) (r := []) (t := 1000) (ty := .int) 1 rfl rfl rfl rfl (H.mono (fun hp6 H => ?_))
    refine mm_R.wgi (pc' := 24) (L' := [some ((.ref a0)), some (.int i1)]) (r := [(.ref a0)]) 2 rfl rfl (H.mono (fun x7 H => ?_))
    refine mm_R.wpt (pc' := 29) (L' := [some ((.ref a0)), some (.int i1)]) (r := []) 2 rfl rfl (H.mono (fun hp8 H => ?_))
    exact mm_R.rt (pc' := 32) (L' := [some ((.ref a0)), some (.int i1)]) (st1 := []) 0 rfl rfl rfl rfl rfl rfl H
-- StepRunner$Rule.addAccesses, from 0
set_option maxRecDepth 10000 in
theorem w48_0 {X : List Int32} {d : Nat} {a0 : Nat} {r1 : Value} {i2 : Int32} {i3 : Int32} {hp : mm_H} {Q : Option Value → mm_H → Prop} (H : mm_R X (d + 1) 48 3 [some ((.ref a0)), some (r1), some (.int i2), some (.int i3), some (.int i2)] [] hp Q) : mm_R X (d + 1) 48 0 (mm_L0 48 [(.ref a0), r1, .int i2, .int i3]) [] hp Q := by
  show mm_R X (d + 1) 48 0 [some ((.ref a0)), some (r1), some (.int i2), some (.int i3), none] [] hp Q
  exact mm_R.pn (pc' := 3) (L' := [some ((.ref a0)), some (r1), some (.int i2), some (.int i3), some (.int i2)]) (st' := []) 2 rfl H
-- StepRunner$Rule.addAccesses, from 3
set_option maxRecDepth 10000 in
theorem w48_3 {X : List Int32} {d : Nat} {a0 : Nat} {r1 : Value} {i2 : Int32} {i3 : Int32} {i4 : Int32} {hp : mm_H} {Q : Option Value → mm_H → Prop} (H : ((i4 < (0 : Int32) → Q (some (.int (-1 : Int32))) hp) ∧ (¬ i4 < (0 : Int32) → ((i3 ≤ i4 → Q (some (.int (-1 : Int32))) hp) ∧ (¬ i3 ≤ i4 → mm_isr r1 = true ∧ mw_ai 1001 r1 i4 hp (fun x2 => ((¬ x2 = (41 : Int32) → mm_R X d 45 0 (mm_L0 45 [(.retAddr 4), r1, .int i4, .int i3]) [] hp (mw_ri (fun x4 hp3 => ((x4 = (0 : Int32) → mm_R X d 49 0 (mm_L0 49 [r1, .int i4, .int i3]) [] hp3 (mw_ri (fun x6 hp5 => ((x6 = (0 : Int32) → Q (some (.int (-1 : Int32))) hp5) ∧ (¬ x6 = (0 : Int32) → mw_ai 1001 r1 (i4 + (1 : Int32)) hp5 (fun x7 => mw_rc (.ref a0) 47 hp5 ∧ mm_R X d 47 0 (mm_L0 47 [(.ref a0), .int ((300 : Int32) + (x7 - (48 : Int32)))]) [] hp5 (mw_r0 (fun hp9 => mm_R X (d + 1) 48 3 [some ((.ref a0)), some (r1), some (.int i2), some (.int i3), some (.int (i4 + (3 : Int32)))] [] hp9 Q)))))))) ∧ (¬ x4 = (0 : Int32) → mw_rc (.ref a0) 47 hp3 ∧ mm_R X d 47 0 (mm_L0 47 [(.ref a0), .int (308 : Int32)]) [] hp3 (mw_r0 (fun hp11 => mw_tl (.retAddr 4) d (fun x12 => mm_R X (d + 1) 48 3 [some ((.ref a0)), some (r1), some (.int i2), some (.int i3), some (.int (i4 + x12))] [] hp11 Q)))))))) ∧ (x2 = (41 : Int32) → mw_rc (.ref a0) 47 hp ∧ mm_R X d 47 0 (mm_L0 47 [(.ref a0), .int (400 : Int32)]) [] hp (mw_r0 (fun hp14 => mw_gi 8 3 (.ref a0) hp14 (fun x15 => mw_pt 8 3 (.ref a0) (.int (x15 + (1 : Int32))) hp14 (fun hp16 => Q (some (.int (i4 + (1 : Int32)))) hp16)))))))))))) : mm_R X (d + 1) 48 3 [some ((.ref a0)), some (r1), some (.int i2), some (.int i3), some (.int i4)] [] hp Q := by
  refine mm_R.br (L' := [some ((.ref a0)), some (r1), some (.int i2), some (.int i3), some (.int i4)]) (st' := []) (t := 112) (u := 8) (b := mm_cc .lt i4 (0 : Int32)) 2 rfl (fun c => ?_) (fun c => ?_)
  · replace H := H.1 (of_decide_eq_true c)
    exact mm_R.rt (pc' := 113) (L' := [some ((.ref a0)), some (r1), some (.int i2), some (.int i3), some (.int i4)]) (st1 := [.int (-1 : Int32)]) 1 rfl rfl rfl rfl rfl rfl H
  · replace H := H.2 (of_decide_eq_false c)
    refine mm_R.br (L' := [some ((.ref a0)), some (r1), some (.int i2), some (.int i3), some (.int i4)]) (st' := []) (t := 112) (u := 14) (b := mm_cc .ge i4 i3) 3 rfl (fun c => ?_) (fun c => ?_)
    · replace H := H.1 (of_decide_eq_true c)
      exact mm_R.rt (pc' := 113) (L' := [some ((.ref a0)), some (r1), some (.int i2), some (.int i3), some (.int i4)]) (st1 := [.int (-1 : Int32)]) 1 rfl rfl rfl rfl rfl rfl H
    · replace H := H.2 (of_decide_eq_false c)
      obtain ⟨hr1, H⟩ := H
      refine mm_R.al (pc' := 14) (L' := [some ((.ref a0)), some (r1), some (.int i2), some (.int i3), some (.int i4)]) (r := []) (v := r1) 0 rfl rfl rfl rfl hr1 ?_
      refine mm_R.wai (pc' := 17) (L' := [some ((.ref a0)), some (r1), some (.int i2), some (.int i3), some (.int i4)]) (r := []) (t := 1001) 1 rfl rfl rfl rfl (H.mono (fun x2 H => ?_))
      refine mm_R.br (L' := [some ((.ref a0)), some (r1), some (.int i2), some (.int i3), some (.int i4)]) (st' := []) (t := 45) (u := 23) (b := mm_cc .ne x2 (41 : Int32)) 2 rfl (fun c => ?_) (fun c => ?_)
      · replace H := H.1 (of_decide_eq_true c)
        refine mm_R.al (pc' := 47) (L' := [some ((.ref a0)), some (r1), some (.int i2), some (.int i3), some (.int i4)]) (r := [(.retAddr 4)]) (v := r1) 1 rfl rfl rfl rfl hr1 ?_
        refine mm_R.cS (pc' := 51) (L' := [some ((.ref a0)), some (r1), some (.int i2), some (.int i3), some (.int i4)]) (st1 := [.int i3, .int i4, r1, (.retAddr 4)]) (as := [(.retAddr 4), r1, .int i4, .int i3]) (rest := []) 2 rfl rfl (mw_sp rfl rfl (Nat.le_of_ble_eq_true rfl) (mw_ac rfl (mw_ac (mw_c1 hr1) (mw_ac rfl (mw_ac rfl mw_an)))) mw_an) rfl rfl (H.mono (fun o hp3 H => ?_))
        obtain ⟨x4, rfl, H⟩ := H
        refine mm_R.br (L' := [some ((.ref a0)), some (r1), some (.int i2), some (.int i3), some (.int i4)]) (st' := []) (t := 77) (u := 57) (b := mm_cc .eq x4 (0 : Int32)) 1 rfl (fun c => ?_) (fun c => ?_)
        · replace H := H.1 (of_decide_eq_true c)
          refine mm_R.al (pc' := 77) (L' := [some ((.ref a0)), some (r1), some (.int i2), some (.int i3), some (.int i4)]) (r := []) (v := r1) 0 rfl rfl rfl rfl hr1 ?_
          refine mm_R.cS (pc' := 81) (L' := [some ((.ref a0)), some (r1), some (.int i2), some (.int i3), some (.int i4)]) (st1 := [.int i3, .int i4, r1]) (as := [r1, .int i4, .int i3]) (rest := []) 2 rfl rfl (mw_sp rfl rfl (Nat.le_of_ble_eq_true rfl) (mw_ac (mw_c1 hr1) (mw_ac rfl (mw_ac rfl mw_an))) mw_an) rfl rfl (H.mono (fun o hp5 H => ?_))
          obtain ⟨x6, rfl, H⟩ := H
          refine mm_R.br (L' := [some ((.ref a0)), some (r1), some (.int i2), some (.int i3), some (.int i4)]) (st' := []) (t := 110) (u := 87) (b := mm_cc .eq x6 (0 : Int32)) 1 rfl (fun c => ?_) (fun c => ?_)
          · replace H := H.1 (of_decide_eq_true c)
            exact mm_R.rt (pc' := 111) (L' := [some ((.ref a0)), some (r1), some (.int i2), some (.int i3), some (.int i4)]) (st1 := [.int (-1 : Int32)]) 1 rfl rfl rfl rfl rfl rfl H
          · replace H := H.2 (of_decide_eq_false c)
            refine mm_R.al (pc' := 91) (L' := [some ((.ref a0)), some (r1), some (.int i2), some (.int i3), some (.int i4)]) (r := [.int (300 : Int32), (.ref a0)]) (v := r1) 2 rfl rfl rfl rfl hr1 ?_
            refine mm_R.wai (pc' := 96) (L' := [some ((.ref a0)), some (r1), some (.int i2), some (.int i3), some (.int i4)]) (r := [.int (300 : Int32), (.ref a0)]) (t := 1001) 3 rfl rfl rfl rfl (H.mono (fun x7 H => ?_))
            obtain ⟨hc8, H⟩ := H
            refine mm_R.cV (pc' := 101) (L' := [some ((.ref a0)), some (r1), some (.int i2), some (.int i3), some (.int i4)]) (st1 := [.int ((300 : Int32) + (x7 - (48 : Int32))), (.ref a0)]) (as := [.int ((300 : Int32) + (x7 - (48 : Int32)))]) (rest := []) 3 rfl rfl (mw_sp rfl rfl (Nat.le_of_ble_eq_true rfl) (mw_ac rfl (mw_ac rfl mw_an)) mw_an) rfl rfl hc8 (H.mono (fun o hp9 H => ?_))
            obtain ⟨rfl, H⟩ := H
            exact mm_R.pn (pc' := 3) (L' := [some ((.ref a0)), some (r1), some (.int i2), some (.int i3), some (.int (i4 + (3 : Int32)))]) (st' := []) 2 rfl H
        · replace H := H.2 (of_decide_eq_false c)
          obtain ⟨hc10, H⟩ := H
          refine mm_R.cV (pc' := 61) (L' := [some ((.ref a0)), some (r1), some (.int i2), some (.int i3), some (.int i4)]) (st1 := [.int (308 : Int32), (.ref a0)]) (as := [.int (308 : Int32)]) (rest := []) 2 rfl rfl (mw_sp rfl rfl (Nat.le_of_ble_eq_true rfl) (mw_ac rfl (mw_ac rfl mw_an)) mw_an) rfl rfl hc10 (H.mono (fun o hp11 H => ?_))
          obtain ⟨rfl, H⟩ := H
          refine mm_R.cTl (pc' := 68) (L' := [some ((.ref a0)), some (r1), some (.int i2), some (.int i3), some (.int i4)]) (rest := [.int i4]) 2 rfl rfl rfl (mw_ac rfl mw_an) (H.mono (fun x12 H => ?_))
          exact mm_R.pn (pc' := 3) (L' := [some ((.ref a0)), some (r1), some (.int i2), some (.int i3), some (.int (i4 + x12))]) (st' := []) 3 rfl H
      · replace H := H.2 (Decidable.of_not_not (of_decide_eq_false c))
        obtain ⟨hc13, H⟩ := H
        refine mm_R.cV (pc' := 27) (L' := [some ((.ref a0)), some (r1), some (.int i2), some (.int i3), some (.int i4)]) (st1 := [.int (400 : Int32), (.ref a0)]) (as := [.int (400 : Int32)]) (rest := []) 2 rfl rfl (mw_sp rfl rfl (Nat.le_of_ble_eq_true rfl) (mw_ac rfl (mw_ac rfl mw_an)) mw_an) rfl rfl hc13 (H.mono (fun o hp14 H => ?_))
        obtain ⟨rfl, H⟩ := H
        refine mm_R.wgi (pc' := 32) (L' := [some ((.ref a0)), some (r1), some (.int i2), some (.int i3), some (.int i4)]) (r := [(.ref a0)]) 2 rfl rfl (H.mono (fun x15 H => ?_))
        refine mm_R.wpt (pc' := 37) (L' := [some ((.ref a0)), some (r1), some (.int i2), some (.int i3), some (.int i4)]) (r := []) 2 rfl rfl (H.mono (fun hp16 H => ?_))
        exact mm_R.rt (pc' := 44) (L' := [some ((.ref a0)), some (r1), some (.int i2), some (.int i3), some (.int i4)]) (st1 := [.int (i4 + (1 : Int32))]) 3 rfl rfl rfl rfl rfl rfl H
-- StepRunner$Rule.isElement, from 0
set_option maxRecDepth 10000 in
theorem w49_0 {X : List Int32} {d : Nat} {r0 : Value} {i1 : Int32} {i2 : Int32} {hp : mm_H} {Q : Option Value → mm_H → Prop} (H : (((i2 - i1) < (3 : Int32) → Q (some (.int (0 : Int32))) hp) ∧ (¬ (i2 - i1) < (3 : Int32) → mm_isr r0 = true ∧ mw_ai 1001 r0 i1 hp (fun x2 => ((¬ x2 = (91 : Int32) → Q (some (.int (0 : Int32))) hp) ∧ (x2 = (91 : Int32) → mw_ai 1001 r0 (i1 + (2 : Int32)) hp (fun x3 => ((x3 = (93 : Int32) → mw_ai 1001 r0 (i1 + (1 : Int32)) hp (fun x4 => ((x4 < (48 : Int32) → Q (some (.int (0 : Int32))) hp) ∧ (¬ x4 < (48 : Int32) → mw_ai 1001 r0 (i1 + (1 : Int32)) hp (fun x5 => (((55 : Int32) < x5 → Q (some (.int (0 : Int32))) hp) ∧ (¬ (55 : Int32) < x5 → Q (some (.int (1 : Int32))) hp))))))) ∧ (¬ x3 = (93 : Int32) → Q (some (.int (0 : Int32))) hp))))))))) : mm_R X (d + 1) 49 0 (mm_L0 49 [r0, .int i1, .int i2]) [] hp Q := by
  show mm_R X (d + 1) 49 0 [some (r0), some (.int i1), some (.int i2)] [] hp Q
  refine mm_R.br (L' := [some (r0), some (.int i1), some (.int i2)]) (st' := []) (t := 25) (u := 7) (b := mm_cc .lt (i2 - i1) (3 : Int32)) 5 rfl (fun c => ?_) (fun c => ?_)
  · replace H := H.1 (of_decide_eq_true c)
    exact mm_R.rt (pc' := 26) (L' := [some (r0), some (.int i1), some (.int i2)]) (st1 := [.int (0 : Int32)]) 1 rfl rfl rfl rfl rfl rfl H
  · replace H := H.2 (of_decide_eq_false c)
    obtain ⟨hr1, H⟩ := H
    refine mm_R.al (pc' := 7) (L' := [some (r0), some (.int i1), some (.int i2)]) (r := []) (v := r0) 0 rfl rfl rfl rfl hr1 ?_
    refine mm_R.wai (pc' := 9) (L' := [some (r0), some (.int i1), some (.int i2)]) (r := []) (t := 1001) 1 rfl rfl rfl rfl (H.mono (fun x2 H => ?_))
    refine mm_R.br (L' := [some (r0), some (.int i1), some (.int i2)]) (st' := []) (t := 25) (u := 15) (b := mm_cc .ne x2 (91 : Int32)) 2 rfl (fun c => ?_) (fun c => ?_)
    · replace H := H.1 (of_decide_eq_true c)
      exact mm_R.rt (pc' := 26) (L' := [some (r0), some (.int i1), some (.int i2)]) (st1 := [.int (0 : Int32)]) 1 rfl rfl rfl rfl rfl rfl H
    · replace H := H.2 (Decidable.of_not_not (of_decide_eq_false c))
      refine mm_R.al (pc' := 15) (L' := [some (r0), some (.int i1), some (.int i2)]) (r := []) (v := r0) 0 rfl rfl rfl rfl hr1 ?_
      refine mm_R.wai (pc' := 19) (L' := [some (r0), some (.int i1), some (.int i2)]) (r := []) (t := 1001) 3 rfl rfl rfl rfl (H.mono (fun x3 H => ?_))
      refine mm_R.br (L' := [some (r0), some (.int i1), some (.int i2)]) (st' := []) (t := 27) (u := 25) (b := mm_cc .eq x3 (93 : Int32)) 2 rfl (fun c => ?_) (fun c => ?_)
      · replace H := H.1 (of_decide_eq_true c)
        refine mm_R.al (pc' := 27) (L' := [some (r0), some (.int i1), some (.int i2)]) (r := []) (v := r0) 0 rfl rfl rfl rfl hr1 ?_
        refine mm_R.wai (pc' := 31) (L' := [some (r0), some (.int i1), some (.int i2)]) (r := []) (t := 1001) 3 rfl rfl rfl rfl (H.mono (fun x4 H => ?_))
        refine mm_R.br (L' := [some (r0), some (.int i1), some (.int i2)]) (st' := []) (t := 51) (u := 37) (b := mm_cc .lt x4 (48 : Int32)) 2 rfl (fun c => ?_) (fun c => ?_)
        · replace H := H.1 (of_decide_eq_true c)
          exact mm_R.rt (pc' := 52) (L' := [some (r0), some (.int i1), some (.int i2)]) (st1 := [.int (0 : Int32)]) 1 rfl rfl rfl rfl rfl rfl H
        · replace H := H.2 (of_decide_eq_false c)
          refine mm_R.al (pc' := 37) (L' := [some (r0), some (.int i1), some (.int i2)]) (r := []) (v := r0) 0 rfl rfl rfl rfl hr1 ?_
          refine mm_R.wai (pc' := 41) (L' := [some (r0), some (.int i1), some (.int i2)]) (r := []) (t := 1001) 3 rfl rfl rfl rfl (H.mono (fun x5 H => ?_))
          refine mm_R.br (L' := [some (r0), some (.int i1), some (.int i2)]) (st' := []) (t := 51) (u := 47) (b := mm_cc .gt x5 (55 : Int32)) 2 rfl (fun c => ?_) (fun c => ?_)
          · replace H := H.1 (of_decide_eq_true c)
            exact mm_R.rt (pc' := 52) (L' := [some (r0), some (.int i1), some (.int i2)]) (st1 := [.int (0 : Int32)]) 1 rfl rfl rfl rfl rfl rfl H
          · replace H := H.2 (of_decide_eq_false c)
            exact mm_R.rt (pc' := 52) (L' := [some (r0), some (.int i1), some (.int i2)]) (st1 := [.int (1 : Int32)]) 2 rfl rfl rfl rfl rfl rfl H
      · replace H := H.2 (of_decide_eq_false c)
        exact mm_R.rt (pc' := 26) (L' := [some (r0), some (.int i1), some (.int i2)]) (st1 := [.int (0 : Int32)]) 1 rfl rfl rfl rfl rfl rfl H
-- StepRunner.when, from 0
set_option maxRecDepth 10000 in
theorem w50_0 {X : List Int32} {d : Nat} {a0 : Nat} {i1 : Int32} {hp : mm_H} {Q : Option Value → mm_H → Prop} (H : mw_gv 0 0 (.ref a0) hp (fun v1 => mw_rc v1 42 hp ∧ mm_R X d 42 0 (mm_L0 42 [v1]) [] hp (mw_rv (fun v4 hp3 => mm_isr v4 = true ∧ mw_rc (.ref a0) 23 hp3 ∧ mm_R X d 23 0 (mm_L0 23 [(.ref a0), .int i1]) [] hp3 (mw_rv (fun v8 hp7 => mm_isr v8 = true ∧ mw_nl v4 (Q (some (.int (0 : Int32))) hp7) (mw_nl v8 (Q (some (.int (0 : Int32))) hp7) (mw_pt 7 7 v8 (v4) hp7 (fun hp10 => Q (some (.int (1 : Int32))) hp10))))))))) : mm_R X (d + 1) 50 0 (mm_L0 50 [(.ref a0), .int i1]) [] hp Q := by
  show mm_R X (d + 1) 50 0 [some ((.ref a0)), some (.int i1), none, none] [] hp Q
  refine mm_R.wgv (pc' := 1) (L' := [some ((.ref a0)), some (.int i1), none, none]) (r := []) 1 rfl rfl (H.mono (fun v1 H => ?_))
  obtain ⟨hc2, H⟩ := H
  refine mm_R.cV (pc' := 4) (L' := [some ((.ref a0)), some (.int i1), none, none]) (st1 := [v1]) (as := []) (rest := []) 0 rfl rfl (mw_sp rfl rfl (Nat.le_of_ble_eq_true rfl) (mw_ac (mw_c1 hc2.isr) mw_an) mw_an) rfl rfl hc2 (H.mono (fun o hp3 H => ?_))
  obtain ⟨v4, rfl, H⟩ := H
  obtain ⟨hr5, H⟩ := H
  refine mm_R.as (pc' := 7) (L' := [some ((.ref a0)), some (.int i1), none, none]) (r := []) (v := v4) 0 rfl rfl rfl rfl hr5 ?_
  obtain ⟨hc6, H⟩ := H
  refine mm_R.cV (pc' := 10) (L' := [some ((.ref a0)), some (.int i1), some (v4), none]) (st1 := [.int i1, (.ref a0)]) (as := [.int i1]) (rest := []) 2 rfl rfl (mw_sp rfl rfl (Nat.le_of_ble_eq_true rfl) (mw_ac rfl (mw_ac rfl mw_an)) mw_an) rfl rfl hc6 (H.mono (fun o hp7 H => ?_))
  obtain ⟨v8, rfl, H⟩ := H
  obtain ⟨hr9, H⟩ := H
  refine mm_R.as (pc' := 13) (L' := [some ((.ref a0)), some (.int i1), some (v4), none]) (r := []) (v := v8) 0 rfl rfl rfl rfl hr9 ?_
  refine mm_R.al (pc' := 14) (L' := [some ((.ref a0)), some (.int i1), some (v4), some (v8)]) (r := []) (v := v4) 0 rfl rfl rfl rfl hr5 ?_
  refine mm_R.wnl (pc' := 15) (L' := [some ((.ref a0)), some (.int i1), some (v4), some (v8)]) (r := []) (v := v4) (t := 22) (u := 18) 0 rfl rfl rfl (H.mono (fun H => ?_) (fun H => ?_))
  · exact mm_R.rt (pc' := 23) (L' := [some ((.ref a0)), some (.int i1), some (v4), some (v8)]) (st1 := [.int (0 : Int32)]) 1 rfl rfl rfl rfl rfl rfl H
  · refine mm_R.al (pc' := 18) (L' := [some ((.ref a0)), some (.int i1), some (v4), some (v8)]) (r := []) (v := v8) 0 rfl rfl rfl rfl hr9 ?_
    refine mm_R.wnl (pc' := 19) (L' := [some ((.ref a0)), some (.int i1), some (v4), some (v8)]) (r := []) (v := v8) (t := 22) (u := 24) 0 rfl rfl rfl (H.mono (fun H => ?_) (fun H => ?_))
    · exact mm_R.rt (pc' := 23) (L' := [some ((.ref a0)), some (.int i1), some (v4), some (v8)]) (st1 := [.int (0 : Int32)]) 1 rfl rfl rfl rfl rfl rfl H
    · refine mm_R.al (pc' := 24) (L' := [some ((.ref a0)), some (.int i1), some (v4), some (v8)]) (r := []) (v := v8) 0 rfl rfl rfl rfl hr9 ?_
      refine mm_R.al (pc' := 25) (L' := [some ((.ref a0)), some (.int i1), some (v4), some (v8)]) (r := [v8]) (v := v4) 0 rfl rfl rfl rfl hr5 ?_
      refine mm_R.wpt (pc' := 26) (L' := [some ((.ref a0)), some (.int i1), some (v4), some (v8)]) (r := []) 0 rfl rfl (H.mono (fun hp10 H => ?_))
      exact mm_R.rt (pc' := 30) (L' := [some ((.ref a0)), some (.int i1), some (v4), some (v8)]) (st1 := [.int (1 : Int32)]) 1 rfl rfl rfl rfl rfl rfl H
