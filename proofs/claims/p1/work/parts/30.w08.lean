-- StepRunner$Value.isOff, from 0
set_option maxRecDepth 10000 in
theorem w83_0 {X : List Int32} {d : Nat} {a0 : Nat} {hp : mm_H} {Q : Option Value → mm_H → Prop} (H : mw_gi 2 2 (.ref a0) hp (fun x1 => ((x1 = (0 : Int32) → Q (some (.int (1 : Int32))) hp) ∧ (¬ x1 = (0 : Int32) → mw_gi 2 2 (.ref a0) hp (fun x2 => ((¬ x2 = (1 : Int32) → Q (some (.int (0 : Int32))) hp) ∧ (x2 = (1 : Int32) → mw_gi 2 3 (.ref a0) hp (fun x3 => ((¬ x3 = (0 : Int32) → Q (some (.int (0 : Int32))) hp) ∧ (x3 = (0 : Int32) → Q (some (.int (1 : Int32))) hp)))))))))) : mm_R X (d + 1) 83 0 (mm_L0 83 [(.ref a0)]) [] hp Q := by
  show mm_R X (d + 1) 83 0 [some ((.ref a0))] [] hp Q
  refine mm_R.wgi (pc' := 1) (L' := [some ((.ref a0))]) (r := []) 1 rfl rfl (H.mono (fun x1 H => ?_))
  refine mm_R.br (L' := [some ((.ref a0))]) (st' := []) (t := 22) (u := 7) (b := mm_cc .eq x1 (0 : Int32)) 1 rfl (fun c => ?_) (fun c => ?_)
  · replace H := H.1 (of_decide_eq_true c)
    exact mm_R.rt (pc' := 27) (L' := [some ((.ref a0))]) (st1 := [.int (1 : Int32)]) 2 rfl rfl rfl rfl rfl rfl H
  · replace H := H.2 (of_decide_eq_false c)
    refine mm_R.wgi (pc' := 8) (L' := [some ((.ref a0))]) (r := []) 1 rfl rfl (H.mono (fun x2 H => ?_))
    refine mm_R.br (L' := [some ((.ref a0))]) (st' := []) (t := 26) (u := 15) (b := mm_cc .ne x2 (1 : Int32)) 2 rfl (fun c => ?_) (fun c => ?_)
    · replace H := H.1 (of_decide_eq_true c)
      exact mm_R.rt (pc' := 27) (L' := [some ((.ref a0))]) (st1 := [.int (0 : Int32)]) 1 rfl rfl rfl rfl rfl rfl H
    · replace H := H.2 (Decidable.of_not_not (of_decide_eq_false c))
      refine mm_R.wgi (pc' := 16) (L' := [some ((.ref a0))]) (r := []) 1 rfl rfl (H.mono (fun x3 H => ?_))
      refine mm_R.br (L' := [some ((.ref a0))]) (st' := []) (t := 26) (u := 22) (b := mm_cc .ne x3 (0 : Int32)) 1 rfl (fun c => ?_) (fun c => ?_)
      · replace H := H.1 (of_decide_eq_true c)
        exact mm_R.rt (pc' := 27) (L' := [some ((.ref a0))]) (st1 := [.int (0 : Int32)]) 1 rfl rfl rfl rfl rfl rfl H
      · replace H := H.2 (Decidable.of_not_not (of_decide_eq_false c))
        exact mm_R.rt (pc' := 27) (L' := [some ((.ref a0))]) (st1 := [.int (1 : Int32)]) 2 rfl rfl rfl rfl rfl rfl H
-- StepRunner$Progress.skipJob, from 0
set_option maxRecDepth 10000 in
theorem w84_0 {X : List Int32} {d : Nat} {a0 : Nat} {i1 : Int32} {r2 : Value} {hp : mm_H} {Q : Option Value → mm_H → Prop} (H : ((i1 < (0 : Int32) → Q none hp) ∧ (¬ i1 < (0 : Int32) → (((16 : Int32) ≤ i1 → Q none hp) ∧ (¬ (16 : Int32) ≤ i1 → mw_gv 5 2 (.ref a0) hp (fun v1 => mm_isr r2 = true ∧ mw_sv v1 i1 r2 hp (fun hp3 => Q none hp3))))))) : mm_R X (d + 1) 84 0 (mm_L0 84 [(.ref a0), .int i1, r2]) [] hp Q := by
  show mm_R X (d + 1) 84 0 [some ((.ref a0)), some (.int i1), some (r2)] [] hp Q
  refine mm_R.br (L' := [some ((.ref a0)), some (.int i1), some (r2)]) (st' := []) (t := 17) (u := 4) (b := mm_cc .lt i1 (0 : Int32)) 2 rfl (fun c => ?_) (fun c => ?_)
  · replace H := H.1 (of_decide_eq_true c)
    exact mm_R.rt (pc' := 17) (L' := [some ((.ref a0)), some (.int i1), some (r2)]) (st1 := []) 0 rfl rfl rfl rfl rfl rfl H
  · replace H := H.2 (of_decide_eq_false c)
    refine mm_R.br (L' := [some ((.ref a0)), some (.int i1), some (r2)]) (st' := []) (t := 17) (u := 10) (b := mm_cc .ge i1 (16 : Int32)) 3 rfl (fun c => ?_) (fun c => ?_)
    · replace H := H.1 (of_decide_eq_true c)
      exact mm_R.rt (pc' := 17) (L' := [some ((.ref a0)), some (.int i1), some (r2)]) (st1 := []) 0 rfl rfl rfl rfl rfl rfl H
    · replace H := H.2 (of_decide_eq_false c)
      refine mm_R.wgv (pc' := 11) (L' := [some ((.ref a0)), some (.int i1), some (r2)]) (r := []) 1 rfl rfl (H.mono (fun v1 H => ?_))
      obtain ⟨hr2, H⟩ := H
      refine mm_R.al (pc' := 15) (L' := [some ((.ref a0)), some (.int i1), some (r2)]) (r := [.int i1, v1]) (v := r2) 1 rfl rfl rfl rfl hr2 ?_
      refine mm_R.wsv (pc' := 16) (L' := [some ((.ref a0)), some (.int i1), some (r2)]) (r := []) 0 rfl rfl (H.mono (fun hp3 H => ?_))
      exact mm_R.rt (pc' := 17) (L' := [some ((.ref a0)), some (.int i1), some (r2)]) (st1 := []) 0 rfl rfl rfl rfl rfl rfl H
-- StepRunner$Progress.openJob, from 0
set_option maxRecDepth 10000 in
theorem w85_0 {X : List Int32} {d : Nat} {a0 : Nat} {i1 : Int32} {hp : mm_H} {Q : Option Value → mm_H → Prop} (H : ((i1 < (0 : Int32) → Q (some .null) hp) ∧ (¬ i1 < (0 : Int32) → ((i1 < (16 : Int32) → mw_gv 5 1 (.ref a0) hp (fun v1 => mw_av v1 i1 hp (fun v2 => mw_nl v2 (mw_gv 5 1 (.ref a0) hp (fun v3 => (∀ q4 hp5, q4 = hp.length → hp5 = hp ++ [(9, mm_df 9)] → mw_gi 5 0 (.ref a0) hp5 (fun x6 => mm_isr v3 = true ∧ mm_R X d 86 0 (mm_L0 86 [(.ref q4), .int x6, .int i1]) [] hp5 (mw_r0 (fun hp8 => mw_sv v3 i1 (.ref q4) hp8 (fun hp9 => mw_gi 5 7 (.ref a0) hp9 (fun x10 => mw_pt 5 7 (.ref a0) (.int (x10 + (1 : Int32))) hp9 (fun hp11 => mw_gv 5 1 (.ref a0) hp11 (fun v12 => mw_av v12 i1 hp11 (fun v13 => mw_nr v13 ∧ Q (some v13) hp11))))))))))) (mw_gi 5 7 (.ref a0) hp (fun x14 => mw_pt 5 7 (.ref a0) (.int (x14 + (1 : Int32))) hp (fun hp15 => mw_gv 5 1 (.ref a0) hp15 (fun v16 => mw_av v16 i1 hp15 (fun v17 => mw_nr v17 ∧ Q (some v17) hp15)))))))) ∧ (¬ i1 < (16 : Int32) → Q (some .null) hp))))) : mm_R X (d + 1) 85 0 (mm_L0 85 [(.ref a0), .int i1]) [] hp Q := by
  show mm_R X (d + 1) 85 0 [some ((.ref a0)), some (.int i1)] [] hp Q
  refine mm_R.br (L' := [some ((.ref a0)), some (.int i1)]) (st' := []) (t := 10) (u := 4) (b := mm_cc .lt i1 (0 : Int32)) 2 rfl (fun c => ?_) (fun c => ?_)
  · replace H := H.1 (of_decide_eq_true c)
    exact mm_R.rt (pc' := 11) (L' := [some ((.ref a0)), some (.int i1)]) (st1 := [.null]) 1 rfl rfl rfl rfl rfl rfl H
  · replace H := H.2 (of_decide_eq_false c)
    refine mm_R.br (L' := [some ((.ref a0)), some (.int i1)]) (st' := []) (t := 12) (u := 10) (b := mm_cc .lt i1 (16 : Int32)) 3 rfl (fun c => ?_) (fun c => ?_)
    · replace H := H.1 (of_decide_eq_true c)
      refine mm_R.wgv (pc' := 13) (L' := [some ((.ref a0)), some (.int i1)]) (r := []) 1 rfl rfl (H.mono (fun v1 H => ?_))
      refine mm_R.wav (pc' := 17) (L' := [some ((.ref a0)), some (.int i1)]) (r := []) 1 rfl rfl (H.mono (fun v2 H => ?_))
      refine mm_R.wnl (pc' := 18) (L' := [some ((.ref a0)), some (.int i1)]) (r := []) (v := v2) (t := 21) (u := 39) 0 rfl rfl rfl (H.mono (fun H => ?_) (fun H => ?_))
      · refine mm_R.wgv (pc' := 22) (L' := [some ((.ref a0)), some (.int i1)]) (r := []) 1 rfl rfl (H.mono (fun v3 H => ?_))
        refine mm_R.newK (pc' := 26) (L' := [some ((.ref a0)), some (.int i1)]) (r := [.int i1, v3]) 1 rfl rfl (fun q4 hp5 e1 e2 => ?_)
        replace H := H _ _ e1 e2
        refine mm_R.wgi (pc' := 31) (L' := [some ((.ref a0)), some (.int i1)]) (r := [(.ref q4), (.ref q4), .int i1, v3]) 2 rfl rfl (H.mono (fun x6 H => ?_))
        obtain ⟨hr7, H⟩ := H
        refine mm_R.cI (pc' := 35) (L' := [some ((.ref a0)), some (.int i1)]) (st1 := [.int i1, .int x6, (.ref q4), (.ref q4), .int i1, v3]) (as := [(.ref q4), .int x6, .int i1]) (rest := [(.ref q4), .int i1, v3]) 1 rfl rfl (mw_sp rfl rfl (Nat.le_of_ble_eq_true rfl) (mw_ac rfl (mw_ac rfl (mw_ac rfl mw_an))) (mw_ac rfl (mw_ac rfl (mw_ac (mw_c1 hr7) mw_an)))) rfl rfl rfl (H.mono (fun o hp8 H => ?_))
        obtain ⟨rfl, H⟩ := H
        refine mm_R.wsv (pc' := 38) (L' := [some ((.ref a0)), some (.int i1)]) (r := []) 0 rfl rfl (H.mono (fun hp9 H => ?_))
        refine mm_R.wgi (pc' := 41) (L' := [some ((.ref a0)), some (.int i1)]) (r := [(.ref a0)]) 2 rfl rfl (H.mono (fun x10 H => ?_))
        refine mm_R.wpt (pc' := 46) (L' := [some ((.ref a0)), some (.int i1)]) (r := []) 2 rfl rfl (H.mono (fun hp11 H => ?_))
        refine mm_R.wgv (pc' := 50) (L' := [some ((.ref a0)), some (.int i1)]) (r := []) 1 rfl rfl (H.mono (fun v12 H => ?_))
        refine mm_R.wav (pc' := 54) (L' := [some ((.ref a0)), some (.int i1)]) (r := []) 1 rfl rfl (H.mono (fun v13 H => ?_))
        exact mm_R.rt (pc' := 55) (L' := [some ((.ref a0)), some (.int i1)]) (st1 := [v13]) 0 rfl rfl rfl rfl rfl (mw_rva (ty := (.object "StepRunner$Job")) H.1 rfl) H.2
      · refine mm_R.wgi (pc' := 41) (L' := [some ((.ref a0)), some (.int i1)]) (r := [(.ref a0)]) 2 rfl rfl (H.mono (fun x14 H => ?_))
        refine mm_R.wpt (pc' := 46) (L' := [some ((.ref a0)), some (.int i1)]) (r := []) 2 rfl rfl (H.mono (fun hp15 H => ?_))
        refine mm_R.wgv (pc' := 50) (L' := [some ((.ref a0)), some (.int i1)]) (r := []) 1 rfl rfl (H.mono (fun v16 H => ?_))
        refine mm_R.wav (pc' := 54) (L' := [some ((.ref a0)), some (.int i1)]) (r := []) 1 rfl rfl (H.mono (fun v17 H => ?_))
        exact mm_R.rt (pc' := 55) (L' := [some ((.ref a0)), some (.int i1)]) (st1 := [v17]) 0 rfl rfl rfl rfl rfl (mw_rva (ty := (.object "StepRunner$Job")) H.1 rfl) H.2
    · replace H := H.2 (of_decide_eq_false c)
      exact mm_R.rt (pc' := 11) (L' := [some ((.ref a0)), some (.int i1)]) (st1 := [.null]) 1 rfl rfl rfl rfl rfl rfl H
-- StepRunner$Job.<init>, from 0
set_option maxRecDepth 10000 in
theorem w86_0 {X : List Int32} {d : Nat} {a0 : Nat} {i1 : Int32} {i2 : Int32} {hp : mm_H} {Q : Option Value → mm_H → Prop} (H : ((0 ≤ (192 : Int32) ∧ Int32.toNatClampNeg (192 : Int32) ≤ 100000) ∧ ∀ q1 hp2, q1 = hp.length → hp2 = hp ++ [(1001, List.replicate (Int32.toNatClampNeg (192 : Int32)) (.int 0))] → mw_pt 9 2 (.ref a0) ((.ref q1)) hp2 (fun hp3 => ((0 ≤ (8 : Int32) ∧ Int32.toNatClampNeg (8 : Int32) ≤ 100000) ∧ ∀ q4 hp5, q4 = hp3.length → hp5 = hp3 ++ [(1000, List.replicate (Int32.toNatClampNeg (8 : Int32)) (.int 0))] → mw_pt 9 3 (.ref a0) ((.ref q4)) hp5 (fun hp6 => mw_pt 9 0 (.ref a0) (.int i1) hp6 (fun hp7 => mw_pt 9 1 (.ref a0) (.int i2) hp7 (fun hp8 => Q none hp8))))))) : mm_R X (d + 1) 86 0 (mm_L0 86 [(.ref a0), .int i1, .int i2]) [] hp Q := by
  show mm_R X (d + 1) 86 0 [some ((.ref a0)), some (.int i1), some (.int i2)] [] hp Q
  refine mm_R.cP (pc' := 1) (L' := [some ((.ref a0)), some (.int i1), some (.int i2)]) (st1 := [(.ref a0)]) (as := [(.ref a0)]) (rest := []) (o := none) 1 rfl rfl rfl rfl rfl (mw_sp rfl rfl (Nat.le_of_ble_eq_true rfl) (mw_ac rfl mw_an) mw_an) rfl rfl ?_
  obtain ⟨hn10, H⟩ := H
  refine mm_R.nwaK (pc' := 8) (L' := [some ((.ref a0)), some (.int i1), some (.int i2)]) (r := [(.ref a0)]) (x := (192 : Int32)) 2 rfl rfl rfl hn10 (fun q1 hp2 e1 e2 => ?_)
  replace H := H _ _ e1 e2
  refine mm_R.wpt (pc' := 10) (L' := [some ((.ref a0)), some (.int i1), some (.int i2)]) (r := []) 0 rfl rfl (H.mono (fun hp3 H => ?_))
  obtain ⟨hn9, H⟩ := H
  refine mm_R.nwaK (pc' := 16) (L' := [some ((.ref a0)), some (.int i1), some (.int i2)]) (r := [(.ref a0)]) (x := (8 : Int32)) 2 rfl rfl rfl hn9 (fun q4 hp5 e1 e2 => ?_)
  replace H := H _ _ e1 e2
  refine mm_R.wpt (pc' := 18) (L' := [some ((.ref a0)), some (.int i1), some (.int i2)]) (r := []) 0 rfl rfl (H.mono (fun hp6 H => ?_))
  refine mm_R.wpt (pc' := 23) (L' := [some ((.ref a0)), some (.int i1), some (.int i2)]) (r := []) 2 rfl rfl (H.mono (fun hp7 H => ?_))
  refine mm_R.wpt (pc' := 28) (L' := [some ((.ref a0)), some (.int i1), some (.int i2)]) (r := []) 2 rfl rfl (H.mono (fun hp8 H => ?_))
  exact mm_R.rt (pc' := 31) (L' := [some ((.ref a0)), some (.int i1), some (.int i2)]) (st1 := []) 0 rfl rfl rfl rfl rfl rfl H
-- StepRunner$Job.makeCommand, from 0
set_option maxRecDepth 10000 in
theorem w87_0 {X : List Int32} {d : Nat} {a0 : Nat} {r1 : Value} {r2 : Value} {hp : mm_H} {Q : Option Value → mm_H → Prop} (H : mw_pt 9 4 (.ref a0) (.int (0 : Int32)) hp (fun hp1 => mw_pt 9 5 (.ref a0) (.int (0 : Int32)) hp1 (fun hp2 => mm_R X (d + 1) 87 12 [some ((.ref a0)), some (r1), some (r2), some (.int (0 : Int32)), none, none, none, none] [] hp2 Q))) : mm_R X (d + 1) 87 0 (mm_L0 87 [(.ref a0), r1, r2]) [] hp Q := by
  show mm_R X (d + 1) 87 0 [some ((.ref a0)), some (r1), some (r2), none, none, none, none, none] [] hp Q
  refine mm_R.wpt (pc' := 2) (L' := [some ((.ref a0)), some (r1), some (r2), none, none, none, none, none]) (r := []) 2 rfl rfl (H.mono (fun hp1 H => ?_))
  refine mm_R.wpt (pc' := 7) (L' := [some ((.ref a0)), some (r1), some (r2), none, none, none, none, none]) (r := []) 2 rfl rfl (H.mono (fun hp2 H => ?_))
  exact mm_R.pn (pc' := 12) (L' := [some ((.ref a0)), some (r1), some (r2), some (.int (0 : Int32)), none, none, none, none]) (st' := []) 2 rfl H
-- StepRunner$Job.makeCommand, from 12
set_option maxRecDepth 10000 in
theorem w87_12 {X : List Int32} {d : Nat} {a0 : Nat} {r1 : Value} {r2 : Value} {i3 : Int32} {o4 : Option Value} {o5 : Option Value} {o6 : Option Value} {o7 : Option Value} {hp : mm_H} {Q : Option Value → mm_H → Prop} (H : mm_isr r1 = true ∧ mw_gi 6 5 r1 hp (fun x2 => ((x2 ≤ i3 → Q (some (.int (1 : Int32))) hp) ∧ (¬ x2 ≤ i3 → (((4 : Int32) ≤ i3 → Q (some (.int (1 : Int32))) hp) ∧ (¬ (4 : Int32) ≤ i3 → mw_gv 6 4 r1 hp (fun v3 => mw_ai 1000 v3 i3 hp (fun x4 => ((x4 < (0 : Int32) → mm_R X (d + 1) 87 53 [some ((.ref a0)), some (r1), some (r2), some (.int i3), some (.int x4), o5, o6, o7] [.null] hp Q) ∧ (¬ x4 < (0 : Int32) → mm_isr r2 = true ∧ mw_ln r2 hp (fun x6 => ((x6 ≤ x4 → mm_R X (d + 1) 87 53 [some ((.ref a0)), some (r1), some (r2), some (.int i3), some (.int x4), o5, o6, o7] [.null] hp Q) ∧ (¬ x6 ≤ x4 → mw_av r2 x4 hp (fun v7 => mm_R X (d + 1) 87 53 [some ((.ref a0)), some (r1), some (r2), some (.int i3), some (.int x4), o5, o6, o7] [v7] hp Q)))))))))))))) : mm_R X (d + 1) 87 12 [some ((.ref a0)), some (r1), some (r2), some (.int i3), o4, o5, o6, o7] [] hp Q := by
  obtain ⟨hr1, H⟩ := H
  refine mm_R.al (pc' := 13) (L' := [some ((.ref a0)), some (r1), some (r2), some (.int i3), o4, o5, o6, o7]) (r := [.int i3]) (v := r1) 1 rfl rfl rfl rfl hr1 ?_
  refine mm_R.wgi (pc' := 14) (L' := [some ((.ref a0)), some (r1), some (r2), some (.int i3), o4, o5, o6, o7]) (r := [.int i3]) 0 rfl rfl (H.mono (fun x2 H => ?_))
  refine mm_R.br (L' := [some ((.ref a0)), some (r1), some (r2), some (.int i3), o4, o5, o6, o7]) (st' := []) (t := 152) (u := 20) (b := mm_cc .ge i3 x2) 1 rfl (fun c => ?_) (fun c => ?_)
  · replace H := H.1 (of_decide_eq_true c)
    exact mm_R.rt (pc' := 153) (L' := [some ((.ref a0)), some (r1), some (r2), some (.int i3), o4, o5, o6, o7]) (st1 := [.int (1 : Int32)]) 1 rfl rfl rfl rfl rfl rfl H
  · replace H := H.2 (of_decide_eq_false c)
    refine mm_R.br (L' := [some ((.ref a0)), some (r1), some (r2), some (.int i3), o4, o5, o6, o7]) (st' := []) (t := 152) (u := 25) (b := mm_cc .ge i3 (4 : Int32)) 3 rfl (fun c => ?_) (fun c => ?_)
    · replace H := H.1 (of_decide_eq_true c)
      exact mm_R.rt (pc' := 153) (L' := [some ((.ref a0)), some (r1), some (r2), some (.int i3), o4, o5, o6, o7]) (st1 := [.int (1 : Int32)]) 1 rfl rfl rfl rfl rfl rfl H
    · replace H := H.2 (of_decide_eq_false c)
      refine mm_R.al (pc' := 25) (L' := [some ((.ref a0)), some (r1), some (r2), some (.int i3), o4, o5, o6, o7]) (r := []) (v := r1) 0 rfl rfl rfl rfl hr1 ?_
      refine mm_R.wgv (pc' := 26) (L' := [some ((.ref a0)), some (r1), some (r2), some (.int i3), o4, o5, o6, o7]) (r := []) 0 rfl rfl (H.mono (fun v3 H => ?_))
      refine mm_R.wai (pc' := 30) (L' := [some ((.ref a0)), some (r1), some (r2), some (.int i3), o4, o5, o6, o7]) (r := []) (t := 1000) 1 rfl rfl rfl rfl (H.mono (fun x4 H => ?_))
      refine mm_R.br (L' := [some ((.ref a0)), some (r1), some (r2), some (.int i3), some (.int x4), o5, o6, o7]) (st' := []) (t := 52) (u := 38) (b := mm_cc .lt x4 (0 : Int32)) 3 rfl (fun c => ?_) (fun c => ?_)
      · replace H := H.1 (of_decide_eq_true c)
        exact mm_R.pn (pc' := 53) (L' := [some ((.ref a0)), some (r1), some (r2), some (.int i3), some (.int x4), o5, o6, o7]) (st' := [.null]) 1 rfl H
      · replace H := H.2 (of_decide_eq_false c)
        obtain ⟨hr5, H⟩ := H
        refine mm_R.al (pc' := 40) (L' := [some ((.ref a0)), some (r1), some (r2), some (.int i3), some (.int x4), o5, o6, o7]) (r := [.int x4]) (v := r2) 1 rfl rfl rfl rfl hr5 ?_
        refine mm_R.wln (pc' := 41) (L' := [some ((.ref a0)), some (r1), some (r2), some (.int i3), some (.int x4), o5, o6, o7]) (r := [.int x4]) 0 rfl rfl (H.mono (fun x6 H => ?_))
        refine mm_R.br (L' := [some ((.ref a0)), some (r1), some (r2), some (.int i3), some (.int x4), o5, o6, o7]) (st' := []) (t := 52) (u := 45) (b := mm_cc .ge x4 x6) 1 rfl (fun c => ?_) (fun c => ?_)
        · replace H := H.1 (of_decide_eq_true c)
          exact mm_R.pn (pc' := 53) (L' := [some ((.ref a0)), some (r1), some (r2), some (.int i3), some (.int x4), o5, o6, o7]) (st' := [.null]) 1 rfl H
        · replace H := H.2 (of_decide_eq_false c)
          refine mm_R.al (pc' := 45) (L' := [some ((.ref a0)), some (r1), some (r2), some (.int i3), some (.int x4), o5, o6, o7]) (r := []) (v := r2) 0 rfl rfl rfl rfl hr5 ?_
          refine mm_R.wav (pc' := 48) (L' := [some ((.ref a0)), some (r1), some (r2), some (.int i3), some (.int x4), o5, o6, o7]) (r := []) 1 rfl rfl (H.mono (fun v7 H => ?_))
          exact mm_R.pn (pc' := 53) (L' := [some ((.ref a0)), some (r1), some (r2), some (.int i3), some (.int x4), o5, o6, o7]) (st' := [v7]) 1 rfl H
-- StepRunner$Job.makeCommand, from 53
set_option maxRecDepth 10000 in
theorem w87_53 {X : List Int32} {d : Nat} {a0 : Nat} {r1 : Value} {r2 : Value} {i3 : Int32} {i4 : Int32} {o5 : Option Value} {o6 : Option Value} {o7 : Option Value} {s0 : Value} {hp : mm_H} {Q : Option Value → mm_H → Prop} (H : mm_isr s0 = true ∧ mw_nl s0 (Q (some (.int (0 : Int32))) hp) (mw_rc s0 69 hp ∧ mm_R X d 69 0 (mm_L0 69 [s0]) [] hp (mw_ri (fun x4 hp3 => ((¬ x4 = (0 : Int32) → mm_R X (d + 1) 87 91 [some ((.ref a0)), some (r1), some (r2), some (.int i3), some (.int i4), some (s0), o6, o7] [.int (1 : Int32)] hp3 Q) ∧ (x4 = (0 : Int32) → mw_rc s0 65 hp3 ∧ mm_R X d 65 0 (mm_L0 65 [s0]) [] hp3 (mw_ri (fun x7 hp6 => ((x7 = (0 : Int32) → mm_R X (d + 1) 87 91 [some ((.ref a0)), some (r1), some (r2), some (.int i3), some (.int i4), some (s0), o6, o7] [.int (0 : Int32)] hp6 Q) ∧ (¬ x7 = (0 : Int32) → mw_gi 2 4 s0 hp6 (fun x8 => ((¬ x8 = (0 : Int32) → mm_R X (d + 1) 87 91 [some ((.ref a0)), some (r1), some (r2), some (.int i3), some (.int i4), some (s0), o6, o7] [.int (0 : Int32)] hp6 Q) ∧ (x8 = (0 : Int32) → mm_R X (d + 1) 87 91 [some ((.ref a0)), some (r1), some (r2), some (.int i3), some (.int i4), some (s0), o6, o7] [.int (1 : Int32)] hp6 Q))))))))))))) : mm_R X (d + 1) 87 53 [some ((.ref a0)), some (r1), some (r2), some (.int i3), some (.int i4), o5, o6, o7] [s0] hp Q := by
  obtain ⟨hr1, H⟩ := H
  refine mm_R.as (pc' := 53) (L' := [some ((.ref a0)), some (r1), some (r2), some (.int i3), some (.int i4), o5, o6, o7]) (r := []) (v := s0) 0 rfl rfl rfl rfl hr1 ?_
  refine mm_R.al (pc' := 55) (L' := [some ((.ref a0)), some (r1), some (r2), some (.int i3), some (.int i4), some (s0), o6, o7]) (r := []) (v := s0) 0 rfl rfl rfl rfl hr1 ?_
  refine mm_R.wnl (pc' := 57) (L' := [some ((.ref a0)), some (r1), some (r2), some (.int i3), some (.int i4), some (s0), o6, o7]) (r := []) (v := s0) (t := 60) (u := 62) 0 rfl rfl rfl (H.mono (fun H => ?_) (fun H => ?_))
  · exact mm_R.rt (pc' := 61) (L' := [some ((.ref a0)), some (r1), some (r2), some (.int i3), some (.int i4), some (s0), o6, o7]) (st1 := [.int (0 : Int32)]) 1 rfl rfl rfl rfl rfl rfl H
  · refine mm_R.al (pc' := 62) (L' := [some ((.ref a0)), some (r1), some (r2), some (.int i3), some (.int i4), some (s0), o6, o7]) (r := []) (v := s0) 0 rfl rfl rfl rfl hr1 ?_
    obtain ⟨hc2, H⟩ := H
    refine mm_R.cV (pc' := 64) (L' := [some ((.ref a0)), some (r1), some (r2), some (.int i3), some (.int i4), some (s0), o6, o7]) (st1 := [s0]) (as := []) (rest := []) 0 rfl rfl (mw_sp rfl rfl (Nat.le_of_ble_eq_true rfl) (mw_ac (mw_c1 hc2.isr) mw_an) mw_an) rfl rfl hc2 (H.mono (fun o hp3 H => ?_))
    obtain ⟨x4, rfl, H⟩ := H
    refine mm_R.br (L' := [some ((.ref a0)), some (r1), some (r2), some (.int i3), some (.int i4), some (s0), o6, o7]) (st' := []) (t := 86) (u := 70) (b := mm_cc .ne x4 (0 : Int32)) 1 rfl (fun c => ?_) (fun c => ?_)
    · replace H := H.1 (of_decide_eq_true c)
      exact mm_R.pn (pc' := 91) (L' := [some ((.ref a0)), some (r1), some (r2), some (.int i3), some (.int i4), some (s0), o6, o7]) (st' := [.int (1 : Int32)]) 2 rfl H
    · replace H := H.2 (Decidable.of_not_not (of_decide_eq_false c))
      refine mm_R.al (pc' := 70) (L' := [some ((.ref a0)), some (r1), some (r2), some (.int i3), some (.int i4), some (s0), o6, o7]) (r := []) (v := s0) 0 rfl rfl rfl rfl hc2.isr ?_
      obtain ⟨hc5, H⟩ := H
      refine mm_R.cV (pc' := 72) (L' := [some ((.ref a0)), some (r1), some (r2), some (.int i3), some (.int i4), some (s0), o6, o7]) (st1 := [s0]) (as := []) (rest := []) 0 rfl rfl (mw_sp rfl rfl (Nat.le_of_ble_eq_true rfl) (mw_ac (mw_c1 hc5.isr) mw_an) mw_an) rfl rfl hc5 (H.mono (fun o hp6 H => ?_))
      obtain ⟨x7, rfl, H⟩ := H
      refine mm_R.br (L' := [some ((.ref a0)), some (r1), some (r2), some (.int i3), some (.int i4), some (s0), o6, o7]) (st' := []) (t := 90) (u := 78) (b := mm_cc .eq x7 (0 : Int32)) 1 rfl (fun c => ?_) (fun c => ?_)
      · replace H := H.1 (of_decide_eq_true c)
        exact mm_R.pn (pc' := 91) (L' := [some ((.ref a0)), some (r1), some (r2), some (.int i3), some (.int i4), some (s0), o6, o7]) (st' := [.int (0 : Int32)]) 1 rfl H
      · replace H := H.2 (of_decide_eq_false c)
        refine mm_R.al (pc' := 78) (L' := [some ((.ref a0)), some (r1), some (r2), some (.int i3), some (.int i4), some (s0), o6, o7]) (r := []) (v := s0) 0 rfl rfl rfl rfl hc5.isr ?_
        refine mm_R.wgi (pc' := 80) (L' := [some ((.ref a0)), some (r1), some (r2), some (.int i3), some (.int i4), some (s0), o6, o7]) (r := []) 0 rfl rfl (H.mono (fun x8 H => ?_))
        refine mm_R.br (L' := [some ((.ref a0)), some (r1), some (r2), some (.int i3), some (.int i4), some (s0), o6, o7]) (st' := []) (t := 90) (u := 86) (b := mm_cc .ne x8 (0 : Int32)) 1 rfl (fun c => ?_) (fun c => ?_)
        · replace H := H.1 (of_decide_eq_true c)
          exact mm_R.pn (pc' := 91) (L' := [some ((.ref a0)), some (r1), some (r2), some (.int i3), some (.int i4), some (s0), o6, o7]) (st' := [.int (0 : Int32)]) 1 rfl H
        · replace H := H.2 (Decidable.of_not_not (of_decide_eq_false c))
          exact mm_R.pn (pc' := 91) (L' := [some ((.ref a0)), some (r1), some (r2), some (.int i3), some (.int i4), some (s0), o6, o7]) (st' := [.int (1 : Int32)]) 2 rfl H
-- StepRunner$Job.makeCommand, from 91
set_option maxRecDepth 10000 in
theorem w87_91 {X : List Int32} {d : Nat} {a0 : Nat} {r1 : Value} {r2 : Value} {i3 : Int32} {i4 : Int32} {r5 : Value} {o6 : Option Value} {o7 : Option Value} {s0 : Int32} {hp : mm_H} {Q : Option Value → mm_H → Prop} (H : mm_isr r1 = true ∧ mw_gv 6 3 r1 hp (fun v2 => mw_ai 1000 v2 i4 hp (fun x3 => (((4 : Int32) ≤ x3 → mm_R X (d + 1) 87 114 [some ((.ref a0)), some (r1), some (r2), some (.int i3), some (.int i4), some (r5), some (.int s0), o7] [.int (0 : Int32)] hp Q) ∧ (¬ (4 : Int32) ≤ x3 → ((¬ s0 = (0 : Int32) → mm_R X (d + 1) 87 114 [some ((.ref a0)), some (r1), some (r2), some (.int i3), some (.int i4), some (r5), some (.int s0), o7] [.int (0 : Int32)] hp Q) ∧ (s0 = (0 : Int32) → mm_R X (d + 1) 87 114 [some ((.ref a0)), some (r1), some (r2), some (.int i3), some (.int i4), some (r5), some (.int s0), o7] [.int (1 : Int32)] hp Q))))))) : mm_R X (d + 1) 87 91 [some ((.ref a0)), some (r1), some (r2), some (.int i3), some (.int i4), some (r5), o6, o7] [.int s0] hp Q := by
  obtain ⟨hr1, H⟩ := H
  refine mm_R.al (pc' := 93) (L' := [some ((.ref a0)), some (r1), some (r2), some (.int i3), some (.int i4), some (r5), some (.int s0), o7]) (r := []) (v := r1) 1 rfl rfl rfl rfl hr1 ?_
  refine mm_R.wgv (pc' := 94) (L' := [some ((.ref a0)), some (r1), some (r2), some (.int i3), some (.int i4), some (r5), some (.int s0), o7]) (r := []) 0 rfl rfl (H.mono (fun v2 H => ?_))
  refine mm_R.wai (pc' := 99) (L' := [some ((.ref a0)), some (r1), some (r2), some (.int i3), some (.int i4), some (r5), some (.int s0), o7]) (r := []) (t := 1000) 1 rfl rfl rfl rfl (H.mono (fun x3 H => ?_))
  refine mm_R.br (L' := [some ((.ref a0)), some (r1), some (r2), some (.int i3), some (.int i4), some (r5), some (.int s0), o7]) (st' := []) (t := 113) (u := 104) (b := mm_cc .ge x3 (4 : Int32)) 2 rfl (fun c => ?_) (fun c => ?_)
  · replace H := H.1 (of_decide_eq_true c)
    exact mm_R.pn (pc' := 114) (L' := [some ((.ref a0)), some (r1), some (r2), some (.int i3), some (.int i4), some (r5), some (.int s0), o7]) (st' := [.int (0 : Int32)]) 1 rfl H
  · replace H := H.2 (of_decide_eq_false c)
    refine mm_R.br (L' := [some ((.ref a0)), some (r1), some (r2), some (.int i3), some (.int i4), some (r5), some (.int s0), o7]) (st' := []) (t := 113) (u := 109) (b := mm_cc .ne s0 (0 : Int32)) 2 rfl (fun c => ?_) (fun c => ?_)
    · replace H := H.1 (of_decide_eq_true c)
      exact mm_R.pn (pc' := 114) (L' := [some ((.ref a0)), some (r1), some (r2), some (.int i3), some (.int i4), some (r5), some (.int s0), o7]) (st' := [.int (0 : Int32)]) 1 rfl H
    · replace H := H.2 (Decidable.of_not_not (of_decide_eq_false c))
      exact mm_R.pn (pc' := 114) (L' := [some ((.ref a0)), some (r1), some (r2), some (.int i3), some (.int i4), some (r5), some (.int s0), o7]) (st' := [.int (1 : Int32)]) 2 rfl H
-- StepRunner$Job.makeCommand, from 114
set_option maxRecDepth 10000 in
theorem w87_114 {X : List Int32} {d : Nat} {a0 : Nat} {r1 : Value} {r2 : Value} {i3 : Int32} {i4 : Int32} {r5 : Value} {i6 : Int32} {o7 : Option Value} {s0 : Int32} {hp : mm_H} {Q : Option Value → mm_H → Prop} (H : ((s0 = (0 : Int32) → mm_R X (d + 1) 87 12 [some ((.ref a0)), some (r1), some (r2), some (.int (i3 + (1 : Int32))), some (.int i4), some (r5), some (.int i6), some (.int s0)] [] hp Q) ∧ (¬ s0 = (0 : Int32) → mm_isr r1 = true ∧ mw_gv 6 2 r1 hp (fun v2 => mw_ai 1001 v2 i4 hp (fun x3 => mw_gv 6 3 r1 hp (fun v4 => mw_ai 1000 v4 i4 hp (fun x5 => mm_isr r5 = true ∧ mw_rc (.ref a0) 88 hp ∧ mm_R X d 88 0 (mm_L0 88 [(.ref a0), .int x3, .int x5, r5]) [] hp (mw_ri (fun x9 hp8 => ((¬ x9 = (0 : Int32) → mm_R X (d + 1) 87 12 [some ((.ref a0)), some (r1), some (r2), some (.int (i3 + (1 : Int32))), some (.int i4), some (r5), some (.int i6), some (.int s0)] [] hp8 Q) ∧ (x9 = (0 : Int32) → Q (some (.int (0 : Int32))) hp8))))))))))) : mm_R X (d + 1) 87 114 [some ((.ref a0)), some (r1), some (r2), some (.int i3), some (.int i4), some (r5), some (.int i6), o7] [.int s0] hp Q := by
  refine mm_R.br (L' := [some ((.ref a0)), some (r1), some (r2), some (.int i3), some (.int i4), some (r5), some (.int i6), some (.int s0)]) (st' := []) (t := 146) (u := 121) (b := mm_cc .eq s0 (0 : Int32)) 3 rfl (fun c => ?_) (fun c => ?_)
  · replace H := H.1 (of_decide_eq_true c)
    exact mm_R.pn (pc' := 12) (L' := [some ((.ref a0)), some (r1), some (r2), some (.int (i3 + (1 : Int32))), some (.int i4), some (r5), some (.int i6), some (.int s0)]) (st' := []) 2 rfl H
  · replace H := H.2 (of_decide_eq_false c)
    obtain ⟨hr1, H⟩ := H
    refine mm_R.al (pc' := 122) (L' := [some ((.ref a0)), some (r1), some (r2), some (.int i3), some (.int i4), some (r5), some (.int i6), some (.int s0)]) (r := [(.ref a0)]) (v := r1) 1 rfl rfl rfl rfl hr1 ?_
    refine mm_R.wgv (pc' := 123) (L' := [some ((.ref a0)), some (r1), some (r2), some (.int i3), some (.int i4), some (r5), some (.int i6), some (.int s0)]) (r := [(.ref a0)]) 0 rfl rfl (H.mono (fun v2 H => ?_))
    refine mm_R.wai (pc' := 128) (L' := [some ((.ref a0)), some (r1), some (r2), some (.int i3), some (.int i4), some (r5), some (.int i6), some (.int s0)]) (r := [(.ref a0)]) (t := 1001) 1 rfl rfl rfl rfl (H.mono (fun x3 H => ?_))
    refine mm_R.al (pc' := 129) (L' := [some ((.ref a0)), some (r1), some (r2), some (.int i3), some (.int i4), some (r5), some (.int i6), some (.int s0)]) (r := [.int x3, (.ref a0)]) (v := r1) 0 rfl rfl rfl rfl hr1 ?_
    refine mm_R.wgv (pc' := 130) (L' := [some ((.ref a0)), some (r1), some (r2), some (.int i3), some (.int i4), some (r5), some (.int i6), some (.int s0)]) (r := [.int x3, (.ref a0)]) 0 rfl rfl (H.mono (fun v4 H => ?_))
    refine mm_R.wai (pc' := 135) (L' := [some ((.ref a0)), some (r1), some (r2), some (.int i3), some (.int i4), some (r5), some (.int i6), some (.int s0)]) (r := [.int x3, (.ref a0)]) (t := 1000) 1 rfl rfl rfl rfl (H.mono (fun x5 H => ?_))
    obtain ⟨hr6, H⟩ := H
    refine mm_R.al (pc' := 136) (L' := [some ((.ref a0)), some (r1), some (r2), some (.int i3), some (.int i4), some (r5), some (.int i6), some (.int s0)]) (r := [.int x5, .int x3, (.ref a0)]) (v := r5) 0 rfl rfl rfl rfl hr6 ?_
    obtain ⟨hc7, H⟩ := H
    refine mm_R.cV (pc' := 138) (L' := [some ((.ref a0)), some (r1), some (r2), some (.int i3), some (.int i4), some (r5), some (.int i6), some (.int s0)]) (st1 := [r5, .int x5, .int x3, (.ref a0)]) (as := [.int x3, .int x5, r5]) (rest := []) 0 rfl rfl (mw_sp rfl rfl (Nat.le_of_ble_eq_true rfl) (mw_ac rfl (mw_ac rfl (mw_ac rfl (mw_ac (mw_c1 hr6) mw_an)))) mw_an) rfl rfl hc7 (H.mono (fun o hp8 H => ?_))
    obtain ⟨x9, rfl, H⟩ := H
    refine mm_R.br (L' := [some ((.ref a0)), some (r1), some (r2), some (.int i3), some (.int i4), some (r5), some (.int i6), some (.int s0)]) (st' := []) (t := 146) (u := 144) (b := mm_cc .ne x9 (0 : Int32)) 1 rfl (fun c => ?_) (fun c => ?_)
    · replace H := H.1 (of_decide_eq_true c)
      exact mm_R.pn (pc' := 12) (L' := [some ((.ref a0)), some (r1), some (r2), some (.int (i3 + (1 : Int32))), some (.int i4), some (r5), some (.int i6), some (.int s0)]) (st' := []) 2 rfl H
    · replace H := H.2 (Decidable.of_not_not (of_decide_eq_false c))
      exact mm_R.rt (pc' := 145) (L' := [some ((.ref a0)), some (r1), some (r2), some (.int i3), some (.int i4), some (r5), some (.int i6), some (.int s0)]) (st1 := [.int (0 : Int32)]) 1 rfl rfl rfl rfl rfl rfl H
-- StepRunner$Job.addPortWords, from 0
set_option maxRecDepth 10000 in
theorem w88_0 {X : List Int32} {d : Nat} {a0 : Nat} {i1 : Int32} {i2 : Int32} {r3 : Value} {hp : mm_H} {Q : Option Value → mm_H → Prop} (H : ((i1 = (0 : Int32) → mm_R X (d + 1) 88 30 [some ((.ref a0)), some (.int i1), some (.int i2), some (r3), none, none, none, none, none, none] [] hp Q) ∧ (¬ i1 = (0 : Int32) → mw_rc (.ref a0) 89 hp ∧ mm_R X d 89 0 (mm_L0 89 [(.ref a0)]) [] hp (mw_ri (fun x3 hp2 => ((x3 = (0 : Int32) → Q (some (.int (0 : Int32))) hp2) ∧ (¬ x3 = (0 : Int32) → mw_rc (.ref a0) 90 hp2 ∧ mm_R X d 90 0 (mm_L0 90 [(.ref a0), .int (45 : Int32)]) [] hp2 (mw_ri (fun x6 hp5 => ((x6 = (0 : Int32) → Q (some (.int (0 : Int32))) hp5) ∧ (¬ x6 = (0 : Int32) → mw_rc (.ref a0) 90 hp5 ∧ mm_R X d 90 0 (mm_L0 90 [(.ref a0), .int i1]) [] hp5 (mw_ri (fun x9 hp8 => ((¬ x9 = (0 : Int32) → mm_R X (d + 1) 88 30 [some ((.ref a0)), some (.int i1), some (.int i2), some (r3), none, none, none, none, none, none] [] hp8 Q) ∧ (x9 = (0 : Int32) → Q (some (.int (0 : Int32))) hp8))))))))))))))) : mm_R X (d + 1) 88 0 (mm_L0 88 [(.ref a0), .int i1, .int i2, r3]) [] hp Q := by
  show mm_R X (d + 1) 88 0 [some ((.ref a0)), some (.int i1), some (.int i2), some (r3), none, none, none, none, none, none] [] hp Q
  refine mm_R.br (L' := [some ((.ref a0)), some (.int i1), some (.int i2), some (r3), none, none, none, none, none, none]) (st' := []) (t := 30) (u := 4) (b := mm_cc .eq i1 (0 : Int32)) 2 rfl (fun c => ?_) (fun c => ?_)
  · replace H := H.1 (of_decide_eq_true c)
    exact H
  · replace H := H.2 (of_decide_eq_false c)
    obtain ⟨hc1, H⟩ := H
    refine mm_R.cV (pc' := 5) (L' := [some ((.ref a0)), some (.int i1), some (.int i2), some (r3), none, none, none, none, none, none]) (st1 := [(.ref a0)]) (as := []) (rest := []) 1 rfl rfl (mw_sp rfl rfl (Nat.le_of_ble_eq_true rfl) (mw_ac rfl mw_an) mw_an) rfl rfl hc1 (H.mono (fun o hp2 H => ?_))
    obtain ⟨x3, rfl, H⟩ := H
    refine mm_R.br (L' := [some ((.ref a0)), some (.int i1), some (.int i2), some (r3), none, none, none, none, none, none]) (st' := []) (t := 28) (u := 11) (b := mm_cc .eq x3 (0 : Int32)) 1 rfl (fun c => ?_) (fun c => ?_)
    · replace H := H.1 (of_decide_eq_true c)
      exact mm_R.rt (pc' := 29) (L' := [some ((.ref a0)), some (.int i1), some (.int i2), some (r3), none, none, none, none, none, none]) (st1 := [.int (0 : Int32)]) 1 rfl rfl rfl rfl rfl rfl H
    · replace H := H.2 (of_decide_eq_false c)
      obtain ⟨hc4, H⟩ := H
      refine mm_R.cV (pc' := 14) (L' := [some ((.ref a0)), some (.int i1), some (.int i2), some (r3), none, none, none, none, none, none]) (st1 := [.int (45 : Int32), (.ref a0)]) (as := [.int (45 : Int32)]) (rest := []) 2 rfl rfl (mw_sp rfl rfl (Nat.le_of_ble_eq_true rfl) (mw_ac rfl (mw_ac rfl mw_an)) mw_an) rfl rfl hc4 (H.mono (fun o hp5 H => ?_))
      obtain ⟨x6, rfl, H⟩ := H
      refine mm_R.br (L' := [some ((.ref a0)), some (.int i1), some (.int i2), some (r3), none, none, none, none, none, none]) (st' := []) (t := 28) (u := 20) (b := mm_cc .eq x6 (0 : Int32)) 1 rfl (fun c => ?_) (fun c => ?_)
      · replace H := H.1 (of_decide_eq_true c)
        exact mm_R.rt (pc' := 29) (L' := [some ((.ref a0)), some (.int i1), some (.int i2), some (r3), none, none, none, none, none, none]) (st1 := [.int (0 : Int32)]) 1 rfl rfl rfl rfl rfl rfl H
      · replace H := H.2 (of_decide_eq_false c)
        obtain ⟨hc7, H⟩ := H
        refine mm_R.cV (pc' := 22) (L' := [some ((.ref a0)), some (.int i1), some (.int i2), some (r3), none, none, none, none, none, none]) (st1 := [.int i1, (.ref a0)]) (as := [.int i1]) (rest := []) 2 rfl rfl (mw_sp rfl rfl (Nat.le_of_ble_eq_true rfl) (mw_ac rfl (mw_ac rfl mw_an)) mw_an) rfl rfl hc7 (H.mono (fun o hp8 H => ?_))
        obtain ⟨x9, rfl, H⟩ := H
        refine mm_R.br (L' := [some ((.ref a0)), some (.int i1), some (.int i2), some (r3), none, none, none, none, none, none]) (st' := []) (t := 30) (u := 28) (b := mm_cc .ne x9 (0 : Int32)) 1 rfl (fun c => ?_) (fun c => ?_)
        · replace H := H.1 (of_decide_eq_true c)
          exact H
        · replace H := H.2 (Decidable.of_not_not (of_decide_eq_false c))
          exact mm_R.rt (pc' := 29) (L' := [some ((.ref a0)), some (.int i1), some (.int i2), some (r3), none, none, none, none, none, none]) (st1 := [.int (0 : Int32)]) 1 rfl rfl rfl rfl rfl rfl H
-- StepRunner$Job.addPortWords, from 30
set_option maxRecDepth 10000 in
theorem w88_30 {X : List Int32} {d : Nat} {a0 : Nat} {i1 : Int32} {i2 : Int32} {r3 : Value} {o4 : Option Value} {o5 : Option Value} {o6 : Option Value} {o7 : Option Value} {o8 : Option Value} {o9 : Option Value} {hp : mm_H} {Q : Option Value → mm_H → Prop} (H : mm_isr r3 = true ∧ mw_rc r3 65 hp ∧ mm_R X d 65 0 (mm_L0 65 [r3]) [] hp (mw_ri (fun x4 hp3 => ((x4 = (0 : Int32) → mm_R X (d + 1) 88 47 [some ((.ref a0)), some (.int i1), some (.int i2), some (r3), o4, o5, o6, o7, o8, o9] [.int (0 : Int32)] hp3 Q) ∧ (¬ x4 = (0 : Int32) → ((i2 < (2 : Int32) → mm_R X (d + 1) 88 47 [some ((.ref a0)), some (.int i1), some (.int i2), some (r3), o4, o5, o6, o7, o8, o9] [.int (0 : Int32)] hp3 Q) ∧ (¬ i2 < (2 : Int32) → mm_R X (d + 1) 88 47 [some ((.ref a0)), some (.int i1), some (.int i2), some (r3), o4, o5, o6, o7, o8, o9] [.int (1 : Int32)] hp3 Q))))))) : mm_R X (d + 1) 88 30 [some ((.ref a0)), some (.int i1), some (.int i2), some (r3), o4, o5, o6, o7, o8, o9] [] hp Q := by
  obtain ⟨hr1, H⟩ := H
  refine mm_R.al (pc' := 30) (L' := [some ((.ref a0)), some (.int i1), some (.int i2), some (r3), o4, o5, o6, o7, o8, o9]) (r := []) (v := r3) 0 rfl rfl rfl rfl hr1 ?_
  obtain ⟨hc2, H⟩ := H
  refine mm_R.cV (pc' := 31) (L' := [some ((.ref a0)), some (.int i1), some (.int i2), some (r3), o4, o5, o6, o7, o8, o9]) (st1 := [r3]) (as := []) (rest := []) 0 rfl rfl (mw_sp rfl rfl (Nat.le_of_ble_eq_true rfl) (mw_ac (mw_c1 hc2.isr) mw_an) mw_an) rfl rfl hc2 (H.mono (fun o hp3 H => ?_))
  obtain ⟨x4, rfl, H⟩ := H
  refine mm_R.br (L' := [some ((.ref a0)), some (.int i1), some (.int i2), some (r3), o4, o5, o6, o7, o8, o9]) (st' := []) (t := 46) (u := 37) (b := mm_cc .eq x4 (0 : Int32)) 1 rfl (fun c => ?_) (fun c => ?_)
  · replace H := H.1 (of_decide_eq_true c)
    exact mm_R.pn (pc' := 47) (L' := [some ((.ref a0)), some (.int i1), some (.int i2), some (r3), o4, o5, o6, o7, o8, o9]) (st' := [.int (0 : Int32)]) 1 rfl H
  · replace H := H.2 (of_decide_eq_false c)
    refine mm_R.br (L' := [some ((.ref a0)), some (.int i1), some (.int i2), some (r3), o4, o5, o6, o7, o8, o9]) (st' := []) (t := 46) (u := 42) (b := mm_cc .lt i2 (2 : Int32)) 3 rfl (fun c => ?_) (fun c => ?_)
    · replace H := H.1 (of_decide_eq_true c)
      exact mm_R.pn (pc' := 47) (L' := [some ((.ref a0)), some (.int i1), some (.int i2), some (r3), o4, o5, o6, o7, o8, o9]) (st' := [.int (0 : Int32)]) 1 rfl H
    · replace H := H.2 (of_decide_eq_false c)
      exact mm_R.pn (pc' := 47) (L' := [some ((.ref a0)), some (.int i1), some (.int i2), some (r3), o4, o5, o6, o7, o8, o9]) (st' := [.int (1 : Int32)]) 2 rfl H
-- StepRunner$Job.addPortWords, from 47
set_option maxRecDepth 10000 in
theorem w88_47 {X : List Int32} {d : Nat} {a0 : Nat} {i1 : Int32} {i2 : Int32} {r3 : Value} {o4 : Option Value} {o5 : Option Value} {o6 : Option Value} {o7 : Option Value} {o8 : Option Value} {o9 : Option Value} {s0 : Int32} {hp : mm_H} {Q : Option Value → mm_H → Prop} (H : ((¬ i2 = (1 : Int32) → mm_R X (d + 1) 88 63 [some ((.ref a0)), some (.int i1), some (.int i2), some (r3), some (.int s0), o5, o6, o7, o8, o9] [.int (0 : Int32)] hp Q) ∧ (i2 = (1 : Int32) → ((i1 = (0 : Int32) → mm_R X (d + 1) 88 63 [some ((.ref a0)), some (.int i1), some (.int i2), some (r3), some (.int s0), o5, o6, o7, o8, o9] [.int (0 : Int32)] hp Q) ∧ (¬ i1 = (0 : Int32) → mm_R X (d + 1) 88 63 [some ((.ref a0)), some (.int i1), some (.int i2), some (r3), some (.int s0), o5, o6, o7, o8, o9] [.int (1 : Int32)] hp Q))))) : mm_R X (d + 1) 88 47 [some ((.ref a0)), some (.int i1), some (.int i2), some (r3), o4, o5, o6, o7, o8, o9] [.int s0] hp Q := by
  refine mm_R.br (L' := [some ((.ref a0)), some (.int i1), some (.int i2), some (r3), some (.int s0), o5, o6, o7, o8, o9]) (st' := []) (t := 62) (u := 54) (b := mm_cc .ne i2 (1 : Int32)) 4 rfl (fun c => ?_) (fun c => ?_)
  · replace H := H.1 (of_decide_eq_true c)
    exact mm_R.pn (pc' := 63) (L' := [some ((.ref a0)), some (.int i1), some (.int i2), some (r3), some (.int s0), o5, o6, o7, o8, o9]) (st' := [.int (0 : Int32)]) 1 rfl H
  · replace H := H.2 (Decidable.of_not_not (of_decide_eq_false c))
    refine mm_R.br (L' := [some ((.ref a0)), some (.int i1), some (.int i2), some (r3), some (.int s0), o5, o6, o7, o8, o9]) (st' := []) (t := 62) (u := 58) (b := mm_cc .eq i1 (0 : Int32)) 2 rfl (fun c => ?_) (fun c => ?_)
    · replace H := H.1 (of_decide_eq_true c)
      exact mm_R.pn (pc' := 63) (L' := [some ((.ref a0)), some (.int i1), some (.int i2), some (r3), some (.int s0), o5, o6, o7, o8, o9]) (st' := [.int (0 : Int32)]) 1 rfl H
    · replace H := H.2 (of_decide_eq_false c)
      exact mm_R.pn (pc' := 63) (L' := [some ((.ref a0)), some (.int i1), some (.int i2), some (r3), some (.int s0), o5, o6, o7, o8, o9]) (st' := [.int (1 : Int32)]) 2 rfl H
-- StepRunner$Job.addPortWords, from 63
set_option maxRecDepth 10000 in
theorem w88_63 {X : List Int32} {d : Nat} {a0 : Nat} {i1 : Int32} {i2 : Int32} {r3 : Value} {i4 : Int32} {o5 : Option Value} {o6 : Option Value} {o7 : Option Value} {o8 : Option Value} {o9 : Option Value} {s0 : Int32} {hp : mm_H} {Q : Option Value → mm_H → Prop} (H : ((i4 = (0 : Int32) → mm_R X (d + 1) 88 83 [some ((.ref a0)), some (.int i1), some (.int i2), some (r3), some (.int i4), some (.int s0), some (.int (1 : Int32)), some (.int (0 : Int32)), o8, o9] [] hp Q) ∧ (¬ i4 = (0 : Int32) → mm_isr r3 = true ∧ mw_gi 2 4 r3 hp (fun x2 => mm_R X (d + 1) 88 83 [some ((.ref a0)), some (.int i1), some (.int i2), some (r3), some (.int i4), some (.int s0), some (.int x2), some (.int (0 : Int32)), o8, o9] [] hp Q)))) : mm_R X (d + 1) 88 63 [some ((.ref a0)), some (.int i1), some (.int i2), some (r3), some (.int i4), o5, o6, o7, o8, o9] [.int s0] hp Q := by
  refine mm_R.br (L' := [some ((.ref a0)), some (.int i1), some (.int i2), some (r3), some (.int i4), some (.int s0), o6, o7, o8, o9]) (st' := []) (t := 77) (u := 70) (b := mm_cc .eq i4 (0 : Int32)) 3 rfl (fun c => ?_) (fun c => ?_)
  · replace H := H.1 (of_decide_eq_true c)
    exact mm_R.pn (pc' := 83) (L' := [some ((.ref a0)), some (.int i1), some (.int i2), some (r3), some (.int i4), some (.int s0), some (.int (1 : Int32)), some (.int (0 : Int32)), o8, o9]) (st' := []) 4 rfl H
  · replace H := H.2 (of_decide_eq_false c)
    obtain ⟨hr1, H⟩ := H
    refine mm_R.al (pc' := 70) (L' := [some ((.ref a0)), some (.int i1), some (.int i2), some (r3), some (.int i4), some (.int s0), o6, o7, o8, o9]) (r := []) (v := r3) 0 rfl rfl rfl rfl hr1 ?_
    refine mm_R.wgi (pc' := 71) (L' := [some ((.ref a0)), some (.int i1), some (.int i2), some (r3), some (.int i4), some (.int s0), o6, o7, o8, o9]) (r := []) 0 rfl rfl (H.mono (fun x2 H => ?_))
    exact mm_R.pn (pc' := 83) (L' := [some ((.ref a0)), some (.int i1), some (.int i2), some (r3), some (.int i4), some (.int s0), some (.int x2), some (.int (0 : Int32)), o8, o9]) (st' := []) 4 rfl H
-- StepRunner$Job.addPortWords, from 83
set_option maxRecDepth 10000 in
theorem w88_83 {X : List Int32} {d : Nat} {a0 : Nat} {i1 : Int32} {i2 : Int32} {r3 : Value} {i4 : Int32} {i5 : Int32} {i6 : Int32} {i7 : Int32} {o8 : Option Value} {o9 : Option Value} {hp : mm_H} {Q : Option Value → mm_H → Prop} (H : ((i6 ≤ i7 → Q (some (.int (1 : Int32))) hp) ∧ (¬ i6 ≤ i7 → ((¬ i7 = (0 : Int32) → ((¬ i2 = (2 : Int32) → (((0 : Int32) = (0 : Int32) → mm_R X (d + 1) 88 132 [some ((.ref a0)), some (.int i1), some (.int i2), some (r3), some (.int i4), some (.int i5), some (.int i6), some (.int i7), some (.int (0 : Int32)), o9] [] hp Q) ∧ (¬ (0 : Int32) = (0 : Int32) → mw_rc (.ref a0) 89 hp ∧ mm_R X d 89 0 (mm_L0 89 [(.ref a0)]) [] hp (mw_ri (fun x3 hp2 => ((x3 = (0 : Int32) → Q (some (.int (0 : Int32))) hp2) ∧ (¬ x3 = (0 : Int32) → mm_R X (d + 1) 88 132 [some ((.ref a0)), some (.int i1), some (.int i2), some (r3), some (.int i4), some (.int i5), some (.int i6), some (.int i7), some (.int (0 : Int32)), o9] [] hp2 Q))))))) ∧ (i2 = (2 : Int32) → (((1 : Int32) = (0 : Int32) → mm_R X (d + 1) 88 132 [some ((.ref a0)), some (.int i1), some (.int i2), some (r3), some (.int i4), some (.int i5), some (.int i6), some (.int i7), some (.int (1 : Int32)), o9] [] hp Q) ∧ (¬ (1 : Int32) = (0 : Int32) → mw_rc (.ref a0) 89 hp ∧ mm_R X d 89 0 (mm_L0 89 [(.ref a0)]) [] hp (mw_ri (fun x6 hp5 => ((x6 = (0 : Int32) → Q (some (.int (0 : Int32))) hp5) ∧ (¬ x6 = (0 : Int32) → mm_R X (d + 1) 88 132 [some ((.ref a0)), some (.int i1), some (.int i2), some (r3), some (.int i4), some (.int i5), some (.int i6), some (.int i7), some (.int (1 : Int32)), o9] [] hp5 Q))))))))) ∧ (i7 = (0 : Int32) → ((¬ i5 = (0 : Int32) → (((0 : Int32) = (0 : Int32) → mm_R X (d + 1) 88 132 [some ((.ref a0)), some (.int i1), some (.int i2), some (r3), some (.int i4), some (.int i5), some (.int i6), some (.int i7), some (.int (0 : Int32)), o9] [] hp Q) ∧ (¬ (0 : Int32) = (0 : Int32) → mw_rc (.ref a0) 89 hp ∧ mm_R X d 89 0 (mm_L0 89 [(.ref a0)]) [] hp (mw_ri (fun x9 hp8 => ((x9 = (0 : Int32) → Q (some (.int (0 : Int32))) hp8) ∧ (¬ x9 = (0 : Int32) → mm_R X (d + 1) 88 132 [some ((.ref a0)), some (.int i1), some (.int i2), some (r3), some (.int i4), some (.int i5), some (.int i6), some (.int i7), some (.int (0 : Int32)), o9] [] hp8 Q))))))) ∧ (i5 = (0 : Int32) → (((1 : Int32) = (0 : Int32) → mm_R X (d + 1) 88 132 [some ((.ref a0)), some (.int i1), some (.int i2), some (r3), some (.int i4), some (.int i5), some (.int i6), some (.int i7), some (.int (1 : Int32)), o9] [] hp Q) ∧ (¬ (1 : Int32) = (0 : Int32) → mw_rc (.ref a0) 89 hp ∧ mm_R X d 89 0 (mm_L0 89 [(.ref a0)]) [] hp (mw_ri (fun x12 hp11 => ((x12 = (0 : Int32) → Q (some (.int (0 : Int32))) hp11) ∧ (¬ x12 = (0 : Int32) → mm_R X (d + 1) 88 132 [some ((.ref a0)), some (.int i1), some (.int i2), some (r3), some (.int i4), some (.int i5), some (.int i6), some (.int i7), some (.int (1 : Int32)), o9] [] hp11 Q))))))))))))) : mm_R X (d + 1) 88 83 [some ((.ref a0)), some (.int i1), some (.int i2), some (r3), some (.int i4), some (.int i5), some (.int i6), some (.int i7), o8, o9] [] hp Q := by
  refine mm_R.br (L' := [some ((.ref a0)), some (.int i1), some (.int i2), some (r3), some (.int i4), some (.int i5), some (.int i6), some (.int i7), o8, o9]) (st' := []) (t := 192) (u := 90) (b := mm_cc .ge i7 i6) 3 rfl (fun c => ?_) (fun c => ?_)
  · replace H := H.1 (of_decide_eq_true c)
    exact mm_R.rt (pc' := 193) (L' := [some ((.ref a0)), some (.int i1), some (.int i2), some (r3), some (.int i4), some (.int i5), some (.int i6), some (.int i7), o8, o9]) (st1 := [.int (1 : Int32)]) 1 rfl rfl rfl rfl rfl rfl H
  · replace H := H.2 (of_decide_eq_false c)
    refine mm_R.br (L' := [some ((.ref a0)), some (.int i1), some (.int i2), some (r3), some (.int i4), some (.int i5), some (.int i6), some (.int i7), o8, o9]) (st' := []) (t := 108) (u := 95) (b := mm_cc .ne i7 (0 : Int32)) 2 rfl (fun c => ?_) (fun c => ?_)
    · replace H := H.1 (of_decide_eq_true c)
      refine mm_R.br (L' := [some ((.ref a0)), some (.int i1), some (.int i2), some (r3), some (.int i4), some (.int i5), some (.int i6), some (.int i7), o8, o9]) (st' := []) (t := 117) (u := 113) (b := mm_cc .ne i2 (2 : Int32)) 3 rfl (fun c => ?_) (fun c => ?_)
      · replace H := H.1 (of_decide_eq_true c)
        refine mm_R.br (L' := [some ((.ref a0)), some (.int i1), some (.int i2), some (r3), some (.int i4), some (.int i5), some (.int i6), some (.int i7), some (.int (0 : Int32)), o9]) (st' := []) (t := 132) (u := 125) (b := mm_cc .eq (0 : Int32) (0 : Int32)) 4 rfl (fun c => ?_) (fun c => ?_)
        · replace H := H.1 (of_decide_eq_true c)
          exact H
        · replace H := H.2 (of_decide_eq_false c)
          obtain ⟨hc1, H⟩ := H
          refine mm_R.cV (pc' := 126) (L' := [some ((.ref a0)), some (.int i1), some (.int i2), some (r3), some (.int i4), some (.int i5), some (.int i6), some (.int i7), some (.int (0 : Int32)), o9]) (st1 := [(.ref a0)]) (as := []) (rest := []) 1 rfl rfl (mw_sp rfl rfl (Nat.le_of_ble_eq_true rfl) (mw_ac rfl mw_an) mw_an) rfl rfl hc1 (H.mono (fun o hp2 H => ?_))
          obtain ⟨x3, rfl, H⟩ := H
          refine mm_R.br (L' := [some ((.ref a0)), some (.int i1), some (.int i2), some (r3), some (.int i4), some (.int i5), some (.int i6), some (.int i7), some (.int (0 : Int32)), o9]) (st' := []) (t := 151) (u := 132) (b := mm_cc .eq x3 (0 : Int32)) 1 rfl (fun c => ?_) (fun c => ?_)
          · replace H := H.1 (of_decide_eq_true c)
            exact mm_R.rt (pc' := 152) (L' := [some ((.ref a0)), some (.int i1), some (.int i2), some (r3), some (.int i4), some (.int i5), some (.int i6), some (.int i7), some (.int (0 : Int32)), o9]) (st1 := [.int (0 : Int32)]) 1 rfl rfl rfl rfl rfl rfl H
          · replace H := H.2 (of_decide_eq_false c)
            exact H
      · replace H := H.2 (Decidable.of_not_not (of_decide_eq_false c))
        refine mm_R.br (L' := [some ((.ref a0)), some (.int i1), some (.int i2), some (r3), some (.int i4), some (.int i5), some (.int i6), some (.int i7), some (.int (1 : Int32)), o9]) (st' := []) (t := 132) (u := 125) (b := mm_cc .eq (1 : Int32) (0 : Int32)) 5 rfl (fun c => ?_) (fun c => ?_)
        · replace H := H.1 (of_decide_eq_true c)
          exact H
        · replace H := H.2 (of_decide_eq_false c)
          obtain ⟨hc4, H⟩ := H
          refine mm_R.cV (pc' := 126) (L' := [some ((.ref a0)), some (.int i1), some (.int i2), some (r3), some (.int i4), some (.int i5), some (.int i6), some (.int i7), some (.int (1 : Int32)), o9]) (st1 := [(.ref a0)]) (as := []) (rest := []) 1 rfl rfl (mw_sp rfl rfl (Nat.le_of_ble_eq_true rfl) (mw_ac rfl mw_an) mw_an) rfl rfl hc4 (H.mono (fun o hp5 H => ?_))
          obtain ⟨x6, rfl, H⟩ := H
          refine mm_R.br (L' := [some ((.ref a0)), some (.int i1), some (.int i2), some (r3), some (.int i4), some (.int i5), some (.int i6), some (.int i7), some (.int (1 : Int32)), o9]) (st' := []) (t := 151) (u := 132) (b := mm_cc .eq x6 (0 : Int32)) 1 rfl (fun c => ?_) (fun c => ?_)
          · replace H := H.1 (of_decide_eq_true c)
            exact mm_R.rt (pc' := 152) (L' := [some ((.ref a0)), some (.int i1), some (.int i2), some (r3), some (.int i4), some (.int i5), some (.int i6), some (.int i7), some (.int (1 : Int32)), o9]) (st1 := [.int (0 : Int32)]) 1 rfl rfl rfl rfl rfl rfl H
          · replace H := H.2 (of_decide_eq_false c)
            exact H
    · replace H := H.2 (Decidable.of_not_not (of_decide_eq_false c))
      refine mm_R.br (L' := [some ((.ref a0)), some (.int i1), some (.int i2), some (r3), some (.int i4), some (.int i5), some (.int i6), some (.int i7), o8, o9]) (st' := []) (t := 104) (u := 100) (b := mm_cc .ne i5 (0 : Int32)) 2 rfl (fun c => ?_) (fun c => ?_)
      · replace H := H.1 (of_decide_eq_true c)
        refine mm_R.br (L' := [some ((.ref a0)), some (.int i1), some (.int i2), some (r3), some (.int i4), some (.int i5), some (.int i6), some (.int i7), some (.int (0 : Int32)), o9]) (st' := []) (t := 132) (u := 125) (b := mm_cc .eq (0 : Int32) (0 : Int32)) 5 rfl (fun c => ?_) (fun c => ?_)
        · replace H := H.1 (of_decide_eq_true c)
          exact H
        · replace H := H.2 (of_decide_eq_false c)
          obtain ⟨hc7, H⟩ := H
          refine mm_R.cV (pc' := 126) (L' := [some ((.ref a0)), some (.int i1), some (.int i2), some (r3), some (.int i4), some (.int i5), some (.int i6), some (.int i7), some (.int (0 : Int32)), o9]) (st1 := [(.ref a0)]) (as := []) (rest := []) 1 rfl rfl (mw_sp rfl rfl (Nat.le_of_ble_eq_true rfl) (mw_ac rfl mw_an) mw_an) rfl rfl hc7 (H.mono (fun o hp8 H => ?_))
          obtain ⟨x9, rfl, H⟩ := H
          refine mm_R.br (L' := [some ((.ref a0)), some (.int i1), some (.int i2), some (r3), some (.int i4), some (.int i5), some (.int i6), some (.int i7), some (.int (0 : Int32)), o9]) (st' := []) (t := 151) (u := 132) (b := mm_cc .eq x9 (0 : Int32)) 1 rfl (fun c => ?_) (fun c => ?_)
          · replace H := H.1 (of_decide_eq_true c)
            exact mm_R.rt (pc' := 152) (L' := [some ((.ref a0)), some (.int i1), some (.int i2), some (r3), some (.int i4), some (.int i5), some (.int i6), some (.int i7), some (.int (0 : Int32)), o9]) (st1 := [.int (0 : Int32)]) 1 rfl rfl rfl rfl rfl rfl H
          · replace H := H.2 (of_decide_eq_false c)
            exact H
      · replace H := H.2 (Decidable.of_not_not (of_decide_eq_false c))
        refine mm_R.br (L' := [some ((.ref a0)), some (.int i1), some (.int i2), some (r3), some (.int i4), some (.int i5), some (.int i6), some (.int i7), some (.int (1 : Int32)), o9]) (st' := []) (t := 132) (u := 125) (b := mm_cc .eq (1 : Int32) (0 : Int32)) 5 rfl (fun c => ?_) (fun c => ?_)
        · replace H := H.1 (of_decide_eq_true c)
          exact H
        · replace H := H.2 (of_decide_eq_false c)
          obtain ⟨hc10, H⟩ := H
          refine mm_R.cV (pc' := 126) (L' := [some ((.ref a0)), some (.int i1), some (.int i2), some (r3), some (.int i4), some (.int i5), some (.int i6), some (.int i7), some (.int (1 : Int32)), o9]) (st1 := [(.ref a0)]) (as := []) (rest := []) 1 rfl rfl (mw_sp rfl rfl (Nat.le_of_ble_eq_true rfl) (mw_ac rfl mw_an) mw_an) rfl rfl hc10 (H.mono (fun o hp11 H => ?_))
          obtain ⟨x12, rfl, H⟩ := H
          refine mm_R.br (L' := [some ((.ref a0)), some (.int i1), some (.int i2), some (r3), some (.int i4), some (.int i5), some (.int i6), some (.int i7), some (.int (1 : Int32)), o9]) (st' := []) (t := 151) (u := 132) (b := mm_cc .eq x12 (0 : Int32)) 1 rfl (fun c => ?_) (fun c => ?_)
          · replace H := H.1 (of_decide_eq_true c)
            exact mm_R.rt (pc' := 152) (L' := [some ((.ref a0)), some (.int i1), some (.int i2), some (r3), some (.int i4), some (.int i5), some (.int i6), some (.int i7), some (.int (1 : Int32)), o9]) (st1 := [.int (0 : Int32)]) 1 rfl rfl rfl rfl rfl rfl H
          · replace H := H.2 (of_decide_eq_false c)
            exact H
-- StepRunner$Job.addPortWords, from 132
set_option maxRecDepth 10000 in
theorem w88_132 {X : List Int32} {d : Nat} {a0 : Nat} {i1 : Int32} {i2 : Int32} {r3 : Value} {i4 : Int32} {i5 : Int32} {i6 : Int32} {i7 : Int32} {i8 : Int32} {o9 : Option Value} {hp : mm_H} {Q : Option Value → mm_H → Prop} (H : ((¬ i8 = (0 : Int32) → ((i4 = (0 : Int32) → mm_isr r3 = true ∧ mm_R X (d + 1) 88 168 [some ((.ref a0)), some (.int i1), some (.int i2), some (r3), some (.int i4), some (.int i5), some (.int i6), some (.int i7), some (.int i8), o9] [r3] hp Q) ∧ (¬ i4 = (0 : Int32) → mm_isr r3 = true ∧ mw_rc r3 67 hp ∧ mm_R X d 67 0 (mm_L0 67 [r3, .int i7]) [] hp (mw_rv (fun v5 hp4 => mm_R X (d + 1) 88 168 [some ((.ref a0)), some (.int i1), some (.int i2), some (r3), some (.int i4), some (.int i5), some (.int i6), some (.int i7), some (.int i8), o9] [v5] hp4 Q))))) ∧ (i8 = (0 : Int32) → ((i7 ≤ (0 : Int32) → ((i4 = (0 : Int32) → mm_isr r3 = true ∧ mm_R X (d + 1) 88 168 [some ((.ref a0)), some (.int i1), some (.int i2), some (r3), some (.int i4), some (.int i5), some (.int i6), some (.int i7), some (.int i8), o9] [r3] hp Q) ∧ (¬ i4 = (0 : Int32) → mm_isr r3 = true ∧ mw_rc r3 67 hp ∧ mm_R X d 67 0 (mm_L0 67 [r3, .int i7]) [] hp (mw_rv (fun v10 hp9 => mm_R X (d + 1) 88 168 [some ((.ref a0)), some (.int i1), some (.int i2), some (r3), some (.int i4), some (.int i5), some (.int i6), some (.int i7), some (.int i8), o9] [v10] hp9 Q))))) ∧ (¬ i7 ≤ (0 : Int32) → mw_rc (.ref a0) 90 hp ∧ mm_R X d 90 0 (mm_L0 90 [(.ref a0), .int (44 : Int32)]) [] hp (mw_ri (fun x13 hp12 => ((¬ x13 = (0 : Int32) → ((i4 = (0 : Int32) → mm_isr r3 = true ∧ mm_R X (d + 1) 88 168 [some ((.ref a0)), some (.int i1), some (.int i2), some (r3), some (.int i4), some (.int i5), some (.int i6), some (.int i7), some (.int i8), o9] [r3] hp12 Q) ∧ (¬ i4 = (0 : Int32) → mm_isr r3 = true ∧ mw_rc r3 67 hp12 ∧ mm_R X d 67 0 (mm_L0 67 [r3, .int i7]) [] hp12 (mw_rv (fun v18 hp17 => mm_R X (d + 1) 88 168 [some ((.ref a0)), some (.int i1), some (.int i2), some (r3), some (.int i4), some (.int i5), some (.int i6), some (.int i7), some (.int i8), o9] [v18] hp17 Q))))) ∧ (x13 = (0 : Int32) → Q (some (.int (0 : Int32))) hp12))))))))) : mm_R X (d + 1) 88 132 [some ((.ref a0)), some (.int i1), some (.int i2), some (r3), some (.int i4), some (.int i5), some (.int i6), some (.int i7), some (.int i8), o9] [] hp Q := by
  refine mm_R.br (L' := [some ((.ref a0)), some (.int i1), some (.int i2), some (r3), some (.int i4), some (.int i5), some (.int i6), some (.int i7), some (.int i8), o9]) (st' := []) (t := 153) (u := 137) (b := mm_cc .ne i8 (0 : Int32)) 2 rfl (fun c => ?_) (fun c => ?_)
  · replace H := H.1 (of_decide_eq_true c)
    refine mm_R.br (L' := [some ((.ref a0)), some (.int i1), some (.int i2), some (r3), some (.int i4), some (.int i5), some (.int i6), some (.int i7), some (.int i8), o9]) (st' := []) (t := 167) (u := 158) (b := mm_cc .eq i4 (0 : Int32)) 2 rfl (fun c => ?_) (fun c => ?_)
    · replace H := H.1 (of_decide_eq_true c)
      obtain ⟨hr1, H⟩ := H
      refine mm_R.al (pc' := 167) (L' := [some ((.ref a0)), some (.int i1), some (.int i2), some (r3), some (.int i4), some (.int i5), some (.int i6), some (.int i7), some (.int i8), o9]) (r := []) (v := r3) 0 rfl rfl rfl rfl hr1 ?_
      exact H
    · replace H := H.2 (of_decide_eq_false c)
      obtain ⟨hr2, H⟩ := H
      refine mm_R.al (pc' := 158) (L' := [some ((.ref a0)), some (.int i1), some (.int i2), some (r3), some (.int i4), some (.int i5), some (.int i6), some (.int i7), some (.int i8), o9]) (r := []) (v := r3) 0 rfl rfl rfl rfl hr2 ?_
      obtain ⟨hc3, H⟩ := H
      refine mm_R.cV (pc' := 161) (L' := [some ((.ref a0)), some (.int i1), some (.int i2), some (r3), some (.int i4), some (.int i5), some (.int i6), some (.int i7), some (.int i8), o9]) (st1 := [.int i7, r3]) (as := [.int i7]) (rest := []) 1 rfl rfl (mw_sp rfl rfl (Nat.le_of_ble_eq_true rfl) (mw_ac (mw_c1 hc3.isr) (mw_ac rfl mw_an)) mw_an) rfl rfl hc3 (H.mono (fun o hp4 H => ?_))
      obtain ⟨v5, rfl, H⟩ := H
      exact mm_R.pn (pc' := 168) (L' := [some ((.ref a0)), some (.int i1), some (.int i2), some (r3), some (.int i4), some (.int i5), some (.int i6), some (.int i7), some (.int i8), o9]) (st' := [v5]) 1 rfl H
  · replace H := H.2 (Decidable.of_not_not (of_decide_eq_false c))
    refine mm_R.br (L' := [some ((.ref a0)), some (.int i1), some (.int i2), some (r3), some (.int i4), some (.int i5), some (.int i6), some (.int i7), some (.int i8), o9]) (st' := []) (t := 153) (u := 142) (b := mm_cc .le i7 (0 : Int32)) 2 rfl (fun c => ?_) (fun c => ?_)
    · replace H := H.1 (of_decide_eq_true c)
      refine mm_R.br (L' := [some ((.ref a0)), some (.int i1), some (.int i2), some (r3), some (.int i4), some (.int i5), some (.int i6), some (.int i7), some (.int i8), o9]) (st' := []) (t := 167) (u := 158) (b := mm_cc .eq i4 (0 : Int32)) 2 rfl (fun c => ?_) (fun c => ?_)
      · replace H := H.1 (of_decide_eq_true c)
        obtain ⟨hr6, H⟩ := H
        refine mm_R.al (pc' := 167) (L' := [some ((.ref a0)), some (.int i1), some (.int i2), some (r3), some (.int i4), some (.int i5), some (.int i6), some (.int i7), some (.int i8), o9]) (r := []) (v := r3) 0 rfl rfl rfl rfl hr6 ?_
        exact H
      · replace H := H.2 (of_decide_eq_false c)
        obtain ⟨hr7, H⟩ := H
        refine mm_R.al (pc' := 158) (L' := [some ((.ref a0)), some (.int i1), some (.int i2), some (r3), some (.int i4), some (.int i5), some (.int i6), some (.int i7), some (.int i8), o9]) (r := []) (v := r3) 0 rfl rfl rfl rfl hr7 ?_
        obtain ⟨hc8, H⟩ := H
        refine mm_R.cV (pc' := 161) (L' := [some ((.ref a0)), some (.int i1), some (.int i2), some (r3), some (.int i4), some (.int i5), some (.int i6), some (.int i7), some (.int i8), o9]) (st1 := [.int i7, r3]) (as := [.int i7]) (rest := []) 1 rfl rfl (mw_sp rfl rfl (Nat.le_of_ble_eq_true rfl) (mw_ac (mw_c1 hc8.isr) (mw_ac rfl mw_an)) mw_an) rfl rfl hc8 (H.mono (fun o hp9 H => ?_))
        obtain ⟨v10, rfl, H⟩ := H
        exact mm_R.pn (pc' := 168) (L' := [some ((.ref a0)), some (.int i1), some (.int i2), some (r3), some (.int i4), some (.int i5), some (.int i6), some (.int i7), some (.int i8), o9]) (st' := [v10]) 1 rfl H
    · replace H := H.2 (of_decide_eq_false c)
      obtain ⟨hc11, H⟩ := H
      refine mm_R.cV (pc' := 145) (L' := [some ((.ref a0)), some (.int i1), some (.int i2), some (r3), some (.int i4), some (.int i5), some (.int i6), some (.int i7), some (.int i8), o9]) (st1 := [.int (44 : Int32), (.ref a0)]) (as := [.int (44 : Int32)]) (rest := []) 2 rfl rfl (mw_sp rfl rfl (Nat.le_of_ble_eq_true rfl) (mw_ac rfl (mw_ac rfl mw_an)) mw_an) rfl rfl hc11 (H.mono (fun o hp12 H => ?_))
      obtain ⟨x13, rfl, H⟩ := H
      refine mm_R.br (L' := [some ((.ref a0)), some (.int i1), some (.int i2), some (r3), some (.int i4), some (.int i5), some (.int i6), some (.int i7), some (.int i8), o9]) (st' := []) (t := 153) (u := 151) (b := mm_cc .ne x13 (0 : Int32)) 1 rfl (fun c => ?_) (fun c => ?_)
      · replace H := H.1 (of_decide_eq_true c)
        refine mm_R.br (L' := [some ((.ref a0)), some (.int i1), some (.int i2), some (r3), some (.int i4), some (.int i5), some (.int i6), some (.int i7), some (.int i8), o9]) (st' := []) (t := 167) (u := 158) (b := mm_cc .eq i4 (0 : Int32)) 2 rfl (fun c => ?_) (fun c => ?_)
        · replace H := H.1 (of_decide_eq_true c)
          obtain ⟨hr14, H⟩ := H
          refine mm_R.al (pc' := 167) (L' := [some ((.ref a0)), some (.int i1), some (.int i2), some (r3), some (.int i4), some (.int i5), some (.int i6), some (.int i7), some (.int i8), o9]) (r := []) (v := r3) 0 rfl rfl rfl rfl hr14 ?_
          exact H
        · replace H := H.2 (of_decide_eq_false c)
          obtain ⟨hr15, H⟩ := H
          refine mm_R.al (pc' := 158) (L' := [some ((.ref a0)), some (.int i1), some (.int i2), some (r3), some (.int i4), some (.int i5), some (.int i6), some (.int i7), some (.int i8), o9]) (r := []) (v := r3) 0 rfl rfl rfl rfl hr15 ?_
          obtain ⟨hc16, H⟩ := H
          refine mm_R.cV (pc' := 161) (L' := [some ((.ref a0)), some (.int i1), some (.int i2), some (r3), some (.int i4), some (.int i5), some (.int i6), some (.int i7), some (.int i8), o9]) (st1 := [.int i7, r3]) (as := [.int i7]) (rest := []) 1 rfl rfl (mw_sp rfl rfl (Nat.le_of_ble_eq_true rfl) (mw_ac (mw_c1 hc16.isr) (mw_ac rfl mw_an)) mw_an) rfl rfl hc16 (H.mono (fun o hp17 H => ?_))
          obtain ⟨v18, rfl, H⟩ := H
          exact mm_R.pn (pc' := 168) (L' := [some ((.ref a0)), some (.int i1), some (.int i2), some (r3), some (.int i4), some (.int i5), some (.int i6), some (.int i7), some (.int i8), o9]) (st' := [v18]) 1 rfl H
      · replace H := H.2 (Decidable.of_not_not (of_decide_eq_false c))
        exact mm_R.rt (pc' := 152) (L' := [some ((.ref a0)), some (.int i1), some (.int i2), some (r3), some (.int i4), some (.int i5), some (.int i6), some (.int i7), some (.int i8), o9]) (st1 := [.int (0 : Int32)]) 1 rfl rfl rfl rfl rfl rfl H
-- StepRunner$Job.addPortWords, from 168
set_option maxRecDepth 10000 in
theorem w88_168 {X : List Int32} {d : Nat} {a0 : Nat} {i1 : Int32} {i2 : Int32} {r3 : Value} {i4 : Int32} {i5 : Int32} {i6 : Int32} {i7 : Int32} {i8 : Int32} {o9 : Option Value} {s0 : Value} {hp : mm_H} {Q : Option Value → mm_H → Prop} (H : mm_isr s0 = true ∧ mw_nl s0 (Q (some (.int (0 : Int32))) hp) (mw_rc (.ref a0) 91 hp ∧ mm_R X d 91 0 (mm_L0 91 [(.ref a0), s0]) [] hp (mw_ri (fun x4 hp3 => ((¬ x4 = (0 : Int32) → mm_R X (d + 1) 88 83 [some ((.ref a0)), some (.int i1), some (.int i2), some (r3), some (.int i4), some (.int i5), some (.int i6), some (.int (i7 + (1 : Int32))), some (.int i8), some (s0)] [] hp3 Q) ∧ (x4 = (0 : Int32) → Q (some (.int (0 : Int32))) hp3)))))) : mm_R X (d + 1) 88 168 [some ((.ref a0)), some (.int i1), some (.int i2), some (r3), some (.int i4), some (.int i5), some (.int i6), some (.int i7), some (.int i8), o9] [s0] hp Q := by
  obtain ⟨hr1, H⟩ := H
  refine mm_R.as (pc' := 168) (L' := [some ((.ref a0)), some (.int i1), some (.int i2), some (r3), some (.int i4), some (.int i5), some (.int i6), some (.int i7), some (.int i8), o9]) (r := []) (v := s0) 0 rfl rfl rfl rfl hr1 ?_
  refine mm_R.al (pc' := 170) (L' := [some ((.ref a0)), some (.int i1), some (.int i2), some (r3), some (.int i4), some (.int i5), some (.int i6), some (.int i7), some (.int i8), some (s0)]) (r := []) (v := s0) 0 rfl rfl rfl rfl hr1 ?_
  refine mm_R.wnl (pc' := 172) (L' := [some ((.ref a0)), some (.int i1), some (.int i2), some (r3), some (.int i4), some (.int i5), some (.int i6), some (.int i7), some (.int i8), some (s0)]) (r := []) (v := s0) (t := 184) (u := 175) 0 rfl rfl rfl (H.mono (fun H => ?_) (fun H => ?_))
  · exact mm_R.rt (pc' := 185) (L' := [some ((.ref a0)), some (.int i1), some (.int i2), some (r3), some (.int i4), some (.int i5), some (.int i6), some (.int i7), some (.int i8), some (s0)]) (st1 := [.int (0 : Int32)]) 1 rfl rfl rfl rfl rfl rfl H
  · refine mm_R.al (pc' := 176) (L' := [some ((.ref a0)), some (.int i1), some (.int i2), some (r3), some (.int i4), some (.int i5), some (.int i6), some (.int i7), some (.int i8), some (s0)]) (r := [(.ref a0)]) (v := s0) 1 rfl rfl rfl rfl hr1 ?_
    obtain ⟨hc2, H⟩ := H
    refine mm_R.cV (pc' := 178) (L' := [some ((.ref a0)), some (.int i1), some (.int i2), some (r3), some (.int i4), some (.int i5), some (.int i6), some (.int i7), some (.int i8), some (s0)]) (st1 := [s0, (.ref a0)]) (as := [s0]) (rest := []) 0 rfl rfl (mw_sp rfl rfl (Nat.le_of_ble_eq_true rfl) (mw_ac rfl (mw_ac (mw_c1 hr1) mw_an)) mw_an) rfl rfl hc2 (H.mono (fun o hp3 H => ?_))
    obtain ⟨x4, rfl, H⟩ := H
    refine mm_R.br (L' := [some ((.ref a0)), some (.int i1), some (.int i2), some (r3), some (.int i4), some (.int i5), some (.int i6), some (.int i7), some (.int i8), some (s0)]) (st' := []) (t := 186) (u := 184) (b := mm_cc .ne x4 (0 : Int32)) 1 rfl (fun c => ?_) (fun c => ?_)
    · replace H := H.1 (of_decide_eq_true c)
      exact mm_R.pn (pc' := 83) (L' := [some ((.ref a0)), some (.int i1), some (.int i2), some (r3), some (.int i4), some (.int i5), some (.int i6), some (.int (i7 + (1 : Int32))), some (.int i8), some (s0)]) (st' := []) 2 rfl H
    · replace H := H.2 (Decidable.of_not_not (of_decide_eq_false c))
      exact mm_R.rt (pc' := 185) (L' := [some ((.ref a0)), some (.int i1), some (.int i2), some (r3), some (.int i4), some (.int i5), some (.int i6), some (.int i7), some (.int i8), some (s0)]) (st1 := [.int (0 : Int32)]) 1 rfl rfl rfl rfl rfl rfl H
