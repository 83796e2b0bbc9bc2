theorem w97_g {X : List Int32} {d : Nat} {a0 : Nat} {o1 : Option Value} {hp : mm_H} {Q : Option Value → mm_H → Prop} (H : mw_gi 5 8 (.ref a0) hp (fun x1 => mw_gi 5 6 (.ref a0) hp (fun x2 => ((x2 ≤ x1 → Q (some .null) hp) ∧ (¬ x2 ≤ x1 → mw_gi 5 8 (.ref a0) hp (fun x3 => (((16 : Int32) ≤ x3 → Q (some .null) hp) ∧ (¬ (16 : Int32) ≤ x3 → mw_gi 5 8 (.ref a0) hp (fun x4 => mw_gi 5 8 (.ref a0) hp (fun x5 => mw_pt 5 8 (.ref a0) (.int (x5 + (1 : Int32))) hp (fun hp6 => mw_gv 5 2 (.ref a0) hp6 (fun v7 => mw_av v7 x4 hp6 (fun v8 => mw_nl v8 (mw_gv 5 1 (.ref a0) hp6 (fun v9 => mw_av v9 x4 hp6 (fun v10 => mw_nr v10 ∧ Q (some v10) hp6))) (mm_R X (d + 1) 97 0 [some ((.ref a0)), some (.int x4)] [] hp6 Q)))))))))))))) : mm_R X (d + 1) 97 0 [some (.ref a0), o1] [] hp Q := by
  show mm_R X (d + 1) 97 0 [some ((.ref a0)), o1] [] hp Q
  refine mm_R.wgi (pc' := 1) (L' := [some ((.ref a0)), o1]) (r := []) 1 rfl rfl (H.mono (fun x1 H => ?_))
  refine mm_R.wgi (pc' := 5) (L' := [some ((.ref a0)), o1]) (r := [.int x1]) 1 rfl rfl (H.mono (fun x2 H => ?_))
  refine mm_R.br (L' := [some ((.ref a0)), o1]) (st' := []) (t := 54) (u := 11) (b := mm_cc .ge x1 x2) 1 rfl (fun c => ?_) (fun c => ?_)
  · replace H := H.1 (of_decide_eq_true c)
    exact mm_R.rt (pc' := 55) (L' := [some ((.ref a0)), o1]) (st1 := [.null]) 1 rfl rfl rfl rfl rfl rfl H
  · replace H := H.2 (of_decide_eq_false c)
    refine mm_R.wgi (pc' := 12) (L' := [some ((.ref a0)), o1]) (r := []) 1 rfl rfl (H.mono (fun x3 H => ?_))
    refine mm_R.br (L' := [some ((.ref a0)), o1]) (st' := []) (t := 54) (u := 20) (b := mm_cc .ge x3 (16 : Int32)) 2 rfl (fun c => ?_) (fun c => ?_)
    · replace H := H.1 (of_decide_eq_true c)
      exact mm_R.rt (pc' := 55) (L' := [some ((.ref a0)), o1]) (st1 := [.null]) 1 rfl rfl rfl rfl rfl rfl H
    · replace H := H.2 (of_decide_eq_false c)
      refine mm_R.wgi (pc' := 21) (L' := [some ((.ref a0)), o1]) (r := []) 1 rfl rfl (H.mono (fun x4 H => ?_))
      refine mm_R.wgi (pc' := 27) (L' := [some ((.ref a0)), some (.int x4)]) (r := [(.ref a0)]) 3 rfl rfl (H.mono (fun x5 H => ?_))
      refine mm_R.wpt (pc' := 32) (L' := [some ((.ref a0)), some (.int x4)]) (r := []) 2 rfl rfl (H.mono (fun hp6 H => ?_))
      refine mm_R.wgv (pc' := 36) (L' := [some ((.ref a0)), some (.int x4)]) (r := []) 1 rfl rfl (H.mono (fun v7 H => ?_))
      refine mm_R.wav (pc' := 40) (L' := [some ((.ref a0)), some (.int x4)]) (r := []) 1 rfl rfl (H.mono (fun v8 H => ?_))
      refine mm_R.wnl (pc' := 41) (L' := [some ((.ref a0)), some (.int x4)]) (r := []) (v := v8) (t := 44) (u := 51) 0 rfl rfl rfl (H.mono (fun H => ?_) (fun H => ?_))
      · refine mm_R.wgv (pc' := 45) (L' := [some ((.ref a0)), some (.int x4)]) (r := []) 1 rfl rfl (H.mono (fun v9 H => ?_))
        refine mm_R.wav (pc' := 49) (L' := [some ((.ref a0)), some (.int x4)]) (r := []) 1 rfl rfl (H.mono (fun v10 H => ?_))
        exact mm_R.rt (pc' := 50) (L' := [some ((.ref a0)), some (.int x4)]) (st1 := [v10]) 0 rfl rfl rfl rfl rfl (mw_rva (ty := (.object "StepRunner$Job")) H.1 rfl) H.2
      · exact mm_R.pn (pc' := 0) (L' := [some ((.ref a0)), some (.int x4)]) (st' := []) 1 rfl H
