-- StepRunnerModel.fail, from 0
set_option maxRecDepth 10000 in
theorem w173_0 {X : List Int32} {d : Nat} {a0 : Nat} {i1 : Int32} {hp : mm_H} {Q : Option Value → mm_H → Prop} (H : mw_pt 10 28 (.ref a0) (.int (1 : Int32)) hp (fun hp1 => mw_gv 10 29 (.ref a0) hp1 (fun v2 => mw_si 1000 .int v2 i1 (3 : Int32) hp1 (fun hp3 => mm_R X (d + 1) 173 17 [some ((.ref a0)), some (.int i1), some (.int ((16 : Int32) * i1))] [] hp3 Q)))) : mm_R X (d + 1) 173 0 (mm_L0 173 [(.ref a0), .int i1]) [] hp Q := by
  show mm_R X (d + 1) 173 0 [some ((.ref a0)), some (.int i1), none] [] hp Q
  refine mm_R.wpt (pc' := 2) (L' := [some ((.ref a0)), some (.int i1), none]) (r := []) 2 rfl rfl (H.mono (fun hp1 H => ?_))
  refine mm_R.wgv (pc' := 6) (L' := [some ((.ref a0)), some (.int i1), none]) (r := []) 1 rfl rfl (H.mono (fun v2 H => ?_))
  refine mm_R.wsi (pc' := 11) (L' := [some ((.ref a0)), some (.int i1), none]) (r := []) (t := 1000) (ty := .int) 2 rfl rfl rfl rfl (H.mono (fun hp3 H => ?_))
  exact mm_R.pn (pc' := 17) (L' := [some ((.ref a0)), some (.int i1), some (.int ((16 : Int32) * i1))]) (st' := []) 4 rfl H
-- StepRunnerModel.fail, from 17
set_option maxRecDepth 10000 in
theorem w173_17 {X : List Int32} {d : Nat} {a0 : Nat} {i1 : Int32} {i2 : Int32} {hp : mm_H} {Q : Option Value → mm_H → Prop} (H : (((((16 : Int32) * i1) + (16 : Int32)) ≤ i2 → Q none hp) ∧ (¬ (((16 : Int32) * i1) + (16 : Int32)) ≤ i2 → mw_gv 10 31 (.ref a0) hp (fun v1 => mw_gv 10 31 (.ref a0) hp (fun v2 => mw_ai 1000 v2 i2 hp (fun x3 => ((¬ x3 = (1 : Int32) → mw_gv 10 31 (.ref a0) hp (fun v4 => mw_ai 1000 v4 i2 hp (fun x5 => mw_si 1000 .int v1 i2 x5 hp (fun hp6 => mm_R X (d + 1) 173 17 [some ((.ref a0)), some (.int i1), some (.int (i2 + (1 : Int32)))] [] hp6 Q)))) ∧ (x3 = (1 : Int32) → mw_si 1000 .int v1 i2 (0 : Int32) hp (fun hp7 => mm_R X (d + 1) 173 17 [some ((.ref a0)), some (.int i1), some (.int (i2 + (1 : Int32)))] [] hp7 Q))))))))) : mm_R X (d + 1) 173 17 [some ((.ref a0)), some (.int i1), some (.int i2)] [] hp Q := by
  refine mm_R.br (L' := [some ((.ref a0)), some (.int i1), some (.int i2)]) (st' := []) (t := 60) (u := 28) (b := mm_cc .ge i2 (((16 : Int32) * i1) + (16 : Int32))) 7 rfl (fun c => ?_) (fun c => ?_)
  · replace H := H.1 (of_decide_eq_true c)
    exact mm_R.rt (pc' := 60) (L' := [some ((.ref a0)), some (.int i1), some (.int i2)]) (st1 := []) 0 rfl rfl rfl rfl rfl rfl H
  · replace H := H.2 (of_decide_eq_false c)
    refine mm_R.wgv (pc' := 29) (L' := [some ((.ref a0)), some (.int i1), some (.int i2)]) (r := []) 1 rfl rfl (H.mono (fun v1 H => ?_))
    refine mm_R.wgv (pc' := 34) (L' := [some ((.ref a0)), some (.int i1), some (.int i2)]) (r := [.int i2, v1]) 2 rfl rfl (H.mono (fun v2 H => ?_))
    refine mm_R.wai (pc' := 38) (L' := [some ((.ref a0)), some (.int i1), some (.int i2)]) (r := [.int i2, v1]) (t := 1000) 1 rfl rfl rfl rfl (H.mono (fun x3 H => ?_))
    refine mm_R.br (L' := [some ((.ref a0)), some (.int i1), some (.int i2)]) (st' := [.int i2, v1]) (t := 47) (u := 43) (b := mm_cc .ne x3 (1 : Int32)) 2 rfl (fun c => ?_) (fun c => ?_)
    · replace H := H.1 (of_decide_eq_true c)
      refine mm_R.wgv (pc' := 48) (L' := [some ((.ref a0)), some (.int i1), some (.int i2)]) (r := [.int i2, v1]) 1 rfl rfl (H.mono (fun v4 H => ?_))
      refine mm_R.wai (pc' := 52) (L' := [some ((.ref a0)), some (.int i1), some (.int i2)]) (r := [.int i2, v1]) (t := 1000) 1 rfl rfl rfl rfl (H.mono (fun x5 H => ?_))
      refine mm_R.wsi (pc' := 53) (L' := [some ((.ref a0)), some (.int i1), some (.int i2)]) (r := []) (t := 1000) (ty := .int) 0 rfl rfl rfl rfl (H.mono (fun hp6 H => ?_))
      exact mm_R.pn (pc' := 17) (L' := [some ((.ref a0)), some (.int i1), some (.int (i2 + (1 : Int32)))]) (st' := []) 2 rfl H
    · replace H := H.2 (Decidable.of_not_not (of_decide_eq_false c))
      refine mm_R.wsi (pc' := 53) (L' := [some ((.ref a0)), some (.int i1), some (.int i2)]) (r := []) (t := 1000) (ty := .int) 2 rfl rfl rfl rfl (H.mono (fun hp7 H => ?_))
      exact mm_R.pn (pc' := 17) (L' := [some ((.ref a0)), some (.int i1), some (.int (i2 + (1 : Int32)))]) (st' := []) 2 rfl H
-- StepRunnerModel.scattered, from 0
set_option maxRecDepth 10000 in
theorem w174_0 {X : List Int32} {d : Nat} {a0 : Nat} {i1 : Int32} {hp : mm_H} {Q : Option Value → mm_H → Prop} (H : mw_gv 10 14 (.ref a0) hp (fun v1 => mw_ai 1000 v1 i1 hp (fun x2 => mw_gv 10 8 (.ref a0) hp (fun v3 => mw_gv 10 13 (.ref a0) hp (fun v4 => mw_ai 1000 v4 i1 hp (fun x5 => mw_ai 1000 v3 x5 hp (fun x6 => Q (some (.int (x2 &&& (((1 : Int32) <<< (x6 &&& 31)) - (1 : Int32))))) hp))))))) : mm_R X (d + 1) 174 0 (mm_L0 174 [(.ref a0), .int i1]) [] hp Q := by
  show mm_R X (d + 1) 174 0 [some ((.ref a0)), some (.int i1)] [] hp Q
  refine mm_R.wgv (pc' := 1) (L' := [some ((.ref a0)), some (.int i1)]) (r := []) 1 rfl rfl (H.mono (fun v1 H => ?_))
  refine mm_R.wai (pc' := 5) (L' := [some ((.ref a0)), some (.int i1)]) (r := []) (t := 1000) 1 rfl rfl rfl rfl (H.mono (fun x2 H => ?_))
  refine mm_R.wgv (pc' := 8) (L' := [some ((.ref a0)), some (.int i1)]) (r := [.int (1 : Int32), .int x2]) 2 rfl rfl (H.mono (fun v3 H => ?_))
  refine mm_R.wgv (pc' := 12) (L' := [some ((.ref a0)), some (.int i1)]) (r := [v3, .int (1 : Int32), .int x2]) 1 rfl rfl (H.mono (fun v4 H => ?_))
  refine mm_R.wai (pc' := 16) (L' := [some ((.ref a0)), some (.int i1)]) (r := [v3, .int (1 : Int32), .int x2]) (t := 1000) 1 rfl rfl rfl rfl (H.mono (fun x5 H => ?_))
  refine mm_R.wai (pc' := 17) (L' := [some ((.ref a0)), some (.int i1)]) (r := [.int (1 : Int32), .int x2]) (t := 1000) 0 rfl rfl rfl rfl (H.mono (fun x6 H => ?_))
  exact mm_R.rt (pc' := 22) (L' := [some ((.ref a0)), some (.int i1)]) (st1 := [.int (x2 &&& (((1 : Int32) <<< (x6 &&& 31)) - (1 : Int32)))]) 4 rfl rfl rfl rfl rfl rfl H
-- StepRunnerModel.jobsOf, from 0
set_option maxRecDepth 10000 in
theorem w175_0 {X : List Int32} {d : Nat} {a0 : Nat} {i1 : Int32} {i2 : Int32} {hp : mm_H} {Q : Option Value → mm_H → Prop} (H : mm_R X (d + 1) 175 8 [some ((.ref a0)), some (.int i1), some (.int i2), some (.int (1 : Int32)), some (.int (-1 : Int32)), some (.int (0 : Int32)), none, none] [] hp Q) : mm_R X (d + 1) 175 0 (mm_L0 175 [(.ref a0), .int i1, .int i2]) [] hp Q := by
  show mm_R X (d + 1) 175 0 [some ((.ref a0)), some (.int i1), some (.int i2), none, none, none, none, none] [] hp Q
  exact mm_R.pn (pc' := 8) (L' := [some ((.ref a0)), some (.int i1), some (.int i2), some (.int (1 : Int32)), some (.int (-1 : Int32)), some (.int (0 : Int32)), none, none]) (st' := []) 6 rfl H
-- StepRunnerModel.jobsOf, from 8
set_option maxRecDepth 10000 in
theorem w175_8 {X : List Int32} {d : Nat} {a0 : Nat} {i1 : Int32} {i2 : Int32} {i3 : Int32} {i4 : Int32} {i5 : Int32} {o6 : Option Value} {o7 : Option Value} {hp : mm_H} {Q : Option Value → mm_H → Prop} (H : (((4 : Int32) ≤ i5 → ((i3 ≤ (16 : Int32) → Q (some (.int i3)) hp) ∧ (¬ i3 ≤ (16 : Int32) → Q (some (.int (-1 : Int32))) hp))) ∧ (¬ (4 : Int32) ≤ i5 → ((¬ ((i2 >>> (i5 &&& 31)) &&& (1 : Int32)) = (1 : Int32) → mm_R X (d + 1) 175 8 [some ((.ref a0)), some (.int i1), some (.int i2), some (.int i3), some (.int i4), some (.int (i5 + (1 : Int32))), o6, o7] [] hp Q) ∧ (((i2 >>> (i5 &&& 31)) &&& (1 : Int32)) = (1 : Int32) → mm_R X d 123 0 (mm_L0 123 [.int ((129 : Int32) + i5)]) [] hp (mw_ri (fun x2 hp1 => mw_rc (.ref a0) 144 hp1 ∧ mm_R X d 144 0 (mm_L0 144 [(.ref a0), .int x2]) [] hp1 (mw_ri (fun x5 hp4 => ((x5 = (3 : Int32) → mw_rc (.ref a0) 143 hp4 ∧ mm_R X d 143 0 (mm_L0 143 [(.ref a0), .int ((129 : Int32) + i5)]) [] hp4 (mw_ri (fun x8 hp7 => mw_rc (.ref a0) 146 hp7 ∧ mm_R X d 146 0 (mm_L0 146 [(.ref a0), .int x2, .int x8]) [] hp7 (mw_ri (fun x11 hp10 => mw_gv 10 15 (.ref a0) hp10 (fun v12 => mw_ai 1000 v12 i1 hp10 (fun x13 => ((¬ x13 = (0 : Int32) → mm_R X (d + 1) 175 88 [some ((.ref a0)), some (.int i1), some (.int i2), some (.int i3), some (.int i4), some (.int i5), some (.int x2), some (.int x11)] [] hp10 Q) ∧ (x13 = (0 : Int32) → ((i4 < (0 : Int32) → mm_R X (d + 1) 175 88 [some ((.ref a0)), some (.int i1), some (.int i2), some (.int i3), some (.int i4), some (.int i5), some (.int x2), some (.int x11)] [] hp10 Q) ∧ (¬ i4 < (0 : Int32) → ((x11 = i4 → mm_R X (d + 1) 175 88 [some ((.ref a0)), some (.int i1), some (.int i2), some (.int i3), some (.int i4), some (.int i5), some (.int x2), some (.int x11)] [] hp10 Q) ∧ (¬ x11 = i4 → Q (some (.int (-1 : Int32))) hp10))))))))))))) ∧ (¬ x5 = (3 : Int32) → Q (some (.int (-1 : Int32))) hp4))))))))))) : mm_R X (d + 1) 175 8 [some ((.ref a0)), some (.int i1), some (.int i2), some (.int i3), some (.int i4), some (.int i5), o6, o7] [] hp Q := by
  refine mm_R.br (L' := [some ((.ref a0)), some (.int i1), some (.int i2), some (.int i3), some (.int i4), some (.int i5), o6, o7]) (st' := []) (t := 117) (u := 14) (b := mm_cc .ge i5 (4 : Int32)) 3 rfl (fun c => ?_) (fun c => ?_)
  · replace H := H.1 (of_decide_eq_true c)
    refine mm_R.br (L' := [some ((.ref a0)), some (.int i1), some (.int i2), some (.int i3), some (.int i4), some (.int i5), o6, o7]) (st' := []) (t := 127) (u := 123) (b := mm_cc .le i3 (16 : Int32)) 3 rfl (fun c => ?_) (fun c => ?_)
    · replace H := H.1 (of_decide_eq_true c)
      exact mm_R.rt (pc' := 128) (L' := [some ((.ref a0)), some (.int i1), some (.int i2), some (.int i3), some (.int i4), some (.int i5), o6, o7]) (st1 := [.int i3]) 1 rfl rfl rfl rfl rfl rfl H
    · replace H := H.2 (of_decide_eq_false c)
      exact mm_R.rt (pc' := 128) (L' := [some ((.ref a0)), some (.int i1), some (.int i2), some (.int i3), some (.int i4), some (.int i5), o6, o7]) (st1 := [.int (-1 : Int32)]) 2 rfl rfl rfl rfl rfl rfl H
  · replace H := H.2 (of_decide_eq_false c)
    refine mm_R.br (L' := [some ((.ref a0)), some (.int i1), some (.int i2), some (.int i3), some (.int i4), some (.int i5), o6, o7]) (st' := []) (t := 111) (u := 24) (b := mm_cc .ne ((i2 >>> (i5 &&& 31)) &&& (1 : Int32)) (1 : Int32)) 7 rfl (fun c => ?_) (fun c => ?_)
    · replace H := H.1 (of_decide_eq_true c)
      exact mm_R.pn (pc' := 8) (L' := [some ((.ref a0)), some (.int i1), some (.int i2), some (.int i3), some (.int i4), some (.int (i5 + (1 : Int32))), o6, o7]) (st' := []) 2 rfl H
    · replace H := H.2 (Decidable.of_not_not (of_decide_eq_false c))
      refine mm_R.cS (pc' := 30) (L' := [some ((.ref a0)), some (.int i1), some (.int i2), some (.int i3), some (.int i4), some (.int i5), o6, o7]) (st1 := [.int ((129 : Int32) + i5)]) (as := [.int ((129 : Int32) + i5)]) (rest := []) 3 rfl rfl (mw_sp rfl rfl (Nat.le_of_ble_eq_true rfl) (mw_ac rfl mw_an) mw_an) rfl rfl (H.mono (fun o hp1 H => ?_))
      obtain ⟨x2, rfl, H⟩ := H
      obtain ⟨hc3, H⟩ := H
      refine mm_R.cV (pc' := 38) (L' := [some ((.ref a0)), some (.int i1), some (.int i2), some (.int i3), some (.int i4), some (.int i5), some (.int x2), o7]) (st1 := [.int x2, (.ref a0)]) (as := [.int x2]) (rest := []) 3 rfl rfl (mw_sp rfl rfl (Nat.le_of_ble_eq_true rfl) (mw_ac rfl (mw_ac rfl mw_an)) mw_an) rfl rfl hc3 (H.mono (fun o hp4 H => ?_))
      obtain ⟨x5, rfl, H⟩ := H
      refine mm_R.br (L' := [some ((.ref a0)), some (.int i1), some (.int i2), some (.int i3), some (.int i4), some (.int i5), some (.int x2), o7]) (st' := []) (t := 47) (u := 45) (b := mm_cc .eq x5 (3 : Int32)) 2 rfl (fun c => ?_) (fun c => ?_)
      · replace H := H.1 (of_decide_eq_true c)
        obtain ⟨hc6, H⟩ := H
        refine mm_R.cV (pc' := 57) (L' := [some ((.ref a0)), some (.int i1), some (.int i2), some (.int i3), some (.int i4), some (.int i5), some (.int x2), o7]) (st1 := [.int ((129 : Int32) + i5), (.ref a0), .int x2, (.ref a0)]) (as := [.int ((129 : Int32) + i5)]) (rest := [.int x2, (.ref a0)]) 6 rfl rfl (mw_sp rfl rfl (Nat.le_of_ble_eq_true rfl) (mw_ac rfl (mw_ac rfl mw_an)) (mw_ac rfl (mw_ac rfl mw_an))) rfl rfl hc6 (H.mono (fun o hp7 H => ?_))
        obtain ⟨x8, rfl, H⟩ := H
        obtain ⟨hc9, H⟩ := H
        refine mm_R.cV (pc' := 60) (L' := [some ((.ref a0)), some (.int i1), some (.int i2), some (.int i3), some (.int i4), some (.int i5), some (.int x2), o7]) (st1 := [.int x8, .int x2, (.ref a0)]) (as := [.int x2, .int x8]) (rest := []) 0 rfl rfl (mw_sp rfl rfl (Nat.le_of_ble_eq_true rfl) (mw_ac rfl (mw_ac rfl (mw_ac rfl mw_an))) mw_an) rfl rfl hc9 (H.mono (fun o hp10 H => ?_))
        obtain ⟨x11, rfl, H⟩ := H
        refine mm_R.wgv (pc' := 66) (L' := [some ((.ref a0)), some (.int i1), some (.int i2), some (.int i3), some (.int i4), some (.int i5), some (.int x2), some (.int x11)]) (r := []) 2 rfl rfl (H.mono (fun v12 H => ?_))
        refine mm_R.wai (pc' := 70) (L' := [some ((.ref a0)), some (.int i1), some (.int i2), some (.int i3), some (.int i4), some (.int i5), some (.int x2), some (.int x11)]) (r := []) (t := 1000) 1 rfl rfl rfl rfl (H.mono (fun x13 H => ?_))
        refine mm_R.br (L' := [some ((.ref a0)), some (.int i1), some (.int i2), some (.int i3), some (.int i4), some (.int i5), some (.int x2), some (.int x11)]) (st' := []) (t := 88) (u := 74) (b := mm_cc .ne x13 (0 : Int32)) 1 rfl (fun c => ?_) (fun c => ?_)
        · replace H := H.1 (of_decide_eq_true c)
          exact H
        · replace H := H.2 (Decidable.of_not_not (of_decide_eq_false c))
          refine mm_R.br (L' := [some ((.ref a0)), some (.int i1), some (.int i2), some (.int i3), some (.int i4), some (.int i5), some (.int x2), some (.int x11)]) (st' := []) (t := 88) (u := 79) (b := mm_cc .lt i4 (0 : Int32)) 2 rfl (fun c => ?_) (fun c => ?_)
          · replace H := H.1 (of_decide_eq_true c)
            exact H
          · replace H := H.2 (of_decide_eq_false c)
            refine mm_R.br (L' := [some ((.ref a0)), some (.int i1), some (.int i2), some (.int i3), some (.int i4), some (.int i5), some (.int x2), some (.int x11)]) (st' := []) (t := 88) (u := 86) (b := mm_cc .eq x11 i4) 3 rfl (fun c => ?_) (fun c => ?_)
            · replace H := H.1 (of_decide_eq_true c)
              exact H
            · replace H := H.2 (of_decide_eq_false c)
              exact mm_R.rt (pc' := 87) (L' := [some ((.ref a0)), some (.int i1), some (.int i2), some (.int i3), some (.int i4), some (.int i5), some (.int x2), some (.int x11)]) (st1 := [.int (-1 : Int32)]) 1 rfl rfl rfl rfl rfl rfl H
      · replace H := H.2 (of_decide_eq_false c)
        exact mm_R.rt (pc' := 46) (L' := [some ((.ref a0)), some (.int i1), some (.int i2), some (.int i3), some (.int i4), some (.int i5), some (.int x2), o7]) (st1 := [.int (-1 : Int32)]) 1 rfl rfl rfl rfl rfl rfl H
-- StepRunnerModel.jobsOf, from 88
set_option maxRecDepth 10000 in
theorem w175_88 {X : List Int32} {d : Nat} {a0 : Nat} {i1 : Int32} {i2 : Int32} {i3 : Int32} {i4 : Int32} {i5 : Int32} {i6 : Int32} {i7 : Int32} {hp : mm_H} {Q : Option Value → mm_H → Prop} (H : mw_gv 10 15 (.ref a0) hp (fun v1 => mw_ai 1000 v1 i1 hp (fun x2 => ((¬ x2 = (0 : Int32) → mm_R X (d + 1) 175 8 [some ((.ref a0)), some (.int i1), some (.int i2), some (.int (i3 * i7)), some (.int i7), some (.int (i5 + (1 : Int32))), some (.int i6), some (.int i7)] [] hp Q) ∧ (x2 = (0 : Int32) → mm_R X (d + 1) 175 8 [some ((.ref a0)), some (.int i1), some (.int i2), some (.int i7), some (.int i7), some (.int (i5 + (1 : Int32))), some (.int i6), some (.int i7)] [] hp Q))))) : mm_R X (d + 1) 175 88 [some ((.ref a0)), some (.int i1), some (.int i2), some (.int i3), some (.int i4), some (.int i5), some (.int i6), some (.int i7)] [] hp Q := by
  refine mm_R.wgv (pc' := 89) (L' := [some ((.ref a0)), some (.int i1), some (.int i2), some (.int i3), some (.int i4), some (.int i5), some (.int i6), some (.int i7)]) (r := []) 1 rfl rfl (H.mono (fun v1 H => ?_))
  refine mm_R.wai (pc' := 93) (L' := [some ((.ref a0)), some (.int i1), some (.int i2), some (.int i3), some (.int i4), some (.int i5), some (.int i6), some (.int i7)]) (r := []) (t := 1000) 1 rfl rfl rfl rfl (H.mono (fun x2 H => ?_))
  refine mm_R.br (L' := [some ((.ref a0)), some (.int i1), some (.int i2), some (.int i3), some (.int i4), some (.int i5), some (.int i6), some (.int i7)]) (st' := []) (t := 102) (u := 97) (b := mm_cc .ne x2 (0 : Int32)) 1 rfl (fun c => ?_) (fun c => ?_)
  · replace H := H.1 (of_decide_eq_true c)
    exact mm_R.pn (pc' := 8) (L' := [some ((.ref a0)), some (.int i1), some (.int i2), some (.int (i3 * i7)), some (.int i7), some (.int (i5 + (1 : Int32))), some (.int i6), some (.int i7)]) (st' := []) 8 rfl H
  · replace H := H.2 (Decidable.of_not_not (of_decide_eq_false c))
    exact mm_R.pn (pc' := 8) (L' := [some ((.ref a0)), some (.int i1), some (.int i2), some (.int i7), some (.int i7), some (.int (i5 + (1 : Int32))), some (.int i6), some (.int i7)]) (st' := []) 7 rfl H
-- StepRunnerModel.prepared, from 0
set_option maxRecDepth 10000 in
theorem w176_0 {X : List Int32} {d : Nat} {a0 : Nat} {i1 : Int32} {i2 : Int32} {i3 : Int32} {hp : mm_H} {Q : Option Value → mm_H → Prop} (H : mw_gv 10 8 (.ref a0) hp (fun v1 => mw_gv 10 13 (.ref a0) hp (fun v2 => mw_ai 1000 v2 i1 hp (fun x3 => mw_ai 1000 v1 x3 hp (fun x4 => mm_R X (d + 1) 176 16 [some ((.ref a0)), some (.int i1), some (.int i2), some (.int i3), some (.int x4), some (.int (0 : Int32)), none] [] hp Q))))) : mm_R X (d + 1) 176 0 (mm_L0 176 [(.ref a0), .int i1, .int i2, .int i3]) [] hp Q := by
  show mm_R X (d + 1) 176 0 [some ((.ref a0)), some (.int i1), some (.int i2), some (.int i3), none, none, none] [] hp Q
  refine mm_R.wgv (pc' := 1) (L' := [some ((.ref a0)), some (.int i1), some (.int i2), some (.int i3), none, none, none]) (r := []) 1 rfl rfl (H.mono (fun v1 H => ?_))
  refine mm_R.wgv (pc' := 5) (L' := [some ((.ref a0)), some (.int i1), some (.int i2), some (.int i3), none, none, none]) (r := [v1]) 1 rfl rfl (H.mono (fun v2 H => ?_))
  refine mm_R.wai (pc' := 9) (L' := [some ((.ref a0)), some (.int i1), some (.int i2), some (.int i3), none, none, none]) (r := [v1]) (t := 1000) 1 rfl rfl rfl rfl (H.mono (fun x3 H => ?_))
  refine mm_R.wai (pc' := 10) (L' := [some ((.ref a0)), some (.int i1), some (.int i2), some (.int i3), none, none, none]) (r := []) (t := 1000) 0 rfl rfl rfl rfl (H.mono (fun x4 H => ?_))
  exact mm_R.pn (pc' := 16) (L' := [some ((.ref a0)), some (.int i1), some (.int i2), some (.int i3), some (.int x4), some (.int (0 : Int32)), none]) (st' := []) 3 rfl H
-- StepRunnerModel.prepared, from 16
set_option maxRecDepth 10000 in
theorem w176_16 {X : List Int32} {d : Nat} {a0 : Nat} {i1 : Int32} {i2 : Int32} {i3 : Int32} {i4 : Int32} {i5 : Int32} {o6 : Option Value} {hp : mm_H} {Q : Option Value → mm_H → Prop} (H : (((4 : Int32) ≤ i5 → mm_R X (d + 1) 176 147 [some ((.ref a0)), some (.int i1), some (.int i2), some (.int i3), some (.int i4), some (.int (0 : Int32)), o6] [] hp Q) ∧ (¬ (4 : Int32) ≤ i5 → mw_rc (.ref a0) 121 hp ∧ mm_R X d 121 0 (mm_L0 121 [(.ref a0), .int ((133 : Int32) + i5)]) [] hp (mw_r0 (fun hp2 => mw_rc (.ref a0) 143 hp2 ∧ mm_R X d 143 0 (mm_L0 143 [(.ref a0), .int ((129 : Int32) + i5)]) [] hp2 (mw_ri (fun x5 hp4 => ((i5 < i4 → ((¬ ((i3 >>> (i5 &&& 31)) &&& (1 : Int32)) = (0 : Int32) → mm_R X d 123 0 (mm_L0 123 [.int ((129 : Int32) + i5)]) [] hp4 (mw_ri (fun x7 hp6 => mw_rc (.ref a0) 177 hp6 ∧ mm_R X d 177 0 (mm_L0 177 [(.ref a0), .int i1, .int i2, .int i3, .int i5]) [] hp6 (mw_ri (fun x10 hp9 => mw_rc (.ref a0) 178 hp9 ∧ mm_R X d 178 0 (mm_L0 178 [(.ref a0), .int x7, .int x5, .int x10]) [] hp9 (mw_ri (fun x13 hp12 => mw_rc (.ref a0) 150 hp12 ∧ mm_R X d 150 0 (mm_L0 150 [(.ref a0), .int x13, .int x5, .int ((133 : Int32) + i5), .int (0 : Int32)]) [] hp12 (mw_r0 (fun hp15 => mm_R X (d + 1) 176 16 [some ((.ref a0)), some (.int i1), some (.int i2), some (.int i3), some (.int i4), some (.int (i5 + (1 : Int32))), some (.int x5)] [] hp15 Q))))))))) ∧ (((i3 >>> (i5 &&& 31)) &&& (1 : Int32)) = (0 : Int32) → mm_R X d 123 0 (mm_L0 123 [.int ((129 : Int32) + i5)]) [] hp4 (mw_ri (fun x17 hp16 => mw_rc (.ref a0) 150 hp16 ∧ mm_R X d 150 0 (mm_L0 150 [(.ref a0), .int x17, .int x5, .int ((133 : Int32) + i5), .int (0 : Int32)]) [] hp16 (mw_r0 (fun hp19 => mm_R X (d + 1) 176 16 [some ((.ref a0)), some (.int i1), some (.int i2), some (.int i3), some (.int i4), some (.int (i5 + (1 : Int32))), some (.int x5)] [] hp19 Q))))))) ∧ (¬ i5 < i4 → mw_rc (.ref a0) 122 hp4 ∧ mm_R X d 122 0 (mm_L0 122 [(.ref a0), .int ((133 : Int32) + i5), .int (0 : Int32), .int (0 : Int32), .int (0 : Int32)]) [] hp4 (mw_r0 (fun hp21 => mm_R X (d + 1) 176 16 [some ((.ref a0)), some (.int i1), some (.int i2), some (.int i3), some (.int i4), some (.int (i5 + (1 : Int32))), some (.int x5)] [] hp21 Q))))))))))) : mm_R X (d + 1) 176 16 [some ((.ref a0)), some (.int i1), some (.int i2), some (.int i3), some (.int i4), some (.int i5), o6] [] hp Q := by
  refine mm_R.br (L' := [some ((.ref a0)), some (.int i1), some (.int i2), some (.int i3), some (.int i4), some (.int i5), o6]) (st' := []) (t := 144) (u := 22) (b := mm_cc .ge i5 (4 : Int32)) 3 rfl (fun c => ?_) (fun c => ?_)
  · replace H := H.1 (of_decide_eq_true c)
    exact mm_R.pn (pc' := 147) (L' := [some ((.ref a0)), some (.int i1), some (.int i2), some (.int i3), some (.int i4), some (.int (0 : Int32)), o6]) (st' := []) 2 rfl H
  · replace H := H.2 (of_decide_eq_false c)
    obtain ⟨hc1, H⟩ := H
    refine mm_R.cV (pc' := 29) (L' := [some ((.ref a0)), some (.int i1), some (.int i2), some (.int i3), some (.int i4), some (.int i5), o6]) (st1 := [.int ((133 : Int32) + i5), (.ref a0)]) (as := [.int ((133 : Int32) + i5)]) (rest := []) 4 rfl rfl (mw_sp rfl rfl (Nat.le_of_ble_eq_true rfl) (mw_ac rfl (mw_ac rfl mw_an)) mw_an) rfl rfl hc1 (H.mono (fun o hp2 H => ?_))
    obtain ⟨rfl, H⟩ := H
    obtain ⟨hc3, H⟩ := H
    refine mm_R.cV (pc' := 39) (L' := [some ((.ref a0)), some (.int i1), some (.int i2), some (.int i3), some (.int i4), some (.int i5), o6]) (st1 := [.int ((129 : Int32) + i5), (.ref a0)]) (as := [.int ((129 : Int32) + i5)]) (rest := []) 4 rfl rfl (mw_sp rfl rfl (Nat.le_of_ble_eq_true rfl) (mw_ac rfl (mw_ac rfl mw_an)) mw_an) rfl rfl hc3 (H.mono (fun o hp4 H => ?_))
    obtain ⟨x5, rfl, H⟩ := H
    refine mm_R.br (L' := [some ((.ref a0)), some (.int i1), some (.int i2), some (.int i3), some (.int i4), some (.int i5), some (.int x5)]) (st' := []) (t := 67) (u := 51) (b := mm_cc .lt i5 i4) 4 rfl (fun c => ?_) (fun c => ?_)
    · replace H := H.1 (of_decide_eq_true c)
      refine mm_R.br (L' := [some ((.ref a0)), some (.int i1), some (.int i2), some (.int i3), some (.int i4), some (.int i5), some (.int x5)]) (st' := []) (t := 101) (u := 76) (b := mm_cc .ne ((i3 >>> (i5 &&& 31)) &&& (1 : Int32)) (0 : Int32)) 6 rfl (fun c => ?_) (fun c => ?_)
      · replace H := H.1 (of_decide_eq_true c)
        refine mm_R.cS (pc' := 109) (L' := [some ((.ref a0)), some (.int i1), some (.int i2), some (.int i3), some (.int i4), some (.int i5), some (.int x5)]) (st1 := [.int ((129 : Int32) + i5), (.ref a0), (.ref a0)]) (as := [.int ((129 : Int32) + i5)]) (rest := [(.ref a0), (.ref a0)]) 5 rfl rfl (mw_sp rfl rfl (Nat.le_of_ble_eq_true rfl) (mw_ac rfl mw_an) (mw_ac rfl (mw_ac rfl mw_an))) rfl rfl (H.mono (fun o hp6 H => ?_))
        obtain ⟨x7, rfl, H⟩ := H
        obtain ⟨hc8, H⟩ := H
        refine mm_R.cV (pc' := 120) (L' := [some ((.ref a0)), some (.int i1), some (.int i2), some (.int i3), some (.int i4), some (.int i5), some (.int x5)]) (st1 := [.int i5, .int i3, .int i2, .int i1, (.ref a0), .int x5, .int x7, (.ref a0), (.ref a0)]) (as := [.int i1, .int i2, .int i3, .int i5]) (rest := [.int x5, .int x7, (.ref a0), (.ref a0)]) 6 rfl rfl (mw_sp rfl rfl (Nat.le_of_ble_eq_true rfl) (mw_ac rfl (mw_ac rfl (mw_ac rfl (mw_ac rfl (mw_ac rfl mw_an))))) (mw_ac rfl (mw_ac rfl (mw_ac rfl (mw_ac rfl mw_an))))) rfl rfl hc8 (H.mono (fun o hp9 H => ?_))
        obtain ⟨x10, rfl, H⟩ := H
        obtain ⟨hc11, H⟩ := H
        refine mm_R.cV (pc' := 123) (L' := [some ((.ref a0)), some (.int i1), some (.int i2), some (.int i3), some (.int i4), some (.int i5), some (.int x5)]) (st1 := [.int x10, .int x5, .int x7, (.ref a0), (.ref a0)]) (as := [.int x7, .int x5, .int x10]) (rest := [(.ref a0)]) 0 rfl rfl (mw_sp rfl rfl (Nat.le_of_ble_eq_true rfl) (mw_ac rfl (mw_ac rfl (mw_ac rfl (mw_ac rfl mw_an)))) (mw_ac rfl mw_an)) rfl rfl hc11 (H.mono (fun o hp12 H => ?_))
        obtain ⟨x13, rfl, H⟩ := H
        obtain ⟨hc14, H⟩ := H
        refine mm_R.cV (pc' := 135) (L' := [some ((.ref a0)), some (.int i1), some (.int i2), some (.int i3), some (.int i4), some (.int i5), some (.int x5)]) (st1 := [.int (0 : Int32), .int ((133 : Int32) + i5), .int x5, .int x13, (.ref a0)]) (as := [.int x13, .int x5, .int ((133 : Int32) + i5), .int (0 : Int32)]) (rest := []) 5 rfl rfl (mw_sp rfl rfl (Nat.le_of_ble_eq_true rfl) (mw_ac rfl (mw_ac rfl (mw_ac rfl (mw_ac rfl (mw_ac rfl mw_an))))) mw_an) rfl rfl hc14 (H.mono (fun o hp15 H => ?_))
        obtain ⟨rfl, H⟩ := H
        exact mm_R.pn (pc' := 16) (L' := [some ((.ref a0)), some (.int i1), some (.int i2), some (.int i3), some (.int i4), some (.int (i5 + (1 : Int32))), some (.int x5)]) (st' := []) 2 rfl H
      · replace H := H.2 (Decidable.of_not_not (of_decide_eq_false c))
        refine mm_R.cS (pc' := 83) (L' := [some ((.ref a0)), some (.int i1), some (.int i2), some (.int i3), some (.int i4), some (.int i5), some (.int x5)]) (st1 := [.int ((129 : Int32) + i5), (.ref a0)]) (as := [.int ((129 : Int32) + i5)]) (rest := [(.ref a0)]) 4 rfl rfl (mw_sp rfl rfl (Nat.le_of_ble_eq_true rfl) (mw_ac rfl mw_an) (mw_ac rfl mw_an)) rfl rfl (H.mono (fun o hp16 H => ?_))
        obtain ⟨x17, rfl, H⟩ := H
        obtain ⟨hc18, H⟩ := H
        refine mm_R.cV (pc' := 95) (L' := [some ((.ref a0)), some (.int i1), some (.int i2), some (.int i3), some (.int i4), some (.int i5), some (.int x5)]) (st1 := [.int (0 : Int32), .int ((133 : Int32) + i5), .int x5, .int x17, (.ref a0)]) (as := [.int x17, .int x5, .int ((133 : Int32) + i5), .int (0 : Int32)]) (rest := []) 5 rfl rfl (mw_sp rfl rfl (Nat.le_of_ble_eq_true rfl) (mw_ac rfl (mw_ac rfl (mw_ac rfl (mw_ac rfl (mw_ac rfl mw_an))))) mw_an) rfl rfl hc18 (H.mono (fun o hp19 H => ?_))
        obtain ⟨rfl, H⟩ := H
        exact mm_R.pn (pc' := 16) (L' := [some ((.ref a0)), some (.int i1), some (.int i2), some (.int i3), some (.int i4), some (.int (i5 + (1 : Int32))), some (.int x5)]) (st' := []) 3 rfl H
    · replace H := H.2 (of_decide_eq_false c)
      obtain ⟨hc20, H⟩ := H
      refine mm_R.cV (pc' := 61) (L' := [some ((.ref a0)), some (.int i1), some (.int i2), some (.int i3), some (.int i4), some (.int i5), some (.int x5)]) (st1 := [.int (0 : Int32), .int (0 : Int32), .int (0 : Int32), .int ((133 : Int32) + i5), (.ref a0)]) (as := [.int ((133 : Int32) + i5), .int (0 : Int32), .int (0 : Int32), .int (0 : Int32)]) (rest := []) 7 rfl rfl (mw_sp rfl rfl (Nat.le_of_ble_eq_true rfl) (mw_ac rfl (mw_ac rfl (mw_ac rfl (mw_ac rfl (mw_ac rfl mw_an))))) mw_an) rfl rfl hc20 (H.mono (fun o hp21 H => ?_))
      obtain ⟨rfl, H⟩ := H
      exact mm_R.pn (pc' := 16) (L' := [some ((.ref a0)), some (.int i1), some (.int i2), some (.int i3), some (.int i4), some (.int (i5 + (1 : Int32))), some (.int x5)]) (st' := []) 3 rfl H
-- StepRunnerModel.prepared, from 147
set_option maxRecDepth 10000 in
theorem w176_147 {X : List Int32} {d : Nat} {a0 : Nat} {i1 : Int32} {i2 : Int32} {i3 : Int32} {i4 : Int32} {i5 : Int32} {o6 : Option Value} {hp : mm_H} {Q : Option Value → mm_H → Prop} (H : (((4 : Int32) ≤ i5 → mw_gv 10 22 (.ref a0) hp (fun v1 => mw_ai 1000 v1 ((24 : Int32) + i1) hp (fun x2 => ((x2 < (0 : Int32) → mw_gv 10 31 (.ref a0) hp (fun v3 => mw_si 1000 .int v3 (((16 : Int32) * i1) + i2) (1 : Int32) hp (fun hp4 => mw_rc (.ref a0) 189 hp4 ∧ mm_R X d 189 0 (mm_L0 189 [(.ref a0), .int i1, .int (((16 : Int32) * i1) + i2)]) [] hp4 (mw_ri (fun x7 hp6 => mm_fv .boolean (.int x7) = true ∧ Q (some (.int x7)) hp6))))) ∧ (¬ x2 < (0 : Int32) → mw_pt 10 39 (.ref a0) (.int ((600 : Int32) + ((192 : Int32) * (((16 : Int32) * i1) + i2)))) hp (fun hp8 => mw_rc (.ref a0) 179 hp8 ∧ mm_R X d 179 0 (mm_L0 179 [(.ref a0), .int ((24 : Int32) + i1), .int (137 : Int32), .int (-1 : Int32), .int (141 : Int32)]) [] hp8 (mw_ri (fun x11 hp10 => ((¬ x11 = (0 : Int32) → mm_R X d 123 0 (mm_L0 123 [.int (141 : Int32)]) [] hp10 (mw_ri (fun x13 hp12 => mw_rc (.ref a0) 144 hp12 ∧ mm_R X d 144 0 (mm_L0 144 [(.ref a0), .int x13]) [] hp12 (mw_ri (fun x16 hp15 => ((x16 = (0 : Int32) → mw_rc (.ref a0) 120 hp15 ∧ mm_R X d 120 0 (mm_L0 120 [(.ref a0), .int ((27 : Int32) + (((16 : Int32) * i1) + i2))]) [] hp15 (mw_r0 (fun hp18 => mw_gv 10 31 (.ref a0) hp18 (fun v19 => mw_si 1000 .int v19 (((16 : Int32) * i1) + i2) (3 : Int32) hp18 (fun hp20 => Q (some (.int (1 : Int32))) hp20))))) ∧ (¬ x16 = (0 : Int32) → mw_rc (.ref a0) 144 hp15 ∧ mm_R X d 144 0 (mm_L0 144 [(.ref a0), .int x13]) [] hp15 (mw_ri (fun x23 hp22 => ((¬ x23 = (1 : Int32) → mw_gv 10 31 (.ref a0) hp22 (fun v24 => mw_si 1000 .int v24 (((16 : Int32) * i1) + i2) (1 : Int32) hp22 (fun hp25 => mw_rc (.ref a0) 189 hp25 ∧ mm_R X d 189 0 (mm_L0 189 [(.ref a0), .int i1, .int (((16 : Int32) * i1) + i2)]) [] hp25 (mw_ri (fun x28 hp27 => mm_fv .boolean (.int x28) = true ∧ Q (some (.int x28)) hp27))))) ∧ (x23 = (1 : Int32) → mw_rc (.ref a0) 151 hp22 ∧ mm_R X d 151 0 (mm_L0 151 [(.ref a0), .int x13]) [] hp22 (mw_ri (fun x31 hp30 => ((¬ x31 = (0 : Int32) → mw_gv 10 31 (.ref a0) hp30 (fun v32 => mw_si 1000 .int v32 (((16 : Int32) * i1) + i2) (1 : Int32) hp30 (fun hp33 => mw_rc (.ref a0) 189 hp33 ∧ mm_R X d 189 0 (mm_L0 189 [(.ref a0), .int i1, .int (((16 : Int32) * i1) + i2)]) [] hp33 (mw_ri (fun x36 hp35 => mm_fv .boolean (.int x36) = true ∧ Q (some (.int x36)) hp35))))) ∧ (x31 = (0 : Int32) → mw_rc (.ref a0) 120 hp30 ∧ mm_R X d 120 0 (mm_L0 120 [(.ref a0), .int ((27 : Int32) + (((16 : Int32) * i1) + i2))]) [] hp30 (mw_r0 (fun hp38 => mw_gv 10 31 (.ref a0) hp38 (fun v39 => mw_si 1000 .int v39 (((16 : Int32) * i1) + i2) (3 : Int32) hp38 (fun hp40 => Q (some (.int (1 : Int32))) hp40))))))))))))))))))) ∧ (x11 = (0 : Int32) → Q (some (.int (0 : Int32))) hp10)))))))))) ∧ (¬ (4 : Int32) ≤ i5 → mw_pt 10 39 (.ref a0) (.int ((19032 : Int32) + ((24 : Int32) * i5))) hp (fun hp41 => ((i4 ≤ i5 → mw_rc (.ref a0) 149 hp41 ∧ mm_R X d 149 0 (mm_L0 149 [(.ref a0), .int ((133 : Int32) + i5), .int ((137 : Int32) + i5)]) [] hp41 (mw_r0 (fun hp43 => mm_R X (d + 1) 176 147 [some ((.ref a0)), some (.int i1), some (.int i2), some (.int i3), some (.int i4), some (.int (i5 + (1 : Int32))), o6] [] hp43 Q))) ∧ (¬ i4 ≤ i5 → mw_gv 10 22 (.ref a0) hp41 (fun v44 => mw_ai 1000 v44 (((4 : Int32) * i1) + i5) hp41 (fun x45 => (((0 : Int32) ≤ x45 → mw_rc (.ref a0) 179 hp41 ∧ mm_R X d 179 0 (mm_L0 179 [(.ref a0), .int (((4 : Int32) * i1) + i5), .int (133 : Int32), .int ((133 : Int32) + i5), .int ((137 : Int32) + i5)]) [] hp41 (mw_ri (fun x48 hp47 => ((¬ x48 = (0 : Int32) → mm_R X (d + 1) 176 147 [some ((.ref a0)), some (.int i1), some (.int i2), some (.int i3), some (.int i4), some (.int (i5 + (1 : Int32))), o6] [] hp47 Q) ∧ (x48 = (0 : Int32) → Q (some (.int (0 : Int32))) hp47))))) ∧ (¬ (0 : Int32) ≤ x45 → mw_rc (.ref a0) 149 hp41 ∧ mm_R X d 149 0 (mm_L0 149 [(.ref a0), .int ((133 : Int32) + i5), .int ((137 : Int32) + i5)]) [] hp41 (mw_r0 (fun hp50 => mm_R X (d + 1) 176 147 [some ((.ref a0)), some (.int i1), some (.int i2), some (.int i3), some (.int i4), some (.int (i5 + (1 : Int32))), o6] [] hp50 Q)))))))))))) : mm_R X (d + 1) 176 147 [some ((.ref a0)), some (.int i1), some (.int i2), some (.int i3), some (.int i4), some (.int i5), o6] [] hp Q := by
  refine mm_R.br (L' := [some ((.ref a0)), some (.int i1), some (.int i2), some (.int i3), some (.int i4), some (.int i5), o6]) (st' := []) (t := 242) (u := 153) (b := mm_cc .ge i5 (4 : Int32)) 3 rfl (fun c => ?_) (fun c => ?_)
  · replace H := H.1 (of_decide_eq_true c)
    refine mm_R.wgv (pc' := 251) (L' := [some ((.ref a0)), some (.int i1), some (.int i2), some (.int i3), some (.int i4), some (.int (((16 : Int32) * i1) + i2)), o6]) (r := []) 7 rfl rfl (H.mono (fun v1 H => ?_))
    refine mm_R.wai (pc' := 258) (L' := [some ((.ref a0)), some (.int i1), some (.int i2), some (.int i3), some (.int i4), some (.int (((16 : Int32) * i1) + i2)), o6]) (r := []) (t := 1000) 3 rfl rfl rfl rfl (H.mono (fun x2 H => ?_))
    refine mm_R.br (L' := [some ((.ref a0)), some (.int i1), some (.int i2), some (.int i3), some (.int i4), some (.int (((16 : Int32) * i1) + i2)), o6]) (st' := []) (t := 351) (u := 262) (b := mm_cc .lt x2 (0 : Int32)) 1 rfl (fun c => ?_) (fun c => ?_)
    · replace H := H.1 (of_decide_eq_true c)
      refine mm_R.wgv (pc' := 352) (L' := [some ((.ref a0)), some (.int i1), some (.int i2), some (.int i3), some (.int i4), some (.int (((16 : Int32) * i1) + i2)), o6]) (r := []) 1 rfl rfl (H.mono (fun v3 H => ?_))
      refine mm_R.wsi (pc' := 358) (L' := [some ((.ref a0)), some (.int i1), some (.int i2), some (.int i3), some (.int i4), some (.int (((16 : Int32) * i1) + i2)), o6]) (r := []) (t := 1000) (ty := .int) 2 rfl rfl rfl rfl (H.mono (fun hp4 H => ?_))
      obtain ⟨hc5, H⟩ := H
      refine mm_R.cV (pc' := 363) (L' := [some ((.ref a0)), some (.int i1), some (.int i2), some (.int i3), some (.int i4), some (.int (((16 : Int32) * i1) + i2)), o6]) (st1 := [.int (((16 : Int32) * i1) + i2), .int i1, (.ref a0)]) (as := [.int i1, .int (((16 : Int32) * i1) + i2)]) (rest := []) 3 rfl rfl (mw_sp rfl rfl (Nat.le_of_ble_eq_true rfl) (mw_ac rfl (mw_ac rfl (mw_ac rfl mw_an))) mw_an) rfl rfl hc5 (H.mono (fun o hp6 H => ?_))
      obtain ⟨x7, rfl, H⟩ := H
      exact mm_R.rt (pc' := 366) (L' := [some ((.ref a0)), some (.int i1), some (.int i2), some (.int i3), some (.int i4), some (.int (((16 : Int32) * i1) + i2)), o6]) (st1 := [.int x7]) 0 rfl rfl rfl rfl rfl (mw_rvi (ty := .boolean) H.1) H.2
    · replace H := H.2 (of_decide_eq_false c)
      refine mm_R.wpt (pc' := 273) (L' := [some ((.ref a0)), some (.int i1), some (.int i2), some (.int i3), some (.int i4), some (.int (((16 : Int32) * i1) + i2)), o6]) (r := []) 6 rfl rfl (H.mono (fun hp8 H => ?_))
      obtain ⟨hc9, H⟩ := H
      refine mm_R.cV (pc' := 288) (L' := [some ((.ref a0)), some (.int i1), some (.int i2), some (.int i3), some (.int i4), some (.int (((16 : Int32) * i1) + i2)), o6]) (st1 := [.int (141 : Int32), .int (-1 : Int32), .int (137 : Int32), .int ((24 : Int32) + i1), (.ref a0)]) (as := [.int ((24 : Int32) + i1), .int (137 : Int32), .int (-1 : Int32), .int (141 : Int32)]) (rest := []) 7 rfl rfl (mw_sp rfl rfl (Nat.le_of_ble_eq_true rfl) (mw_ac rfl (mw_ac rfl (mw_ac rfl (mw_ac rfl (mw_ac rfl mw_an))))) mw_an) rfl rfl hc9 (H.mono (fun o hp10 H => ?_))
      obtain ⟨x11, rfl, H⟩ := H
      refine mm_R.br (L' := [some ((.ref a0)), some (.int i1), some (.int i2), some (.int i3), some (.int i4), some (.int (((16 : Int32) * i1) + i2)), o6]) (st' := []) (t := 296) (u := 294) (b := mm_cc .ne x11 (0 : Int32)) 1 rfl (fun c => ?_) (fun c => ?_)
      · replace H := H.1 (of_decide_eq_true c)
        refine mm_R.cS (pc' := 299) (L' := [some ((.ref a0)), some (.int i1), some (.int i2), some (.int i3), some (.int i4), some (.int (((16 : Int32) * i1) + i2)), o6]) (st1 := [.int (141 : Int32)]) (as := [.int (141 : Int32)]) (rest := []) 1 rfl rfl (mw_sp rfl rfl (Nat.le_of_ble_eq_true rfl) (mw_ac rfl mw_an) mw_an) rfl rfl (H.mono (fun o hp12 H => ?_))
        obtain ⟨x13, rfl, H⟩ := H
        obtain ⟨hc14, H⟩ := H
        refine mm_R.cV (pc' := 307) (L' := [some ((.ref a0)), some (.int i1), some (.int i2), some (.int i3), some (.int i4), some (.int (((16 : Int32) * i1) + i2)), some (.int x13)]) (st1 := [.int x13, (.ref a0)]) (as := [.int x13]) (rest := []) 3 rfl rfl (mw_sp rfl rfl (Nat.le_of_ble_eq_true rfl) (mw_ac rfl (mw_ac rfl mw_an)) mw_an) rfl rfl hc14 (H.mono (fun o hp15 H => ?_))
        obtain ⟨x16, rfl, H⟩ := H
        refine mm_R.br (L' := [some ((.ref a0)), some (.int i1), some (.int i2), some (.int i3), some (.int i4), some (.int (((16 : Int32) * i1) + i2)), some (.int x13)]) (st' := []) (t := 332) (u := 313) (b := mm_cc .eq x16 (0 : Int32)) 1 rfl (fun c => ?_) (fun c => ?_)
        · replace H := H.1 (of_decide_eq_true c)
          obtain ⟨hc17, H⟩ := H
          refine mm_R.cV (pc' := 338) (L' := [some ((.ref a0)), some (.int i1), some (.int i2), some (.int i3), some (.int i4), some (.int (((16 : Int32) * i1) + i2)), some (.int x13)]) (st1 := [.int ((27 : Int32) + (((16 : Int32) * i1) + i2)), (.ref a0)]) (as := [.int ((27 : Int32) + (((16 : Int32) * i1) + i2))]) (rest := []) 4 rfl rfl (mw_sp rfl rfl (Nat.le_of_ble_eq_true rfl) (mw_ac rfl (mw_ac rfl mw_an)) mw_an) rfl rfl hc17 (H.mono (fun o hp18 H => ?_))
          obtain ⟨rfl, H⟩ := H
          refine mm_R.wgv (pc' := 342) (L' := [some ((.ref a0)), some (.int i1), some (.int i2), some (.int i3), some (.int i4), some (.int (((16 : Int32) * i1) + i2)), some (.int x13)]) (r := []) 1 rfl rfl (H.mono (fun v19 H => ?_))
          refine mm_R.wsi (pc' := 348) (L' := [some ((.ref a0)), some (.int i1), some (.int i2), some (.int i3), some (.int i4), some (.int (((16 : Int32) * i1) + i2)), some (.int x13)]) (r := []) (t := 1000) (ty := .int) 2 rfl rfl rfl rfl (H.mono (fun hp20 H => ?_))
          exact mm_R.rt (pc' := 350) (L' := [some ((.ref a0)), some (.int i1), some (.int i2), some (.int i3), some (.int i4), some (.int (((16 : Int32) * i1) + i2)), some (.int x13)]) (st1 := [.int (1 : Int32)]) 1 rfl rfl rfl rfl rfl rfl H
        · replace H := H.2 (of_decide_eq_false c)
          obtain ⟨hc21, H⟩ := H
          refine mm_R.cV (pc' := 316) (L' := [some ((.ref a0)), some (.int i1), some (.int i2), some (.int i3), some (.int i4), some (.int (((16 : Int32) * i1) + i2)), some (.int x13)]) (st1 := [.int x13, (.ref a0)]) (as := [.int x13]) (rest := []) 2 rfl rfl (mw_sp rfl rfl (Nat.le_of_ble_eq_true rfl) (mw_ac rfl (mw_ac rfl mw_an)) mw_an) rfl rfl hc21 (H.mono (fun o hp22 H => ?_))
          obtain ⟨x23, rfl, H⟩ := H
          refine mm_R.br (L' := [some ((.ref a0)), some (.int i1), some (.int i2), some (.int i3), some (.int i4), some (.int (((16 : Int32) * i1) + i2)), some (.int x13)]) (st' := []) (t := 351) (u := 323) (b := mm_cc .ne x23 (1 : Int32)) 2 rfl (fun c => ?_) (fun c => ?_)
          · replace H := H.1 (of_decide_eq_true c)
            refine mm_R.wgv (pc' := 352) (L' := [some ((.ref a0)), some (.int i1), some (.int i2), some (.int i3), some (.int i4), some (.int (((16 : Int32) * i1) + i2)), some (.int x13)]) (r := []) 1 rfl rfl (H.mono (fun v24 H => ?_))
            refine mm_R.wsi (pc' := 358) (L' := [some ((.ref a0)), some (.int i1), some (.int i2), some (.int i3), some (.int i4), some (.int (((16 : Int32) * i1) + i2)), some (.int x13)]) (r := []) (t := 1000) (ty := .int) 2 rfl rfl rfl rfl (H.mono (fun hp25 H => ?_))
            obtain ⟨hc26, H⟩ := H
            refine mm_R.cV (pc' := 363) (L' := [some ((.ref a0)), some (.int i1), some (.int i2), some (.int i3), some (.int i4), some (.int (((16 : Int32) * i1) + i2)), some (.int x13)]) (st1 := [.int (((16 : Int32) * i1) + i2), .int i1, (.ref a0)]) (as := [.int i1, .int (((16 : Int32) * i1) + i2)]) (rest := []) 3 rfl rfl (mw_sp rfl rfl (Nat.le_of_ble_eq_true rfl) (mw_ac rfl (mw_ac rfl (mw_ac rfl mw_an))) mw_an) rfl rfl hc26 (H.mono (fun o hp27 H => ?_))
            obtain ⟨x28, rfl, H⟩ := H
            exact mm_R.rt (pc' := 366) (L' := [some ((.ref a0)), some (.int i1), some (.int i2), some (.int i3), some (.int i4), some (.int (((16 : Int32) * i1) + i2)), some (.int x13)]) (st1 := [.int x28]) 0 rfl rfl rfl rfl rfl (mw_rvi (ty := .boolean) H.1) H.2
          · replace H := H.2 (Decidable.of_not_not (of_decide_eq_false c))
            obtain ⟨hc29, H⟩ := H
            refine mm_R.cV (pc' := 326) (L' := [some ((.ref a0)), some (.int i1), some (.int i2), some (.int i3), some (.int i4), some (.int (((16 : Int32) * i1) + i2)), some (.int x13)]) (st1 := [.int x13, (.ref a0)]) (as := [.int x13]) (rest := []) 2 rfl rfl (mw_sp rfl rfl (Nat.le_of_ble_eq_true rfl) (mw_ac rfl (mw_ac rfl mw_an)) mw_an) rfl rfl hc29 (H.mono (fun o hp30 H => ?_))
            obtain ⟨x31, rfl, H⟩ := H
            refine mm_R.br (L' := [some ((.ref a0)), some (.int i1), some (.int i2), some (.int i3), some (.int i4), some (.int (((16 : Int32) * i1) + i2)), some (.int x13)]) (st' := []) (t := 351) (u := 332) (b := mm_cc .ne x31 (0 : Int32)) 1 rfl (fun c => ?_) (fun c => ?_)
            · replace H := H.1 (of_decide_eq_true c)
              refine mm_R.wgv (pc' := 352) (L' := [some ((.ref a0)), some (.int i1), some (.int i2), some (.int i3), some (.int i4), some (.int (((16 : Int32) * i1) + i2)), some (.int x13)]) (r := []) 1 rfl rfl (H.mono (fun v32 H => ?_))
              refine mm_R.wsi (pc' := 358) (L' := [some ((.ref a0)), some (.int i1), some (.int i2), some (.int i3), some (.int i4), some (.int (((16 : Int32) * i1) + i2)), some (.int x13)]) (r := []) (t := 1000) (ty := .int) 2 rfl rfl rfl rfl (H.mono (fun hp33 H => ?_))
              obtain ⟨hc34, H⟩ := H
              refine mm_R.cV (pc' := 363) (L' := [some ((.ref a0)), some (.int i1), some (.int i2), some (.int i3), some (.int i4), some (.int (((16 : Int32) * i1) + i2)), some (.int x13)]) (st1 := [.int (((16 : Int32) * i1) + i2), .int i1, (.ref a0)]) (as := [.int i1, .int (((16 : Int32) * i1) + i2)]) (rest := []) 3 rfl rfl (mw_sp rfl rfl (Nat.le_of_ble_eq_true rfl) (mw_ac rfl (mw_ac rfl (mw_ac rfl mw_an))) mw_an) rfl rfl hc34 (H.mono (fun o hp35 H => ?_))
              obtain ⟨x36, rfl, H⟩ := H
              exact mm_R.rt (pc' := 366) (L' := [some ((.ref a0)), some (.int i1), some (.int i2), some (.int i3), some (.int i4), some (.int (((16 : Int32) * i1) + i2)), some (.int x13)]) (st1 := [.int x36]) 0 rfl rfl rfl rfl rfl (mw_rvi (ty := .boolean) H.1) H.2
            · replace H := H.2 (Decidable.of_not_not (of_decide_eq_false c))
              obtain ⟨hc37, H⟩ := H
              refine mm_R.cV (pc' := 338) (L' := [some ((.ref a0)), some (.int i1), some (.int i2), some (.int i3), some (.int i4), some (.int (((16 : Int32) * i1) + i2)), some (.int x13)]) (st1 := [.int ((27 : Int32) + (((16 : Int32) * i1) + i2)), (.ref a0)]) (as := [.int ((27 : Int32) + (((16 : Int32) * i1) + i2))]) (rest := []) 4 rfl rfl (mw_sp rfl rfl (Nat.le_of_ble_eq_true rfl) (mw_ac rfl (mw_ac rfl mw_an)) mw_an) rfl rfl hc37 (H.mono (fun o hp38 H => ?_))
              obtain ⟨rfl, H⟩ := H
              refine mm_R.wgv (pc' := 342) (L' := [some ((.ref a0)), some (.int i1), some (.int i2), some (.int i3), some (.int i4), some (.int (((16 : Int32) * i1) + i2)), some (.int x13)]) (r := []) 1 rfl rfl (H.mono (fun v39 H => ?_))
              refine mm_R.wsi (pc' := 348) (L' := [some ((.ref a0)), some (.int i1), some (.int i2), some (.int i3), some (.int i4), some (.int (((16 : Int32) * i1) + i2)), some (.int x13)]) (r := []) (t := 1000) (ty := .int) 2 rfl rfl rfl rfl (H.mono (fun hp40 H => ?_))
              exact mm_R.rt (pc' := 350) (L' := [some ((.ref a0)), some (.int i1), some (.int i2), some (.int i3), some (.int i4), some (.int (((16 : Int32) * i1) + i2)), some (.int x13)]) (st1 := [.int (1 : Int32)]) 1 rfl rfl rfl rfl rfl rfl H
      · replace H := H.2 (Decidable.of_not_not (of_decide_eq_false c))
        exact mm_R.rt (pc' := 295) (L' := [some ((.ref a0)), some (.int i1), some (.int i2), some (.int i3), some (.int i4), some (.int (((16 : Int32) * i1) + i2)), o6]) (st1 := [.int (0 : Int32)]) 1 rfl rfl rfl rfl rfl rfl H
  · replace H := H.2 (of_decide_eq_false c)
    refine mm_R.wpt (pc' := 163) (L' := [some ((.ref a0)), some (.int i1), some (.int i2), some (.int i3), some (.int i4), some (.int i5), o6]) (r := []) 6 rfl rfl (H.mono (fun hp41 H => ?_))
    refine mm_R.br (L' := [some ((.ref a0)), some (.int i1), some (.int i2), some (.int i3), some (.int i4), some (.int i5), o6]) (st' := []) (t := 187) (u := 173) (b := mm_cc .ge i5 i4) 3 rfl (fun c => ?_) (fun c => ?_)
    · replace H := H.1 (of_decide_eq_true c)
      obtain ⟨hc42, H⟩ := H
      refine mm_R.cV (pc' := 200) (L' := [some ((.ref a0)), some (.int i1), some (.int i2), some (.int i3), some (.int i4), some (.int i5), o6]) (st1 := [.int ((137 : Int32) + i5), .int ((133 : Int32) + i5), (.ref a0)]) (as := [.int ((133 : Int32) + i5), .int ((137 : Int32) + i5)]) (rest := []) 7 rfl rfl (mw_sp rfl rfl (Nat.le_of_ble_eq_true rfl) (mw_ac rfl (mw_ac rfl (mw_ac rfl mw_an))) mw_an) rfl rfl hc42 (H.mono (fun o hp43 H => ?_))
      obtain ⟨rfl, H⟩ := H
      exact mm_R.pn (pc' := 147) (L' := [some ((.ref a0)), some (.int i1), some (.int i2), some (.int i3), some (.int i4), some (.int (i5 + (1 : Int32))), o6]) (st' := []) 3 rfl H
    · replace H := H.2 (of_decide_eq_false c)
      refine mm_R.wgv (pc' := 174) (L' := [some ((.ref a0)), some (.int i1), some (.int i2), some (.int i3), some (.int i4), some (.int i5), o6]) (r := []) 1 rfl rfl (H.mono (fun v44 H => ?_))
      refine mm_R.wai (pc' := 183) (L' := [some ((.ref a0)), some (.int i1), some (.int i2), some (.int i3), some (.int i4), some (.int i5), o6]) (r := []) (t := 1000) 5 rfl rfl rfl rfl (H.mono (fun x45 H => ?_))
      refine mm_R.br (L' := [some ((.ref a0)), some (.int i1), some (.int i2), some (.int i3), some (.int i4), some (.int i5), o6]) (st' := []) (t := 206) (u := 187) (b := mm_cc .ge x45 (0 : Int32)) 1 rfl (fun c => ?_) (fun c => ?_)
      · replace H := H.1 (of_decide_eq_true c)
        obtain ⟨hc46, H⟩ := H
        refine mm_R.cV (pc' := 228) (L' := [some ((.ref a0)), some (.int i1), some (.int i2), some (.int i3), some (.int i4), some (.int i5), o6]) (st1 := [.int ((137 : Int32) + i5), .int ((133 : Int32) + i5), .int (133 : Int32), .int (((4 : Int32) * i1) + i5), (.ref a0)]) (as := [.int (((4 : Int32) * i1) + i5), .int (133 : Int32), .int ((133 : Int32) + i5), .int ((137 : Int32) + i5)]) (rest := []) 13 rfl rfl (mw_sp rfl rfl (Nat.le_of_ble_eq_true rfl) (mw_ac rfl (mw_ac rfl (mw_ac rfl (mw_ac rfl (mw_ac rfl mw_an))))) mw_an) rfl rfl hc46 (H.mono (fun o hp47 H => ?_))
        obtain ⟨x48, rfl, H⟩ := H
        refine mm_R.br (L' := [some ((.ref a0)), some (.int i1), some (.int i2), some (.int i3), some (.int i4), some (.int i5), o6]) (st' := []) (t := 236) (u := 234) (b := mm_cc .ne x48 (0 : Int32)) 1 rfl (fun c => ?_) (fun c => ?_)
        · replace H := H.1 (of_decide_eq_true c)
          exact mm_R.pn (pc' := 147) (L' := [some ((.ref a0)), some (.int i1), some (.int i2), some (.int i3), some (.int i4), some (.int (i5 + (1 : Int32))), o6]) (st' := []) 2 rfl H
        · replace H := H.2 (Decidable.of_not_not (of_decide_eq_false c))
          exact mm_R.rt (pc' := 235) (L' := [some ((.ref a0)), some (.int i1), some (.int i2), some (.int i3), some (.int i4), some (.int i5), o6]) (st1 := [.int (0 : Int32)]) 1 rfl rfl rfl rfl rfl rfl H
      · replace H := H.2 (of_decide_eq_false c)
        obtain ⟨hc49, H⟩ := H
        refine mm_R.cV (pc' := 200) (L' := [some ((.ref a0)), some (.int i1), some (.int i2), some (.int i3), some (.int i4), some (.int i5), o6]) (st1 := [.int ((137 : Int32) + i5), .int ((133 : Int32) + i5), (.ref a0)]) (as := [.int ((133 : Int32) + i5), .int ((137 : Int32) + i5)]) (rest := []) 7 rfl rfl (mw_sp rfl rfl (Nat.le_of_ble_eq_true rfl) (mw_ac rfl (mw_ac rfl (mw_ac rfl mw_an))) mw_an) rfl rfl hc49 (H.mono (fun o hp50 H => ?_))
        obtain ⟨rfl, H⟩ := H
        exact mm_R.pn (pc' := 147) (L' := [some ((.ref a0)), some (.int i1), some (.int i2), some (.int i3), some (.int i4), some (.int (i5 + (1 : Int32))), o6]) (st' := []) 3 rfl H
-- StepRunnerModel.choice, from 0
set_option maxRecDepth 10000 in
theorem w177_0 {X : List Int32} {d : Nat} {a0 : Nat} {i1 : Int32} {i2 : Int32} {i3 : Int32} {i4 : Int32} {hp : mm_H} {Q : Option Value → mm_H → Prop} (H : mw_gv 10 15 (.ref a0) hp (fun v1 => mw_ai 1000 v1 i1 hp (fun x2 => ((¬ x2 = (0 : Int32) → mm_R X (d + 1) 177 17 [some ((.ref a0)), some (.int i1), some (.int i2), some (.int i3), some (.int i4), some (.int i2), some (.int (3 : Int32))] [] hp Q) ∧ (x2 = (0 : Int32) → Q (some (.int i2)) hp))))) : mm_R X (d + 1) 177 0 (mm_L0 177 [(.ref a0), .int i1, .int i2, .int i3, .int i4]) [] hp Q := by
  show mm_R X (d + 1) 177 0 [some ((.ref a0)), some (.int i1), some (.int i2), some (.int i3), some (.int i4), none, none] [] hp Q
  refine mm_R.wgv (pc' := 1) (L' := [some ((.ref a0)), some (.int i1), some (.int i2), some (.int i3), some (.int i4), none, none]) (r := []) 1 rfl rfl (H.mono (fun v1 H => ?_))
  refine mm_R.wai (pc' := 5) (L' := [some ((.ref a0)), some (.int i1), some (.int i2), some (.int i3), some (.int i4), none, none]) (r := []) (t := 1000) 1 rfl rfl rfl rfl (H.mono (fun x2 H => ?_))
  refine mm_R.br (L' := [some ((.ref a0)), some (.int i1), some (.int i2), some (.int i3), some (.int i4), none, none]) (st' := []) (t := 11) (u := 9) (b := mm_cc .ne x2 (0 : Int32)) 1 rfl (fun c => ?_) (fun c => ?_)
  · replace H := H.1 (of_decide_eq_true c)
    exact mm_R.pn (pc' := 17) (L' := [some ((.ref a0)), some (.int i1), some (.int i2), some (.int i3), some (.int i4), some (.int i2), some (.int (3 : Int32))]) (st' := []) 4 rfl H
  · replace H := H.2 (Decidable.of_not_not (of_decide_eq_false c))
    exact mm_R.rt (pc' := 10) (L' := [some ((.ref a0)), some (.int i1), some (.int i2), some (.int i3), some (.int i4), none, none]) (st1 := [.int i2]) 1 rfl rfl rfl rfl rfl rfl H
-- StepRunnerModel.choice, from 17
set_option maxRecDepth 10000 in
theorem w177_17 {X : List Int32} {d : Nat} {a0 : Nat} {i1 : Int32} {i2 : Int32} {i3 : Int32} {i4 : Int32} {i5 : Int32} {i6 : Int32} {hp : mm_H} {Q : Option Value → mm_H → Prop} (H : ((i6 ≤ i4 → mm_R X d 123 0 (mm_L0 123 [.int ((129 : Int32) + i4)]) [] hp (mw_ri (fun x2 hp1 => mw_rc (.ref a0) 143 hp1 ∧ mm_R X d 143 0 (mm_L0 143 [(.ref a0), .int ((129 : Int32) + i4)]) [] hp1 (mw_ri (fun x5 hp4 => mw_rc (.ref a0) 146 hp4 ∧ mm_R X d 146 0 (mm_L0 146 [(.ref a0), .int x2, .int x5]) [] hp4 (mw_ri (fun x8 hp7 => ¬ x8 = (0 : Int32) ∧ (Q (some (.int (i5 - i5 / x8 * x8))) hp7)))))))) ∧ (¬ i6 ≤ i4 → ((¬ ((i3 >>> (i6 &&& 31)) &&& (1 : Int32)) = (1 : Int32) → mm_R X (d + 1) 177 17 [some ((.ref a0)), some (.int i1), some (.int i2), some (.int i3), some (.int i4), some (.int i5), some (.int (i6 + (-1 : Int32)))] [] hp Q) ∧ (((i3 >>> (i6 &&& 31)) &&& (1 : Int32)) = (1 : Int32) → mm_R X d 123 0 (mm_L0 123 [.int ((129 : Int32) + i6)]) [] hp (mw_ri (fun x11 hp10 => mw_rc (.ref a0) 143 hp10 ∧ mm_R X d 143 0 (mm_L0 143 [(.ref a0), .int ((129 : Int32) + i6)]) [] hp10 (mw_ri (fun x14 hp13 => mw_rc (.ref a0) 146 hp13 ∧ mm_R X d 146 0 (mm_L0 146 [(.ref a0), .int x11, .int x14]) [] hp13 (mw_ri (fun x17 hp16 => ¬ x17 = (0 : Int32) ∧ (mm_R X (d + 1) 177 17 [some ((.ref a0)), some (.int i1), some (.int i2), some (.int i3), some (.int i4), some (.int (i5 / x17)), some (.int (i6 + (-1 : Int32)))] [] hp16 Q)))))))))))) : mm_R X (d + 1) 177 17 [some ((.ref a0)), some (.int i1), some (.int i2), some (.int i3), some (.int i4), some (.int i5), some (.int i6)] [] hp Q := by
  refine mm_R.br (L' := [some ((.ref a0)), some (.int i1), some (.int i2), some (.int i3), some (.int i4), some (.int i5), some (.int i6)]) (st' := []) (t := 68) (u := 24) (b := mm_cc .le i6 i4) 3 rfl (fun c => ?_) (fun c => ?_)
  · replace H := H.1 (of_decide_eq_true c)
    refine mm_R.cS (pc' := 77) (L' := [some ((.ref a0)), some (.int i1), some (.int i2), some (.int i3), some (.int i4), some (.int i5), some (.int i6)]) (st1 := [.int ((129 : Int32) + i4), (.ref a0), .int i5]) (as := [.int ((129 : Int32) + i4)]) (rest := [(.ref a0), .int i5]) 5 rfl rfl (mw_sp rfl rfl (Nat.le_of_ble_eq_true rfl) (mw_ac rfl mw_an) (mw_ac rfl (mw_ac rfl mw_an))) rfl rfl (H.mono (fun o hp1 H => ?_))
    obtain ⟨x2, rfl, H⟩ := H
    obtain ⟨hc3, H⟩ := H
    refine mm_R.cV (pc' := 87) (L' := [some ((.ref a0)), some (.int i1), some (.int i2), some (.int i3), some (.int i4), some (.int i5), some (.int i6)]) (st1 := [.int ((129 : Int32) + i4), (.ref a0), .int x2, (.ref a0), .int i5]) (as := [.int ((129 : Int32) + i4)]) (rest := [.int x2, (.ref a0), .int i5]) 4 rfl rfl (mw_sp rfl rfl (Nat.le_of_ble_eq_true rfl) (mw_ac rfl (mw_ac rfl mw_an)) (mw_ac rfl (mw_ac rfl (mw_ac rfl mw_an)))) rfl rfl hc3 (H.mono (fun o hp4 H => ?_))
    obtain ⟨x5, rfl, H⟩ := H
    obtain ⟨hc6, H⟩ := H
    refine mm_R.cV (pc' := 90) (L' := [some ((.ref a0)), some (.int i1), some (.int i2), some (.int i3), some (.int i4), some (.int i5), some (.int i6)]) (st1 := [.int x5, .int x2, (.ref a0), .int i5]) (as := [.int x2, .int x5]) (rest := [.int i5]) 0 rfl rfl (mw_sp rfl rfl (Nat.le_of_ble_eq_true rfl) (mw_ac rfl (mw_ac rfl (mw_ac rfl mw_an))) (mw_ac rfl mw_an)) rfl rfl hc6 (H.mono (fun o hp7 H => ?_))
    obtain ⟨x8, rfl, H⟩ := H
    obtain ⟨hz9, H⟩ := H
    refine mm_R.dv (pc' := 93) (L' := [some ((.ref a0)), some (.int i1), some (.int i2), some (.int i3), some (.int i4), some (.int i5), some (.int i6)]) (r := []) (x := i5) (y := x8) (f := fun x y => x - x / y * y) 0 rfl rfl rfl hz9 ?_
    exact mm_R.rt (pc' := 94) (L' := [some ((.ref a0)), some (.int i1), some (.int i2), some (.int i3), some (.int i4), some (.int i5), some (.int i6)]) (st1 := [.int (i5 - i5 / x8 * x8)]) 0 rfl rfl rfl rfl rfl rfl H
  · replace H := H.2 (of_decide_eq_false c)
    refine mm_R.br (L' := [some ((.ref a0)), some (.int i1), some (.int i2), some (.int i3), some (.int i4), some (.int i5), some (.int i6)]) (st' := []) (t := 62) (u := 34) (b := mm_cc .ne ((i3 >>> (i6 &&& 31)) &&& (1 : Int32)) (1 : Int32)) 7 rfl (fun c => ?_) (fun c => ?_)
    · replace H := H.1 (of_decide_eq_true c)
      exact mm_R.pn (pc' := 17) (L' := [some ((.ref a0)), some (.int i1), some (.int i2), some (.int i3), some (.int i4), some (.int i5), some (.int (i6 + (-1 : Int32)))]) (st' := []) 2 rfl H
    · replace H := H.2 (Decidable.of_not_not (of_decide_eq_false c))
      refine mm_R.cS (pc' := 43) (L' := [some ((.ref a0)), some (.int i1), some (.int i2), some (.int i3), some (.int i4), some (.int i5), some (.int i6)]) (st1 := [.int ((129 : Int32) + i6), (.ref a0), .int i5]) (as := [.int ((129 : Int32) + i6)]) (rest := [(.ref a0), .int i5]) 5 rfl rfl (mw_sp rfl rfl (Nat.le_of_ble_eq_true rfl) (mw_ac rfl mw_an) (mw_ac rfl (mw_ac rfl mw_an))) rfl rfl (H.mono (fun o hp10 H => ?_))
      obtain ⟨x11, rfl, H⟩ := H
      obtain ⟨hc12, H⟩ := H
      refine mm_R.cV (pc' := 53) (L' := [some ((.ref a0)), some (.int i1), some (.int i2), some (.int i3), some (.int i4), some (.int i5), some (.int i6)]) (st1 := [.int ((129 : Int32) + i6), (.ref a0), .int x11, (.ref a0), .int i5]) (as := [.int ((129 : Int32) + i6)]) (rest := [.int x11, (.ref a0), .int i5]) 4 rfl rfl (mw_sp rfl rfl (Nat.le_of_ble_eq_true rfl) (mw_ac rfl (mw_ac rfl mw_an)) (mw_ac rfl (mw_ac rfl (mw_ac rfl mw_an)))) rfl rfl hc12 (H.mono (fun o hp13 H => ?_))
      obtain ⟨x14, rfl, H⟩ := H
      obtain ⟨hc15, H⟩ := H
      refine mm_R.cV (pc' := 56) (L' := [some ((.ref a0)), some (.int i1), some (.int i2), some (.int i3), some (.int i4), some (.int i5), some (.int i6)]) (st1 := [.int x14, .int x11, (.ref a0), .int i5]) (as := [.int x11, .int x14]) (rest := [.int i5]) 0 rfl rfl (mw_sp rfl rfl (Nat.le_of_ble_eq_true rfl) (mw_ac rfl (mw_ac rfl (mw_ac rfl mw_an))) (mw_ac rfl mw_an)) rfl rfl hc15 (H.mono (fun o hp16 H => ?_))
      obtain ⟨x17, rfl, H⟩ := H
      obtain ⟨hz18, H⟩ := H
      refine mm_R.dv (pc' := 59) (L' := [some ((.ref a0)), some (.int i1), some (.int i2), some (.int i3), some (.int i4), some (.int i5), some (.int i6)]) (r := []) (x := i5) (y := x17) (f := fun x y => x / y) 0 rfl rfl rfl hz18 ?_
      exact mm_R.pn (pc' := 17) (L' := [some ((.ref a0)), some (.int i1), some (.int i2), some (.int i3), some (.int i4), some (.int (i5 / x17)), some (.int (i6 + (-1 : Int32)))]) (st' := []) 3 rfl H
-- StepRunnerModel.element, from 0
set_option maxRecDepth 10000 in
theorem w178_0 {X : List Int32} {d : Nat} {a0 : Nat} {i1 : Int32} {i2 : Int32} {i3 : Int32} {hp : mm_H} {Q : Option Value → mm_H → Prop} (H : mm_R X (d + 1) 178 8 [some ((.ref a0)), some (.int i1), some (.int i2), some (.int i3), some (.int (i1 + (1 : Int32))), some (.int (0 : Int32))] [] hp Q) : mm_R X (d + 1) 178 0 (mm_L0 178 [(.ref a0), .int i1, .int i2, .int i3]) [] hp Q := by
  show mm_R X (d + 1) 178 0 [some ((.ref a0)), some (.int i1), some (.int i2), some (.int i3), none, none] [] hp Q
  exact mm_R.pn (pc' := 8) (L' := [some ((.ref a0)), some (.int i1), some (.int i2), some (.int i3), some (.int (i1 + (1 : Int32))), some (.int (0 : Int32))]) (st' := []) 6 rfl H
-- StepRunnerModel.element, from 8
set_option maxRecDepth 10000 in
theorem w178_8 {X : List Int32} {d : Nat} {a0 : Nat} {i1 : Int32} {i2 : Int32} {i3 : Int32} {i4 : Int32} {i5 : Int32} {hp : mm_H} {Q : Option Value → mm_H → Prop} (H : ((i3 ≤ i5 → Q (some (.int i4)) hp) ∧ (¬ i3 ≤ i5 → mw_rc (.ref a0) 147 hp ∧ mm_R X d 147 0 (mm_L0 147 [(.ref a0), .int i4, .int i2]) [] hp (mw_ri (fun x3 hp2 => mm_R X (d + 1) 178 8 [some ((.ref a0)), some (.int i1), some (.int i2), some (.int i3), some (.int x3), some (.int (i5 + (1 : Int32)))] [] hp2 Q))))) : mm_R X (d + 1) 178 8 [some ((.ref a0)), some (.int i1), some (.int i2), some (.int i3), some (.int i4), some (.int i5)] [] hp Q := by
  refine mm_R.br (L' := [some ((.ref a0)), some (.int i1), some (.int i2), some (.int i3), some (.int i4), some (.int i5)]) (st' := []) (t := 29) (u := 14) (b := mm_cc .ge i5 i3) 3 rfl (fun c => ?_) (fun c => ?_)
  · replace H := H.1 (of_decide_eq_true c)
    exact mm_R.rt (pc' := 31) (L' := [some ((.ref a0)), some (.int i1), some (.int i2), some (.int i3), some (.int i4), some (.int i5)]) (st1 := [.int i4]) 1 rfl rfl rfl rfl rfl rfl H
  · replace H := H.2 (of_decide_eq_false c)
    obtain ⟨hc1, H⟩ := H
    refine mm_R.cV (pc' := 18) (L' := [some ((.ref a0)), some (.int i1), some (.int i2), some (.int i3), some (.int i4), some (.int i5)]) (st1 := [.int i2, .int i4, (.ref a0)]) (as := [.int i4, .int i2]) (rest := []) 3 rfl rfl (mw_sp rfl rfl (Nat.le_of_ble_eq_true rfl) (mw_ac rfl (mw_ac rfl (mw_ac rfl mw_an))) mw_an) rfl rfl hc1 (H.mono (fun o hp2 H => ?_))
    obtain ⟨x3, rfl, H⟩ := H
    exact mm_R.pn (pc' := 8) (L' := [some ((.ref a0)), some (.int i1), some (.int i2), some (.int i3), some (.int x3), some (.int (i5 + (1 : Int32)))]) (st' := []) 3 rfl H
-- StepRunnerModel.ruled, from 0
set_option maxRecDepth 10000 in
theorem w179_0 {X : List Int32} {d : Nat} {a0 : Nat} {i1 : Int32} {i2 : Int32} {i3 : Int32} {i4 : Int32} {hp : mm_H} {Q : Option Value → mm_H → Prop} (H : mw_gv 10 22 (.ref a0) hp (fun v1 => mw_ai 1000 v1 i1 hp (fun x2 => mw_rc (.ref a0) 121 hp ∧ mm_R X d 121 0 (mm_L0 121 [(.ref a0), .int i4]) [] hp (mw_r0 (fun hp4 => mw_rc (.ref a0) 180 hp4 ∧ mm_R X d 180 0 (mm_L0 180 [(.ref a0), .int i1, .int (0 : Int32)]) [] hp4 (mw_ri (fun x7 hp6 => ((¬ x7 = (36 : Int32) → mm_R X (d + 1) 179 48 [some ((.ref a0)), some (.int i1), some (.int i2), some (.int i3), some (.int i4), some (.int x2), none, none] [.int (0 : Int32)] hp6 Q) ∧ (x7 = (36 : Int32) → mw_rc (.ref a0) 180 hp6 ∧ mm_R X d 180 0 (mm_L0 180 [(.ref a0), .int i1, .int (1 : Int32)]) [] hp6 (mw_ri (fun x10 hp9 => ((¬ x10 = (40 : Int32) → mm_R X (d + 1) 179 48 [some ((.ref a0)), some (.int i1), some (.int i2), some (.int i3), some (.int i4), some (.int x2), none, none] [.int (0 : Int32)] hp9 Q) ∧ (x10 = (40 : Int32) → mw_rc (.ref a0) 181 hp9 ∧ mm_R X d 181 0 (mm_L0 181 [(.ref a0), .int i1, .int (0 : Int32), .int i2, .int i3]) [] hp9 (mw_ri (fun x13 hp12 => mm_R X (d + 1) 179 48 [some ((.ref a0)), some (.int i1), some (.int i2), some (.int i3), some (.int i4), some (.int x2), none, none] [.int x13] hp12 Q))))))))))))))) : mm_R X (d + 1) 179 0 (mm_L0 179 [(.ref a0), .int i1, .int i2, .int i3, .int i4]) [] hp Q := by
  show mm_R X (d + 1) 179 0 [some ((.ref a0)), some (.int i1), some (.int i2), some (.int i3), some (.int i4), none, none, none] [] hp Q
  refine mm_R.wgv (pc' := 1) (L' := [some ((.ref a0)), some (.int i1), some (.int i2), some (.int i3), some (.int i4), none, none, none]) (r := []) 1 rfl rfl (H.mono (fun v1 H => ?_))
  refine mm_R.wai (pc' := 5) (L' := [some ((.ref a0)), some (.int i1), some (.int i2), some (.int i3), some (.int i4), none, none, none]) (r := []) (t := 1000) 1 rfl rfl rfl rfl (H.mono (fun x2 H => ?_))
  obtain ⟨hc3, H⟩ := H
  refine mm_R.cV (pc' := 11) (L' := [some ((.ref a0)), some (.int i1), some (.int i2), some (.int i3), some (.int i4), some (.int x2), none, none]) (st1 := [.int i4, (.ref a0)]) (as := [.int i4]) (rest := []) 3 rfl rfl (mw_sp rfl rfl (Nat.le_of_ble_eq_true rfl) (mw_ac rfl (mw_ac rfl mw_an)) mw_an) rfl rfl hc3 (H.mono (fun o hp4 H => ?_))
  obtain ⟨rfl, H⟩ := H
  obtain ⟨hc5, H⟩ := H
  refine mm_R.cV (pc' := 17) (L' := [some ((.ref a0)), some (.int i1), some (.int i2), some (.int i3), some (.int i4), some (.int x2), none, none]) (st1 := [.int (0 : Int32), .int i1, (.ref a0)]) (as := [.int i1, .int (0 : Int32)]) (rest := []) 3 rfl rfl (mw_sp rfl rfl (Nat.le_of_ble_eq_true rfl) (mw_ac rfl (mw_ac rfl (mw_ac rfl mw_an))) mw_an) rfl rfl hc5 (H.mono (fun o hp6 H => ?_))
  obtain ⟨x7, rfl, H⟩ := H
  refine mm_R.br (L' := [some ((.ref a0)), some (.int i1), some (.int i2), some (.int i3), some (.int i4), some (.int x2), none, none]) (st' := []) (t := 47) (u := 25) (b := mm_cc .ne x7 (36 : Int32)) 2 rfl (fun c => ?_) (fun c => ?_)
  · replace H := H.1 (of_decide_eq_true c)
    exact mm_R.pn (pc' := 48) (L' := [some ((.ref a0)), some (.int i1), some (.int i2), some (.int i3), some (.int i4), some (.int x2), none, none]) (st' := [.int (0 : Int32)]) 1 rfl H
  · replace H := H.2 (Decidable.of_not_not (of_decide_eq_false c))
    obtain ⟨hc8, H⟩ := H
    refine mm_R.cV (pc' := 28) (L' := [some ((.ref a0)), some (.int i1), some (.int i2), some (.int i3), some (.int i4), some (.int x2), none, none]) (st1 := [.int (1 : Int32), .int i1, (.ref a0)]) (as := [.int i1, .int (1 : Int32)]) (rest := []) 3 rfl rfl (mw_sp rfl rfl (Nat.le_of_ble_eq_true rfl) (mw_ac rfl (mw_ac rfl (mw_ac rfl mw_an))) mw_an) rfl rfl hc8 (H.mono (fun o hp9 H => ?_))
    obtain ⟨x10, rfl, H⟩ := H
    refine mm_R.br (L' := [some ((.ref a0)), some (.int i1), some (.int i2), some (.int i3), some (.int i4), some (.int x2), none, none]) (st' := []) (t := 47) (u := 36) (b := mm_cc .ne x10 (40 : Int32)) 2 rfl (fun c => ?_) (fun c => ?_)
    · replace H := H.1 (of_decide_eq_true c)
      exact mm_R.pn (pc' := 48) (L' := [some ((.ref a0)), some (.int i1), some (.int i2), some (.int i3), some (.int i4), some (.int x2), none, none]) (st' := [.int (0 : Int32)]) 1 rfl H
    · replace H := H.2 (Decidable.of_not_not (of_decide_eq_false c))
      obtain ⟨hc11, H⟩ := H
      refine mm_R.cV (pc' := 41) (L' := [some ((.ref a0)), some (.int i1), some (.int i2), some (.int i3), some (.int i4), some (.int x2), none, none]) (st1 := [.int i3, .int i2, .int (0 : Int32), .int i1, (.ref a0)]) (as := [.int i1, .int (0 : Int32), .int i2, .int i3]) (rest := []) 5 rfl rfl (mw_sp rfl rfl (Nat.le_of_ble_eq_true rfl) (mw_ac rfl (mw_ac rfl (mw_ac rfl (mw_ac rfl (mw_ac rfl mw_an))))) mw_an) rfl rfl hc11 (H.mono (fun o hp12 H => ?_))
      obtain ⟨x13, rfl, H⟩ := H
      exact mm_R.pn (pc' := 48) (L' := [some ((.ref a0)), some (.int i1), some (.int i2), some (.int i3), some (.int i4), some (.int x2), none, none]) (st' := [.int x13]) 1 rfl H
-- StepRunnerModel.ruled, from 48
set_option maxRecDepth 10000 in
theorem w179_48 {X : List Int32} {d : Nat} {a0 : Nat} {i1 : Int32} {i2 : Int32} {i3 : Int32} {i4 : Int32} {i5 : Int32} {o6 : Option Value} {o7 : Option Value} {s0 : Int32} {hp : mm_H} {Q : Option Value → mm_H → Prop} (H : ((¬ s0 = i5 → mw_pt 10 40 (.ref a0) (.int (0 : Int32)) hp (fun hp1 => mw_pt 10 43 (.ref a0) (.int (1 : Int32)) hp1 (fun hp2 => mm_R X (d + 1) 179 153 [some ((.ref a0)), some (.int i1), some (.int i2), some (.int i3), some (.int i4), some (.int i5), some (.int s0), some (.int (0 : Int32))] [] hp2 Q))) ∧ (s0 = i5 → ((i5 ≤ (0 : Int32) → mw_pt 10 40 (.ref a0) (.int (0 : Int32)) hp (fun hp3 => mw_pt 10 43 (.ref a0) (.int (1 : Int32)) hp3 (fun hp4 => mm_R X (d + 1) 179 153 [some ((.ref a0)), some (.int i1), some (.int i2), some (.int i3), some (.int i4), some (.int i5), some (.int s0), some (.int (0 : Int32))] [] hp4 Q))) ∧ (¬ i5 ≤ (0 : Int32) → mw_gi 10 35 (.ref a0) hp (fun x5 => ((¬ x5 = (-2 : Int32) → mw_gi 10 35 (.ref a0) hp (fun x6 => ((x6 < (0 : Int32) → mw_gi 10 35 (.ref a0) hp (fun x7 => ((¬ x7 = (-1 : Int32) → mm_R X (d + 1) 179 118 [some ((.ref a0)), some (.int i1), some (.int i2), some (.int i3), some (.int i4), some (.int i5), some (.int s0), o7] [.int (0 : Int32), .int i4, (.ref a0)] hp Q) ∧ (x7 = (-1 : Int32) → mm_R X (d + 1) 179 118 [some ((.ref a0)), some (.int i1), some (.int i2), some (.int i3), some (.int i4), some (.int i5), some (.int s0), o7] [.int (1 : Int32), .int i4, (.ref a0)] hp Q)))) ∧ (¬ x6 < (0 : Int32) → mw_gi 10 35 (.ref a0) hp (fun x8 => mw_gi 10 38 (.ref a0) hp (fun x9 => mw_rc (.ref a0) 143 hp ∧ mm_R X d 143 0 (mm_L0 143 [(.ref a0), .int x9]) [] hp (mw_ri (fun x12 hp11 => mw_rc (.ref a0) 150 hp11 ∧ mm_R X d 150 0 (mm_L0 150 [(.ref a0), .int x8, .int x12, .int i4, .int (0 : Int32)]) [] hp11 (mw_r0 (fun hp14 => Q (some (.int (1 : Int32))) hp14)))))))))) ∧ (x5 = (-2 : Int32) → Q (some (.int (0 : Int32))) hp)))))))) : mm_R X (d + 1) 179 48 [some ((.ref a0)), some (.int i1), some (.int i2), some (.int i3), some (.int i4), some (.int i5), o6, o7] [.int s0] hp Q := by
  refine mm_R.br (L' := [some ((.ref a0)), some (.int i1), some (.int i2), some (.int i3), some (.int i4), some (.int i5), some (.int s0), o7]) (st' := []) (t := 140) (u := 57) (b := mm_cc .ne s0 i5) 4 rfl (fun c => ?_) (fun c => ?_)
  · replace H := H.1 (of_decide_eq_true c)
    refine mm_R.wpt (pc' := 142) (L' := [some ((.ref a0)), some (.int i1), some (.int i2), some (.int i3), some (.int i4), some (.int i5), some (.int s0), o7]) (r := []) 2 rfl rfl (H.mono (fun hp1 H => ?_))
    refine mm_R.wpt (pc' := 147) (L' := [some ((.ref a0)), some (.int i1), some (.int i2), some (.int i3), some (.int i4), some (.int i5), some (.int s0), o7]) (r := []) 2 rfl rfl (H.mono (fun hp2 H => ?_))
    exact mm_R.pn (pc' := 153) (L' := [some ((.ref a0)), some (.int i1), some (.int i2), some (.int i3), some (.int i4), some (.int i5), some (.int s0), some (.int (0 : Int32))]) (st' := []) 2 rfl H
  · replace H := H.2 (Decidable.of_not_not (of_decide_eq_false c))
    refine mm_R.br (L' := [some ((.ref a0)), some (.int i1), some (.int i2), some (.int i3), some (.int i4), some (.int i5), some (.int s0), o7]) (st' := []) (t := 140) (u := 62) (b := mm_cc .le i5 (0 : Int32)) 2 rfl (fun c => ?_) (fun c => ?_)
    · replace H := H.1 (of_decide_eq_true c)
      refine mm_R.wpt (pc' := 142) (L' := [some ((.ref a0)), some (.int i1), some (.int i2), some (.int i3), some (.int i4), some (.int i5), some (.int s0), o7]) (r := []) 2 rfl rfl (H.mono (fun hp3 H => ?_))
      refine mm_R.wpt (pc' := 147) (L' := [some ((.ref a0)), some (.int i1), some (.int i2), some (.int i3), some (.int i4), some (.int i5), some (.int s0), o7]) (r := []) 2 rfl rfl (H.mono (fun hp4 H => ?_))
      exact mm_R.pn (pc' := 153) (L' := [some ((.ref a0)), some (.int i1), some (.int i2), some (.int i3), some (.int i4), some (.int i5), some (.int s0), some (.int (0 : Int32))]) (st' := []) 2 rfl H
    · replace H := H.2 (of_decide_eq_false c)
      refine mm_R.wgi (pc' := 63) (L' := [some ((.ref a0)), some (.int i1), some (.int i2), some (.int i3), some (.int i4), some (.int i5), some (.int s0), o7]) (r := []) 1 rfl rfl (H.mono (fun x5 H => ?_))
      refine mm_R.br (L' := [some ((.ref a0)), some (.int i1), some (.int i2), some (.int i3), some (.int i4), some (.int i5), some (.int s0), o7]) (st' := []) (t := 73) (u := 71) (b := mm_cc .ne x5 (-2 : Int32)) 2 rfl (fun c => ?_) (fun c => ?_)
      · replace H := H.1 (of_decide_eq_true c)
        refine mm_R.wgi (pc' := 74) (L' := [some ((.ref a0)), some (.int i1), some (.int i2), some (.int i3), some (.int i4), some (.int i5), some (.int s0), o7]) (r := []) 1 rfl rfl (H.mono (fun x6 H => ?_))
        refine mm_R.br (L' := [some ((.ref a0)), some (.int i1), some (.int i2), some (.int i3), some (.int i4), some (.int i5), some (.int s0), o7]) (st' := []) (t := 102) (u := 80) (b := mm_cc .lt x6 (0 : Int32)) 1 rfl (fun c => ?_) (fun c => ?_)
        · replace H := H.1 (of_decide_eq_true c)
          refine mm_R.wgi (pc' := 106) (L' := [some ((.ref a0)), some (.int i1), some (.int i2), some (.int i3), some (.int i4), some (.int i5), some (.int s0), o7]) (r := [.int i4, (.ref a0)]) 3 rfl rfl (H.mono (fun x7 H => ?_))
          refine mm_R.br (L' := [some ((.ref a0)), some (.int i1), some (.int i2), some (.int i3), some (.int i4), some (.int i5), some (.int s0), o7]) (st' := [.int i4, (.ref a0)]) (t := 117) (u := 113) (b := mm_cc .ne x7 (-1 : Int32)) 2 rfl (fun c => ?_) (fun c => ?_)
          · replace H := H.1 (of_decide_eq_true c)
            exact mm_R.pn (pc' := 118) (L' := [some ((.ref a0)), some (.int i1), some (.int i2), some (.int i3), some (.int i4), some (.int i5), some (.int s0), o7]) (st' := [.int (0 : Int32), .int i4, (.ref a0)]) 1 rfl H
          · replace H := H.2 (Decidable.of_not_not (of_decide_eq_false c))
            exact mm_R.pn (pc' := 118) (L' := [some ((.ref a0)), some (.int i1), some (.int i2), some (.int i3), some (.int i4), some (.int i5), some (.int s0), o7]) (st' := [.int (1 : Int32), .int i4, (.ref a0)]) 2 rfl H
        · replace H := H.2 (of_decide_eq_false c)
          refine mm_R.wgi (pc' := 82) (L' := [some ((.ref a0)), some (.int i1), some (.int i2), some (.int i3), some (.int i4), some (.int i5), some (.int s0), o7]) (r := [(.ref a0)]) 2 rfl rfl (H.mono (fun x8 H => ?_))
          refine mm_R.wgi (pc' := 87) (L' := [some ((.ref a0)), some (.int i1), some (.int i2), some (.int i3), some (.int i4), some (.int i5), some (.int s0), o7]) (r := [(.ref a0), .int x8, (.ref a0)]) 2 rfl rfl (H.mono (fun x9 H => ?_))
          obtain ⟨hc10, H⟩ := H
          refine mm_R.cV (pc' := 90) (L' := [some ((.ref a0)), some (.int i1), some (.int i2), some (.int i3), some (.int i4), some (.int i5), some (.int s0), o7]) (st1 := [.int x9, (.ref a0), .int x8, (.ref a0)]) (as := [.int x9]) (rest := [.int x8, (.ref a0)]) 0 rfl rfl (mw_sp rfl rfl (Nat.le_of_ble_eq_true rfl) (mw_ac rfl (mw_ac rfl mw_an)) (mw_ac rfl (mw_ac rfl mw_an))) rfl rfl hc10 (H.mono (fun o hp11 H => ?_))
          obtain ⟨x12, rfl, H⟩ := H
          obtain ⟨hc13, H⟩ := H
          refine mm_R.cV (pc' := 96) (L' := [some ((.ref a0)), some (.int i1), some (.int i2), some (.int i3), some (.int i4), some (.int i5), some (.int s0), o7]) (st1 := [.int (0 : Int32), .int i4, .int x12, .int x8, (.ref a0)]) (as := [.int x8, .int x12, .int i4, .int (0 : Int32)]) (rest := []) 2 rfl rfl (mw_sp rfl rfl (Nat.le_of_ble_eq_true rfl) (mw_ac rfl (mw_ac rfl (mw_ac rfl (mw_ac rfl (mw_ac rfl mw_an))))) mw_an) rfl rfl hc13 (H.mono (fun o hp14 H => ?_))
          obtain ⟨rfl, H⟩ := H
          exact mm_R.rt (pc' := 139) (L' := [some ((.ref a0)), some (.int i1), some (.int i2), some (.int i3), some (.int i4), some (.int i5), some (.int s0), o7]) (st1 := [.int (1 : Int32)]) 2 rfl rfl rfl rfl rfl rfl H
      · replace H := H.2 (Decidable.of_not_not (of_decide_eq_false c))
        exact mm_R.rt (pc' := 72) (L' := [some ((.ref a0)), some (.int i1), some (.int i2), some (.int i3), some (.int i4), some (.int i5), some (.int s0), o7]) (st1 := [.int (0 : Int32)]) 1 rfl rfl rfl rfl rfl rfl H
-- StepRunnerModel.ruled, from 118
set_option maxRecDepth 10000 in
theorem w179_118 {X : List Int32} {d : Nat} {a0 : Nat} {i1 : Int32} {i2 : Int32} {i3 : Int32} {i4 : Int32} {i5 : Int32} {i6 : Int32} {o7 : Option Value} {s0 : Int32} {s1 : Int32} {hp : mm_H} {Q : Option Value → mm_H → Prop} (H : mw_gi 10 35 (.ref a0) hp (fun x1 => ((¬ x1 = (-1 : Int32) → mw_rc (.ref a0) 122 hp ∧ mm_R X d 122 0 (mm_L0 122 [(.ref a0), .int s1, .int s0, .int (0 : Int32), .int (0 : Int32)]) [] hp (mw_r0 (fun hp3 => Q (some (.int (1 : Int32))) hp3))) ∧ (x1 = (-1 : Int32) → mw_gi 10 36 (.ref a0) hp (fun x4 => mw_rc (.ref a0) 122 hp ∧ mm_R X d 122 0 (mm_L0 122 [(.ref a0), .int s1, .int s0, .int (0 : Int32), .int x4]) [] hp (mw_r0 (fun hp6 => Q (some (.int (1 : Int32))) hp6))))))) : mm_R X (d + 1) 179 118 [some ((.ref a0)), some (.int i1), some (.int i2), some (.int i3), some (.int i4), some (.int i5), some (.int i6), o7] [.int s0, .int s1, (.ref a0)] hp Q := by
  refine mm_R.wgi (pc' := 120) (L' := [some ((.ref a0)), some (.int i1), some (.int i2), some (.int i3), some (.int i4), some (.int i5), some (.int i6), o7]) (r := [.int (0 : Int32), .int s0, .int s1, (.ref a0)]) 2 rfl rfl (H.mono (fun x1 H => ?_))
  refine mm_R.br (L' := [some ((.ref a0)), some (.int i1), some (.int i2), some (.int i3), some (.int i4), some (.int i5), some (.int i6), o7]) (st' := [.int (0 : Int32), .int s0, .int s1, (.ref a0)]) (t := 134) (u := 127) (b := mm_cc .ne x1 (-1 : Int32)) 2 rfl (fun c => ?_) (fun c => ?_)
  · replace H := H.1 (of_decide_eq_true c)
    obtain ⟨hc2, H⟩ := H
    refine mm_R.cV (pc' := 135) (L' := [some ((.ref a0)), some (.int i1), some (.int i2), some (.int i3), some (.int i4), some (.int i5), some (.int i6), o7]) (st1 := [.int (0 : Int32), .int (0 : Int32), .int s0, .int s1, (.ref a0)]) (as := [.int s1, .int s0, .int (0 : Int32), .int (0 : Int32)]) (rest := []) 1 rfl rfl (mw_sp rfl rfl (Nat.le_of_ble_eq_true rfl) (mw_ac rfl (mw_ac rfl (mw_ac rfl (mw_ac rfl (mw_ac rfl mw_an))))) mw_an) rfl rfl hc2 (H.mono (fun o hp3 H => ?_))
    obtain ⟨rfl, H⟩ := H
    exact mm_R.rt (pc' := 139) (L' := [some ((.ref a0)), some (.int i1), some (.int i2), some (.int i3), some (.int i4), some (.int i5), some (.int i6), o7]) (st1 := [.int (1 : Int32)]) 1 rfl rfl rfl rfl rfl rfl H
  · replace H := H.2 (Decidable.of_not_not (of_decide_eq_false c))
    refine mm_R.wgi (pc' := 128) (L' := [some ((.ref a0)), some (.int i1), some (.int i2), some (.int i3), some (.int i4), some (.int i5), some (.int i6), o7]) (r := [.int (0 : Int32), .int s0, .int s1, (.ref a0)]) 1 rfl rfl (H.mono (fun x4 H => ?_))
    obtain ⟨hc5, H⟩ := H
    refine mm_R.cV (pc' := 135) (L' := [some ((.ref a0)), some (.int i1), some (.int i2), some (.int i3), some (.int i4), some (.int i5), some (.int i6), o7]) (st1 := [.int x4, .int (0 : Int32), .int s0, .int s1, (.ref a0)]) (as := [.int s1, .int s0, .int (0 : Int32), .int x4]) (rest := []) 1 rfl rfl (mw_sp rfl rfl (Nat.le_of_ble_eq_true rfl) (mw_ac rfl (mw_ac rfl (mw_ac rfl (mw_ac rfl (mw_ac rfl mw_an))))) mw_an) rfl rfl hc5 (H.mono (fun o hp6 H => ?_))
    obtain ⟨rfl, H⟩ := H
    exact mm_R.rt (pc' := 139) (L' := [some ((.ref a0)), some (.int i1), some (.int i2), some (.int i3), some (.int i4), some (.int i5), some (.int i6), o7]) (st1 := [.int (1 : Int32)]) 1 rfl rfl rfl rfl rfl rfl H
-- StepRunnerModel.ruled, from 153
set_option maxRecDepth 10000 in
theorem w179_153 {X : List Int32} {d : Nat} {a0 : Nat} {i1 : Int32} {i2 : Int32} {i3 : Int32} {i4 : Int32} {i5 : Int32} {i6 : Int32} {i7 : Int32} {hp : mm_H} {Q : Option Value → mm_H → Prop} (H : ((i5 ≤ i7 → mw_gi 10 39 (.ref a0) hp (fun x1 => mw_gi 10 40 (.ref a0) hp (fun x2 => mw_rc (.ref a0) 139 hp ∧ mm_R X d 139 0 (mm_L0 139 [(.ref a0), .int i4, .int (0 : Int32), .int x1, .int x2]) [] hp (mw_r0 (fun hp4 => mw_gi 10 43 (.ref a0) hp4 (fun x5 => ((x5 = (0 : Int32) → Q (some (.int (0 : Int32))) hp4) ∧ (¬ x5 = (0 : Int32) → mw_gi 10 39 (.ref a0) hp4 (fun x6 => mw_gi 10 40 (.ref a0) hp4 (fun x7 => mw_rc (.ref a0) 188 hp4 ∧ mm_R X d 188 0 (mm_L0 188 [(.ref a0), .int x6, .int x7]) [] hp4 (mw_ri (fun x10 hp9 => ((x10 = (0 : Int32) → Q (some (.int (0 : Int32))) hp9) ∧ (¬ x10 = (0 : Int32) → Q (some (.int (1 : Int32))) hp9)))))))))))))) ∧ (¬ i5 ≤ i7 → mw_rc (.ref a0) 180 hp ∧ mm_R X d 180 0 (mm_L0 180 [(.ref a0), .int i1, .int i7]) [] hp (mw_ri (fun x13 hp12 => ((¬ x13 = (36 : Int32) → mw_rc (.ref a0) 180 hp12 ∧ mm_R X d 180 0 (mm_L0 180 [(.ref a0), .int i1, .int i7]) [] hp12 (mw_ri (fun x16 hp15 => mw_rc (.ref a0) 184 hp15 ∧ mm_R X d 184 0 (mm_L0 184 [(.ref a0), .int x16]) [] hp15 (mw_r0 (fun hp18 => mm_R X (d + 1) 179 153 [some ((.ref a0)), some (.int i1), some (.int i2), some (.int i3), some (.int i4), some (.int i5), some (.int i6), some (.int (i7 + (1 : Int32)))] [] hp18 Q))))) ∧ (x13 = (36 : Int32) → mw_rc (.ref a0) 180 hp12 ∧ mm_R X d 180 0 (mm_L0 180 [(.ref a0), .int i1, .int (i7 + (1 : Int32))]) [] hp12 (mw_ri (fun x21 hp20 => ((¬ x21 = (40 : Int32) → mw_rc (.ref a0) 180 hp20 ∧ mm_R X d 180 0 (mm_L0 180 [(.ref a0), .int i1, .int i7]) [] hp20 (mw_ri (fun x24 hp23 => mw_rc (.ref a0) 184 hp23 ∧ mm_R X d 184 0 (mm_L0 184 [(.ref a0), .int x24]) [] hp23 (mw_r0 (fun hp26 => mm_R X (d + 1) 179 153 [some ((.ref a0)), some (.int i1), some (.int i2), some (.int i3), some (.int i4), some (.int i5), some (.int i6), some (.int (i7 + (1 : Int32)))] [] hp26 Q))))) ∧ (x21 = (40 : Int32) → mw_rc (.ref a0) 181 hp20 ∧ mm_R X d 181 0 (mm_L0 181 [(.ref a0), .int i1, .int i7, .int i2, .int i3]) [] hp20 (mw_ri (fun x29 hp28 => mw_gi 10 35 (.ref a0) hp28 (fun x30 => ((¬ x30 = (-2 : Int32) → mw_gi 10 35 (.ref a0) hp28 (fun x31 => ((x31 < (0 : Int32) → mw_gi 10 35 (.ref a0) hp28 (fun x32 => ((¬ x32 = (-1 : Int32) → mw_rc (.ref a0) 187 hp28 ∧ mm_R X d 187 0 (mm_L0 187 [(.ref a0)]) [] hp28 (mw_r0 (fun hp34 => mm_R X (d + 1) 179 153 [some ((.ref a0)), some (.int i1), some (.int i2), some (.int i3), some (.int i4), some (.int i5), some (.int i6), some (.int x29)] [] hp34 Q))) ∧ (x32 = (-1 : Int32) → mw_gi 10 36 (.ref a0) hp28 (fun x35 => mw_rc (.ref a0) 186 hp28 ∧ mm_R X d 186 0 (mm_L0 186 [(.ref a0), .int x35]) [] hp28 (mw_r0 (fun hp37 => mm_R X (d + 1) 179 153 [some ((.ref a0)), some (.int i1), some (.int i2), some (.int i3), some (.int i4), some (.int i5), some (.int i6), some (.int x29)] [] hp37 Q))))))) ∧ (¬ x31 < (0 : Int32) → mw_gi 10 35 (.ref a0) hp28 (fun x38 => mw_gi 10 38 (.ref a0) hp28 (fun x39 => mw_rc (.ref a0) 143 hp28 ∧ mm_R X d 143 0 (mm_L0 143 [(.ref a0), .int x39]) [] hp28 (mw_ri (fun x42 hp41 => mw_rc (.ref a0) 182 hp41 ∧ mm_R X d 182 0 (mm_L0 182 [(.ref a0), .int x38, .int x42]) [] hp41 (mw_r0 (fun hp44 => mm_R X (d + 1) 179 153 [some ((.ref a0)), some (.int i1), some (.int i2), some (.int i3), some (.int i4), some (.int i5), some (.int i6), some (.int x29)] [] hp44 Q)))))))))) ∧ (x30 = (-2 : Int32) → Q (some (.int (0 : Int32))) hp28)))))))))))))))) : mm_R X (d + 1) 179 153 [some ((.ref a0)), some (.int i1), some (.int i2), some (.int i3), some (.int i4), some (.int i5), some (.int i6), some (.int i7)] [] hp Q := by
  refine mm_R.br (L' := [some ((.ref a0)), some (.int i1), some (.int i2), some (.int i3), some (.int i4), some (.int i5), some (.int i6), some (.int i7)]) (st' := []) (t := 277) (u := 160) (b := mm_cc .ge i7 i5) 3 rfl (fun c => ?_) (fun c => ?_)
  · replace H := H.1 (of_decide_eq_true c)
    refine mm_R.wgi (pc' := 282) (L' := [some ((.ref a0)), some (.int i1), some (.int i2), some (.int i3), some (.int i4), some (.int i5), some (.int i6), some (.int i7)]) (r := [.int (0 : Int32), .int i4, (.ref a0)]) 4 rfl rfl (H.mono (fun x1 H => ?_))
    refine mm_R.wgi (pc' := 286) (L' := [some ((.ref a0)), some (.int i1), some (.int i2), some (.int i3), some (.int i4), some (.int i5), some (.int i6), some (.int i7)]) (r := [.int x1, .int (0 : Int32), .int i4, (.ref a0)]) 1 rfl rfl (H.mono (fun x2 H => ?_))
    obtain ⟨hc3, H⟩ := H
    refine mm_R.cV (pc' := 289) (L' := [some ((.ref a0)), some (.int i1), some (.int i2), some (.int i3), some (.int i4), some (.int i5), some (.int i6), some (.int i7)]) (st1 := [.int x2, .int x1, .int (0 : Int32), .int i4, (.ref a0)]) (as := [.int i4, .int (0 : Int32), .int x1, .int x2]) (rest := []) 0 rfl rfl (mw_sp rfl rfl (Nat.le_of_ble_eq_true rfl) (mw_ac rfl (mw_ac rfl (mw_ac rfl (mw_ac rfl (mw_ac rfl mw_an))))) mw_an) rfl rfl hc3 (H.mono (fun o hp4 H => ?_))
    obtain ⟨rfl, H⟩ := H
    refine mm_R.wgi (pc' := 293) (L' := [some ((.ref a0)), some (.int i1), some (.int i2), some (.int i3), some (.int i4), some (.int i5), some (.int i6), some (.int i7)]) (r := []) 1 rfl rfl (H.mono (fun x5 H => ?_))
    refine mm_R.br (L' := [some ((.ref a0)), some (.int i1), some (.int i2), some (.int i3), some (.int i4), some (.int i5), some (.int i6), some (.int i7)]) (st' := []) (t := 318) (u := 299) (b := mm_cc .eq x5 (0 : Int32)) 1 rfl (fun c => ?_) (fun c => ?_)
    · replace H := H.1 (of_decide_eq_true c)
      exact mm_R.rt (pc' := 319) (L' := [some ((.ref a0)), some (.int i1), some (.int i2), some (.int i3), some (.int i4), some (.int i5), some (.int i6), some (.int i7)]) (st1 := [.int (0 : Int32)]) 1 rfl rfl rfl rfl rfl rfl H
    · replace H := H.2 (of_decide_eq_false c)
      refine mm_R.wgi (pc' := 301) (L' := [some ((.ref a0)), some (.int i1), some (.int i2), some (.int i3), some (.int i4), some (.int i5), some (.int i6), some (.int i7)]) (r := [(.ref a0)]) 2 rfl rfl (H.mono (fun x6 H => ?_))
      refine mm_R.wgi (pc' := 305) (L' := [some ((.ref a0)), some (.int i1), some (.int i2), some (.int i3), some (.int i4), some (.int i5), some (.int i6), some (.int i7)]) (r := [.int x6, (.ref a0)]) 1 rfl rfl (H.mono (fun x7 H => ?_))
      obtain ⟨hc8, H⟩ := H
      refine mm_R.cV (pc' := 308) (L' := [some ((.ref a0)), some (.int i1), some (.int i2), some (.int i3), some (.int i4), some (.int i5), some (.int i6), some (.int i7)]) (st1 := [.int x7, .int x6, (.ref a0)]) (as := [.int x6, .int x7]) (rest := []) 0 rfl rfl (mw_sp rfl rfl (Nat.le_of_ble_eq_true rfl) (mw_ac rfl (mw_ac rfl (mw_ac rfl mw_an))) mw_an) rfl rfl hc8 (H.mono (fun o hp9 H => ?_))
      obtain ⟨x10, rfl, H⟩ := H
      refine mm_R.br (L' := [some ((.ref a0)), some (.int i1), some (.int i2), some (.int i3), some (.int i4), some (.int i5), some (.int i6), some (.int i7)]) (st' := []) (t := 318) (u := 314) (b := mm_cc .eq x10 (0 : Int32)) 1 rfl (fun c => ?_) (fun c => ?_)
      · replace H := H.1 (of_decide_eq_true c)
        exact mm_R.rt (pc' := 319) (L' := [some ((.ref a0)), some (.int i1), some (.int i2), some (.int i3), some (.int i4), some (.int i5), some (.int i6), some (.int i7)]) (st1 := [.int (0 : Int32)]) 1 rfl rfl rfl rfl rfl rfl H
      · replace H := H.2 (of_decide_eq_false c)
        exact mm_R.rt (pc' := 319) (L' := [some ((.ref a0)), some (.int i1), some (.int i2), some (.int i3), some (.int i4), some (.int i5), some (.int i6), some (.int i7)]) (st1 := [.int (1 : Int32)]) 2 rfl rfl rfl rfl rfl rfl H
  · replace H := H.2 (of_decide_eq_false c)
    obtain ⟨hc11, H⟩ := H
    refine mm_R.cV (pc' := 164) (L' := [some ((.ref a0)), some (.int i1), some (.int i2), some (.int i3), some (.int i4), some (.int i5), some (.int i6), some (.int i7)]) (st1 := [.int i7, .int i1, (.ref a0)]) (as := [.int i1, .int i7]) (rest := []) 3 rfl rfl (mw_sp rfl rfl (Nat.le_of_ble_eq_true rfl) (mw_ac rfl (mw_ac rfl (mw_ac rfl mw_an))) mw_an) rfl rfl hc11 (H.mono (fun o hp12 H => ?_))
    obtain ⟨x13, rfl, H⟩ := H
    refine mm_R.br (L' := [some ((.ref a0)), some (.int i1), some (.int i2), some (.int i3), some (.int i4), some (.int i5), some (.int i6), some (.int i7)]) (st' := []) (t := 260) (u := 172) (b := mm_cc .ne x13 (36 : Int32)) 2 rfl (fun c => ?_) (fun c => ?_)
    · replace H := H.1 (of_decide_eq_true c)
      obtain ⟨hc14, H⟩ := H
      refine mm_R.cV (pc' := 265) (L' := [some ((.ref a0)), some (.int i1), some (.int i2), some (.int i3), some (.int i4), some (.int i5), some (.int i6), some (.int i7)]) (st1 := [.int i7, .int i1, (.ref a0), (.ref a0)]) (as := [.int i1, .int i7]) (rest := [(.ref a0)]) 4 rfl rfl (mw_sp rfl rfl (Nat.le_of_ble_eq_true rfl) (mw_ac rfl (mw_ac rfl (mw_ac rfl mw_an))) (mw_ac rfl mw_an)) rfl rfl hc14 (H.mono (fun o hp15 H => ?_))
      obtain ⟨x16, rfl, H⟩ := H
      obtain ⟨hc17, H⟩ := H
      refine mm_R.cV (pc' := 268) (L' := [some ((.ref a0)), some (.int i1), some (.int i2), some (.int i3), some (.int i4), some (.int i5), some (.int i6), some (.int i7)]) (st1 := [.int x16, (.ref a0)]) (as := [.int x16]) (rest := []) 0 rfl rfl (mw_sp rfl rfl (Nat.le_of_ble_eq_true rfl) (mw_ac rfl (mw_ac rfl mw_an)) mw_an) rfl rfl hc17 (H.mono (fun o hp18 H => ?_))
      obtain ⟨rfl, H⟩ := H
      exact mm_R.pn (pc' := 153) (L' := [some ((.ref a0)), some (.int i1), some (.int i2), some (.int i3), some (.int i4), some (.int i5), some (.int i6), some (.int (i7 + (1 : Int32)))]) (st' := []) 2 rfl H
    · replace H := H.2 (Decidable.of_not_not (of_decide_eq_false c))
      obtain ⟨hc19, H⟩ := H
      refine mm_R.cV (pc' := 178) (L' := [some ((.ref a0)), some (.int i1), some (.int i2), some (.int i3), some (.int i4), some (.int i5), some (.int i6), some (.int i7)]) (st1 := [.int (i7 + (1 : Int32)), .int i1, (.ref a0)]) (as := [.int i1, .int (i7 + (1 : Int32))]) (rest := []) 5 rfl rfl (mw_sp rfl rfl (Nat.le_of_ble_eq_true rfl) (mw_ac rfl (mw_ac rfl (mw_ac rfl mw_an))) mw_an) rfl rfl hc19 (H.mono (fun o hp20 H => ?_))
      obtain ⟨x21, rfl, H⟩ := H
      refine mm_R.br (L' := [some ((.ref a0)), some (.int i1), some (.int i2), some (.int i3), some (.int i4), some (.int i5), some (.int i6), some (.int i7)]) (st' := []) (t := 260) (u := 186) (b := mm_cc .ne x21 (40 : Int32)) 2 rfl (fun c => ?_) (fun c => ?_)
      · replace H := H.1 (of_decide_eq_true c)
        obtain ⟨hc22, H⟩ := H
        refine mm_R.cV (pc' := 265) (L' := [some ((.ref a0)), some (.int i1), some (.int i2), some (.int i3), some (.int i4), some (.int i5), some (.int i6), some (.int i7)]) (st1 := [.int i7, .int i1, (.ref a0), (.ref a0)]) (as := [.int i1, .int i7]) (rest := [(.ref a0)]) 4 rfl rfl (mw_sp rfl rfl (Nat.le_of_ble_eq_true rfl) (mw_ac rfl (mw_ac rfl (mw_ac rfl mw_an))) (mw_ac rfl mw_an)) rfl rfl hc22 (H.mono (fun o hp23 H => ?_))
        obtain ⟨x24, rfl, H⟩ := H
        obtain ⟨hc25, H⟩ := H
        refine mm_R.cV (pc' := 268) (L' := [some ((.ref a0)), some (.int i1), some (.int i2), some (.int i3), some (.int i4), some (.int i5), some (.int i6), some (.int i7)]) (st1 := [.int x24, (.ref a0)]) (as := [.int x24]) (rest := []) 0 rfl rfl (mw_sp rfl rfl (Nat.le_of_ble_eq_true rfl) (mw_ac rfl (mw_ac rfl mw_an)) mw_an) rfl rfl hc25 (H.mono (fun o hp26 H => ?_))
        obtain ⟨rfl, H⟩ := H
        exact mm_R.pn (pc' := 153) (L' := [some ((.ref a0)), some (.int i1), some (.int i2), some (.int i3), some (.int i4), some (.int i5), some (.int i6), some (.int (i7 + (1 : Int32)))]) (st' := []) 2 rfl H
      · replace H := H.2 (Decidable.of_not_not (of_decide_eq_false c))
        obtain ⟨hc27, H⟩ := H
        refine mm_R.cV (pc' := 192) (L' := [some ((.ref a0)), some (.int i1), some (.int i2), some (.int i3), some (.int i4), some (.int i5), some (.int i6), some (.int i7)]) (st1 := [.int i3, .int i2, .int i7, .int i1, (.ref a0)]) (as := [.int i1, .int i7, .int i2, .int i3]) (rest := []) 5 rfl rfl (mw_sp rfl rfl (Nat.le_of_ble_eq_true rfl) (mw_ac rfl (mw_ac rfl (mw_ac rfl (mw_ac rfl (mw_ac rfl mw_an))))) mw_an) rfl rfl hc27 (H.mono (fun o hp28 H => ?_))
        obtain ⟨x29, rfl, H⟩ := H
        refine mm_R.wgi (pc' := 198) (L' := [some ((.ref a0)), some (.int i1), some (.int i2), some (.int i3), some (.int i4), some (.int i5), some (.int i6), some (.int x29)]) (r := []) 2 rfl rfl (H.mono (fun x30 H => ?_))
        refine mm_R.br (L' := [some ((.ref a0)), some (.int i1), some (.int i2), some (.int i3), some (.int i4), some (.int i5), some (.int i6), some (.int x29)]) (st' := []) (t := 208) (u := 206) (b := mm_cc .ne x30 (-2 : Int32)) 2 rfl (fun c => ?_) (fun c => ?_)
        · replace H := H.1 (of_decide_eq_true c)
          refine mm_R.wgi (pc' := 209) (L' := [some ((.ref a0)), some (.int i1), some (.int i2), some (.int i3), some (.int i4), some (.int i5), some (.int i6), some (.int x29)]) (r := []) 1 rfl rfl (H.mono (fun x31 H => ?_))
          refine mm_R.br (L' := [some ((.ref a0)), some (.int i1), some (.int i2), some (.int i3), some (.int i4), some (.int i5), some (.int i6), some (.int x29)]) (st' := []) (t := 234) (u := 215) (b := mm_cc .lt x31 (0 : Int32)) 1 rfl (fun c => ?_) (fun c => ?_)
          · replace H := H.1 (of_decide_eq_true c)
            refine mm_R.wgi (pc' := 235) (L' := [some ((.ref a0)), some (.int i1), some (.int i2), some (.int i3), some (.int i4), some (.int i5), some (.int i6), some (.int x29)]) (r := []) 1 rfl rfl (H.mono (fun x32 H => ?_))
            refine mm_R.br (L' := [some ((.ref a0)), some (.int i1), some (.int i2), some (.int i3), some (.int i4), some (.int i5), some (.int i6), some (.int x29)]) (st' := []) (t := 253) (u := 242) (b := mm_cc .ne x32 (-1 : Int32)) 2 rfl (fun c => ?_) (fun c => ?_)
            · replace H := H.1 (of_decide_eq_true c)
              obtain ⟨hc33, H⟩ := H
              refine mm_R.cV (pc' := 254) (L' := [some ((.ref a0)), some (.int i1), some (.int i2), some (.int i3), some (.int i4), some (.int i5), some (.int i6), some (.int x29)]) (st1 := [(.ref a0)]) (as := []) (rest := []) 1 rfl rfl (mw_sp rfl rfl (Nat.le_of_ble_eq_true rfl) (mw_ac rfl mw_an) mw_an) rfl rfl hc33 (H.mono (fun o hp34 H => ?_))
              obtain ⟨rfl, H⟩ := H
              exact mm_R.pn (pc' := 153) (L' := [some ((.ref a0)), some (.int i1), some (.int i2), some (.int i3), some (.int i4), some (.int i5), some (.int i6), some (.int x29)]) (st' := []) 1 rfl H
            · replace H := H.2 (Decidable.of_not_not (of_decide_eq_false c))
              refine mm_R.wgi (pc' := 244) (L' := [some ((.ref a0)), some (.int i1), some (.int i2), some (.int i3), some (.int i4), some (.int i5), some (.int i6), some (.int x29)]) (r := [(.ref a0)]) 2 rfl rfl (H.mono (fun x35 H => ?_))
              obtain ⟨hc36, H⟩ := H
              refine mm_R.cV (pc' := 247) (L' := [some ((.ref a0)), some (.int i1), some (.int i2), some (.int i3), some (.int i4), some (.int i5), some (.int i6), some (.int x29)]) (st1 := [.int x35, (.ref a0)]) (as := [.int x35]) (rest := []) 0 rfl rfl (mw_sp rfl rfl (Nat.le_of_ble_eq_true rfl) (mw_ac rfl (mw_ac rfl mw_an)) mw_an) rfl rfl hc36 (H.mono (fun o hp37 H => ?_))
              obtain ⟨rfl, H⟩ := H
              exact mm_R.pn (pc' := 153) (L' := [some ((.ref a0)), some (.int i1), some (.int i2), some (.int i3), some (.int i4), some (.int i5), some (.int i6), some (.int x29)]) (st' := []) 1 rfl H
          · replace H := H.2 (of_decide_eq_false c)
            refine mm_R.wgi (pc' := 217) (L' := [some ((.ref a0)), some (.int i1), some (.int i2), some (.int i3), some (.int i4), some (.int i5), some (.int i6), some (.int x29)]) (r := [(.ref a0)]) 2 rfl rfl (H.mono (fun x38 H => ?_))
            refine mm_R.wgi (pc' := 222) (L' := [some ((.ref a0)), some (.int i1), some (.int i2), some (.int i3), some (.int i4), some (.int i5), some (.int i6), some (.int x29)]) (r := [(.ref a0), .int x38, (.ref a0)]) 2 rfl rfl (H.mono (fun x39 H => ?_))
            obtain ⟨hc40, H⟩ := H
            refine mm_R.cV (pc' := 225) (L' := [some ((.ref a0)), some (.int i1), some (.int i2), some (.int i3), some (.int i4), some (.int i5), some (.int i6), some (.int x29)]) (st1 := [.int x39, (.ref a0), .int x38, (.ref a0)]) (as := [.int x39]) (rest := [.int x38, (.ref a0)]) 0 rfl rfl (mw_sp rfl rfl (Nat.le_of_ble_eq_true rfl) (mw_ac rfl (mw_ac rfl mw_an)) (mw_ac rfl (mw_ac rfl mw_an))) rfl rfl hc40 (H.mono (fun o hp41 H => ?_))
            obtain ⟨x42, rfl, H⟩ := H
            obtain ⟨hc43, H⟩ := H
            refine mm_R.cV (pc' := 228) (L' := [some ((.ref a0)), some (.int i1), some (.int i2), some (.int i3), some (.int i4), some (.int i5), some (.int i6), some (.int x29)]) (st1 := [.int x42, .int x38, (.ref a0)]) (as := [.int x38, .int x42]) (rest := []) 0 rfl rfl (mw_sp rfl rfl (Nat.le_of_ble_eq_true rfl) (mw_ac rfl (mw_ac rfl (mw_ac rfl mw_an))) mw_an) rfl rfl hc43 (H.mono (fun o hp44 H => ?_))
            obtain ⟨rfl, H⟩ := H
            exact mm_R.pn (pc' := 153) (L' := [some ((.ref a0)), some (.int i1), some (.int i2), some (.int i3), some (.int i4), some (.int i5), some (.int i6), some (.int x29)]) (st' := []) 1 rfl H
        · replace H := H.2 (Decidable.of_not_not (of_decide_eq_false c))
          exact mm_R.rt (pc' := 207) (L' := [some ((.ref a0)), some (.int i1), some (.int i2), some (.int i3), some (.int i4), some (.int i5), some (.int i6), some (.int x29)]) (st1 := [.int (0 : Int32)]) 1 rfl rfl rfl rfl rfl rfl H
