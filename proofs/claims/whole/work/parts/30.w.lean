-- StepRunner$Draft.add, from 0
set_option maxRecDepth 10000 in
theorem w13_0 {X : List Int32} {d : Nat} {a0 : Nat} {i1 : Int32} {hp : mm_H} {Q : Option Value → mm_H → Prop} (H : mm_R X d 14 0 (mm_L0 14 [.int i1]) [] hp (mw_ri (fun x2 hp1 => ((x2 = 0 → Q (some (.int 0)) hp1) ∧ (¬ x2 = 0 → mw_gi 1 1 (.ref a0) hp1 (fun x3 => mw_gv 1 0 (.ref a0) hp1 (fun v4 => mw_ln v4 hp1 (fun x5 => ((x3 < x5 → mw_gv 1 0 (.ref a0) hp1 (fun v6 => mw_gi 1 1 (.ref a0) hp1 (fun x7 => mw_si 1001 .char v6 x7 i1 hp1 (fun hp8 => mw_gi 1 1 (.ref a0) hp8 (fun x9 => mw_pt 1 1 (.ref a0) (.int (x9 + 1)) hp8 (fun hp10 => Q (some (.int 1)) hp10)))))) ∧ (¬ x3 < x5 → Q (some (.int 0)) hp1)))))))))) : mm_R X (d + 1) 13 0 (mm_L0 13 [(.ref a0), .int i1]) [] hp Q := by
  show mm_R X (d + 1) 13 0 [some ((.ref a0)), some (.int i1)] [] hp Q
  refine mm_R.cS 1 rfl rfl (mw_sp rfl rfl (Nat.le_of_ble_eq_true rfl) (mw_ac rfl mw_an) mw_an) rfl rfl (H.mono (fun o hp1 H => ?_))
  obtain ⟨x2, rfl, H⟩ := H
  refine mm_R.br 1 rfl (fun c => ?_) (fun c => ?_)
  · replace H := H.1 (of_decide_eq_true c)
    exact mm_R.rt 1 rfl rfl rfl rfl rfl rfl H
  · replace H := H.2 (of_decide_eq_false c)
    refine mm_R.wgi 1 rfl rfl (H.mono (fun x3 H => ?_))
    refine mm_R.wgv 1 rfl rfl (H.mono (fun v4 H => ?_))
    refine mm_R.wln 0 rfl rfl (H.mono (fun x5 H => ?_))
    refine mm_R.br 1 rfl (fun c => ?_) (fun c => ?_)
    · replace H := H.1 (of_decide_eq_true c)
      refine mm_R.wgv 1 rfl rfl (H.mono (fun v6 H => ?_))
      refine mm_R.wgi 1 rfl rfl (H.mono (fun x7 H => ?_))
      refine mm_R.wsi (t := 1001) (ty := .char) 1 rfl rfl rfl rfl (H.mono (fun hp8 H => ?_))
      refine mm_R.wgi 2 rfl rfl (H.mono (fun x9 H => ?_))
      refine mm_R.wpt 2 rfl rfl (H.mono (fun hp10 H => ?_))
      exact mm_R.rt 1 rfl rfl rfl rfl rfl rfl H
    · replace H := H.2 (of_decide_eq_false c)
      exact mm_R.rt 1 rfl rfl rfl rfl rfl rfl H
-- StepRunner$Value.addLetter, from 0
set_option maxRecDepth 10000 in
theorem w34_0 {X : List Int32} {d : Nat} {a0 : Nat} {i1 : Int32} {hp : mm_H} {Q : Option Value → mm_H → Prop} (H : mw_gi 2 2 (.ref a0) hp (fun x1 => ((¬ x1 = 2 → Q (some (.int 0)) hp) ∧ (x1 = 2 → mw_gv 2 0 (.ref a0) hp (fun v2 => mw_nl v2 (Q (some (.int 0)) hp) (mw_gi 2 4 (.ref a0) hp (fun x3 => ((24 ≤ x3 → Q (some (.int 0)) hp) ∧ (¬ 24 ≤ x3 → mw_gi 2 6 (.ref a0) hp (fun x4 => mw_gv 2 0 (.ref a0) hp (fun v5 => mw_ln v5 hp (fun x6 => ((x4 < x6 → mw_gi 2 6 (.ref a0) hp (fun x7 => ((x7 < 2 → Q (some (.int 0)) hp) ∧ (¬ x7 < 2 → ((i1 < 32 → Q (some (.int 0)) hp) ∧ (¬ i1 < 32 → ((126 < i1 → Q (some (.int 0)) hp) ∧ (¬ 126 < i1 → ((i1 = 34 → Q (some (.int 0)) hp) ∧ (¬ i1 = 34 → ((¬ i1 = 92 → mw_gv 2 0 (.ref a0) hp (fun v8 => mw_gi 2 6 (.ref a0) hp (fun x9 => mw_si 1001 .char v8 (x9 - 1) i1 hp (fun hp10 => mw_gv 2 0 (.ref a0) hp10 (fun v11 => mw_gi 2 6 (.ref a0) hp10 (fun x12 => mw_si 1001 .char v11 x12 34 hp10 (fun hp13 => mw_gi 2 6 (.ref a0) hp13 (fun x14 => mw_pt 2 6 (.ref a0) (.int (x14 + 1)) hp13 (fun hp15 => mw_gi 2 4 (.ref a0) hp15 (fun x16 => mw_pt 2 4 (.ref a0) (.int (x16 + 1)) hp15 (fun hp17 => Q (some (.int 1)) hp17))))))))))) ∧ (i1 = 92 → Q (some (.int 0)) hp)))))))))))) ∧ (¬ x4 < x6 → Q (some (.int 0)) hp)))))))))))))) : mm_R X (d + 1) 34 0 (mm_L0 34 [(.ref a0), .int i1]) [] hp Q := by
  show mm_R X (d + 1) 34 0 [some ((.ref a0)), some (.int i1)] [] hp Q
  refine mm_R.wgi 1 rfl rfl (H.mono (fun x1 H => ?_))
  refine mm_R.br 2 rfl (fun c => ?_) (fun c => ?_)
  · replace H := H.1 (of_decide_eq_true c)
    exact mm_R.rt 1 rfl rfl rfl rfl rfl rfl H
  · replace H := H.2 (Decidable.of_not_not (of_decide_eq_false c))
    refine mm_R.wgv 1 rfl rfl (H.mono (fun v2 H => ?_))
    refine mm_R.wnl 0 rfl rfl rfl (H.mono (fun H => ?_) (fun H => ?_))
    · exact mm_R.rt 1 rfl rfl rfl rfl rfl rfl H
    · refine mm_R.wgi 1 rfl rfl (H.mono (fun x3 H => ?_))
      refine mm_R.br 2 rfl (fun c => ?_) (fun c => ?_)
      · replace H := H.1 (of_decide_eq_true c)
        exact mm_R.rt 1 rfl rfl rfl rfl rfl rfl H
      · replace H := H.2 (of_decide_eq_false c)
        refine mm_R.wgi 1 rfl rfl (H.mono (fun x4 H => ?_))
        refine mm_R.wgv 1 rfl rfl (H.mono (fun v5 H => ?_))
        refine mm_R.wln 0 rfl rfl (H.mono (fun x6 H => ?_))
        refine mm_R.br 1 rfl (fun c => ?_) (fun c => ?_)
        · replace H := H.1 (of_decide_eq_true c)
          refine mm_R.wgi 1 rfl rfl (H.mono (fun x7 H => ?_))
          refine mm_R.br 2 rfl (fun c => ?_) (fun c => ?_)
          · replace H := H.1 (of_decide_eq_true c)
            exact mm_R.rt 1 rfl rfl rfl rfl rfl rfl H
          · replace H := H.2 (of_decide_eq_false c)
            refine mm_R.br 3 rfl (fun c => ?_) (fun c => ?_)
            · replace H := H.1 (of_decide_eq_true c)
              exact mm_R.rt 1 rfl rfl rfl rfl rfl rfl H
            · replace H := H.2 (of_decide_eq_false c)
              refine mm_R.br 3 rfl (fun c => ?_) (fun c => ?_)
              · replace H := H.1 (of_decide_eq_true c)
                exact mm_R.rt 1 rfl rfl rfl rfl rfl rfl H
              · replace H := H.2 (of_decide_eq_false c)
                refine mm_R.br 3 rfl (fun c => ?_) (fun c => ?_)
                · replace H := H.1 (of_decide_eq_true c)
                  exact mm_R.rt 1 rfl rfl rfl rfl rfl rfl H
                · replace H := H.2 (of_decide_eq_false c)
                  refine mm_R.br 3 rfl (fun c => ?_) (fun c => ?_)
                  · replace H := H.1 (of_decide_eq_true c)
                    refine mm_R.wgv 1 rfl rfl (H.mono (fun v8 H => ?_))
                    refine mm_R.wgi 1 rfl rfl (H.mono (fun x9 H => ?_))
                    refine mm_R.wsi (t := 1001) (ty := .char) 3 rfl rfl rfl rfl (H.mono (fun hp10 H => ?_))
                    refine mm_R.wgv 1 rfl rfl (H.mono (fun v11 H => ?_))
                    refine mm_R.wgi 1 rfl rfl (H.mono (fun x12 H => ?_))
                    refine mm_R.wsi (t := 1001) (ty := .char) 1 rfl rfl rfl rfl (H.mono (fun hp13 H => ?_))
                    refine mm_R.wgi 2 rfl rfl (H.mono (fun x14 H => ?_))
                    refine mm_R.wpt 2 rfl rfl (H.mono (fun hp15 H => ?_))
                    refine mm_R.wgi 2 rfl rfl (H.mono (fun x16 H => ?_))
                    refine mm_R.wpt 2 rfl rfl (H.mono (fun hp17 H => ?_))
                    exact mm_R.rt 1 rfl rfl rfl rfl rfl rfl H
                  · replace H := H.2 (Decidable.of_not_not (of_decide_eq_false c))
                    exact mm_R.rt 1 rfl rfl rfl rfl rfl rfl H
        · replace H := H.2 (of_decide_eq_false c)
          exact mm_R.rt 1 rfl rfl rfl rfl rfl rfl H
-- StepRunner$Job.makeResult, from 0
set_option maxRecDepth 10000 in
theorem w101_0 {X : List Int32} {d : Nat} {a0 : Nat} {i1 : Int32} {hp : mm_H} {Q : Option Value → mm_H → Prop} (H : (((i1.toInt < 0 ∨ 3 < i1.toInt) → Q (some .null) hp) ∧ (i1.toInt = 0 → mw_rc (.ref a0) 102 hp ∧ mm_R X d 102 0 (mm_L0 102 [(.ref a0)]) [] hp (mw_rv (fun v3 hp2 => mw_nr v3 ∧ Q (some v3) hp2))) ∧ (i1.toInt = 1 → mw_gi 9 4 (.ref a0) hp (fun x4 => mm_R X d 39 0 (mm_L0 39 [.int x4]) [] hp (mw_rv (fun v6 hp5 => mw_nr v6 ∧ Q (some v6) hp5)))) ∧ (i1.toInt = 2 → mw_rc (.ref a0) 106 hp ∧ mm_R X d 106 0 (mm_L0 106 [(.ref a0)]) [] hp (mw_rv (fun v9 hp8 => mw_nr v9 ∧ Q (some v9) hp8))) ∧ (i1.toInt = 3 → mw_rc (.ref a0) 107 hp ∧ mm_R X d 107 0 (mm_L0 107 [(.ref a0)]) [] hp (mw_rv (fun v12 hp11 => mw_nr v12 ∧ Q (some v12) hp11))))) : mm_R X (d + 1) 101 0 (mm_L0 101 [(.ref a0), .int i1]) [] hp Q := by
  show mm_R X (d + 1) 101 0 [some ((.ref a0)), some (.int i1)] [] hp Q
  by_cases c : i1.toInt < 0 ∨ 3 < i1.toInt
  · refine mm_R.swD 1 rfl rfl c rfl ?_
    replace H := H.1 c
    exact mm_R.rt 1 rfl rfl rfl rfl rfl rfl H
  · replace H := H.2
    have c2 : i1.toInt = 0 ∨ i1.toInt = 1 ∨ i1.toInt = 2 ∨ i1.toInt = 3 := by omega
    rcases c2 with c2 | c2 | c2 | c2
    · refine mm_R.swI 1 rfl rfl c (i := 0) c2 rfl rfl ?_
      replace H := H.1 c2
      obtain ⟨hc1, H⟩ := H
      refine mm_R.cV 1 rfl rfl (mw_sp rfl rfl (Nat.le_of_ble_eq_true rfl) (mw_ac rfl mw_an) mw_an) rfl rfl hc1 (H.mono (fun o hp2 H => ?_))
      obtain ⟨v3, rfl, H⟩ := H
      exact mm_R.rt 0 rfl rfl rfl rfl rfl (mw_rva (ty := (.object "StepRunner$Value")) H.1 rfl) H.2
    · refine mm_R.swI 1 rfl rfl c (i := 1) c2 rfl rfl ?_
      replace H := H.2.1 c2
      refine mm_R.wgi 1 rfl rfl (H.mono (fun x4 H => ?_))
      refine mm_R.cS 0 rfl rfl (mw_sp rfl rfl (Nat.le_of_ble_eq_true rfl) (mw_ac rfl mw_an) mw_an) rfl rfl (H.mono (fun o hp5 H => ?_))
      obtain ⟨v6, rfl, H⟩ := H
      exact mm_R.rt 0 rfl rfl rfl rfl rfl (mw_rva (ty := (.object "StepRunner$Value")) H.1 rfl) H.2
    · refine mm_R.swI 1 rfl rfl c (i := 2) c2 rfl rfl ?_
      replace H := H.2.2.1 c2
      obtain ⟨hc7, H⟩ := H
      refine mm_R.cV 1 rfl rfl (mw_sp rfl rfl (Nat.le_of_ble_eq_true rfl) (mw_ac rfl mw_an) mw_an) rfl rfl hc7 (H.mono (fun o hp8 H => ?_))
      obtain ⟨v9, rfl, H⟩ := H
      exact mm_R.rt 0 rfl rfl rfl rfl rfl (mw_rva (ty := (.object "StepRunner$Value")) H.1 rfl) H.2
    · refine mm_R.swI 1 rfl rfl c (i := 3) c2 rfl rfl ?_
      replace H := H.2.2.2 c2
      obtain ⟨hc10, H⟩ := H
      refine mm_R.cV 1 rfl rfl (mw_sp rfl rfl (Nat.le_of_ble_eq_true rfl) (mw_ac rfl mw_an) mw_an) rfl rfl hc10 (H.mono (fun o hp11 H => ?_))
      obtain ⟨v12, rfl, H⟩ := H
      exact mm_R.rt 0 rfl rfl rfl rfl rfl (mw_rva (ty := (.object "StepRunner$Value")) H.1 rfl) H.2
-- StepRunner$Rule.stands, from 0
set_option maxRecDepth 10000 in
theorem w45_0 {X : List Int32} {d : Nat} {r0 : Value} {r1 : Value} {i2 : Int32} {i3 : Int32} {hp : mm_H} {Q : Option Value → mm_H → Prop} (H : ((i2 < 0 → Q (some (.int 0)) hp) ∧ (¬ i2 < 0 → mm_isr r1 = true ∧ mw_ln r1 hp (fun x2 => ((x2 < i3 → Q (some (.int 0)) hp) ∧ (¬ x2 < i3 → mm_isr r0 = true ∧ mw_tl r0 d (fun x4 => ((x4 ≤ (i3 - i2) → mm_R X (d + 1) 45 25 [some (r0), some (r1), some (.int i2), some (.int i3), some (.int 0)] [] hp Q) ∧ (¬ x4 ≤ (i3 - i2) → Q (some (.int 0)) hp))))))))) : mm_R X (d + 1) 45 0 (mm_L0 45 [r0, r1, .int i2, .int i3]) [] hp Q := by
  show mm_R X (d + 1) 45 0 [some (r0), some (r1), some (.int i2), some (.int i3), none] [] hp Q
  refine mm_R.br 2 rfl (fun c => ?_) (fun c => ?_)
  · replace H := H.1 (of_decide_eq_true c)
    exact mm_R.rt 1 rfl rfl rfl rfl rfl rfl H
  · replace H := H.2 (of_decide_eq_false c)
    obtain ⟨hr1, H⟩ := H
    refine mm_R.al 1 rfl rfl rfl rfl hr1 ?_
    refine mm_R.wln 0 rfl rfl (H.mono (fun x2 H => ?_))
    refine mm_R.br 1 rfl (fun c => ?_) (fun c => ?_)
    · replace H := H.1 (of_decide_eq_true c)
      exact mm_R.rt 1 rfl rfl rfl rfl rfl rfl H
    · replace H := H.2 (of_decide_eq_false c)
      obtain ⟨hr3, H⟩ := H
      refine mm_R.al 0 rfl rfl rfl rfl hr3 ?_
      refine mm_R.cTl 0 rfl rfl rfl mw_an (H.mono (fun x4 H => ?_))
      refine mm_R.br 4 rfl (fun c => ?_) (fun c => ?_)
      · replace H := H.1 (of_decide_eq_true c)
        exact mm_R.pn 2 rfl H
      · replace H := H.2 (of_decide_eq_false c)
        exact mm_R.rt 1 rfl rfl rfl rfl rfl rfl H
-- StepRunner$Rule.stands, from 25
set_option maxRecDepth 10000 in
theorem w45_25 {X : List Int32} {d : Nat} {r0 : Value} {r1 : Value} {i2 : Int32} {i3 : Int32} {i4 : Int32} {hp : mm_H} {Q : Option Value → mm_H → Prop} (H : mm_isr r0 = true ∧ mw_tl r0 d (fun x2 => ((x2 ≤ i4 → Q (some (.int 1)) hp) ∧ (¬ x2 ≤ i4 → mm_isr r1 = true ∧ mw_ai 1001 r1 (i2 + i4) hp (fun x4 => mw_tc r0 i4 d (fun x5 => ((x4 = x5 → mm_R X (d + 1) 45 25 [some (r0), some (r1), some (.int i2), some (.int i3), some (.int (i4 + 1))] [] hp Q) ∧ (¬ x4 = x5 → Q (some (.int 0)) hp)))))))) : mm_R X (d + 1) 45 25 [some (r0), some (r1), some (.int i2), some (.int i3), some (.int i4)] [] hp Q := by
  obtain ⟨hr1, H⟩ := H
  refine mm_R.al 1 rfl rfl rfl rfl hr1 ?_
  refine mm_R.cTl 0 rfl rfl rfl (mw_ac rfl mw_an) (H.mono (fun x2 H => ?_))
  refine mm_R.br 1 rfl (fun c => ?_) (fun c => ?_)
  · replace H := H.1 (of_decide_eq_true c)
    exact mm_R.rt 1 rfl rfl rfl rfl rfl rfl H
  · replace H := H.2 (of_decide_eq_false c)
    obtain ⟨hr3, H⟩ := H
    refine mm_R.al 0 rfl rfl rfl rfl hr3 ?_
    refine mm_R.wai (t := 1001) 3 rfl rfl rfl rfl (H.mono (fun x4 H => ?_))
    refine mm_R.al 0 rfl rfl rfl rfl hr1 ?_
    refine mm_R.cTc 1 rfl rfl rfl (mw_ac rfl mw_an) (H.mono (fun x5 H => ?_))
    refine mm_R.br 1 rfl (fun c => ?_) (fun c => ?_)
    · replace H := H.1 (of_decide_eq_true c)
      exact mm_R.pn 2 rfl H
    · replace H := H.2 (of_decide_eq_false c)
      exact mm_R.rt 1 rfl rfl rfl rfl rfl rfl H
-- StepRunner$Expander.chooseElements, from 0
set_option maxRecDepth 10000 in
theorem w74_0 {X : List Int32} {d : Nat} {a0 : Nat} {r1 : Value} {i2 : Int32} {hp : mm_H} {Q : Option Value → mm_H → Prop} (H : mm_isr r1 = true ∧ mw_rc r1 71 hp ∧ mm_R X d 71 0 (mm_L0 71 [r1]) [] hp (mw_ri (fun x4 hp3 => mw_gi 7 9 r1 hp3 (fun x5 => ((x5 = 0 → mm_R X (d + 1) 74 25 [some ((.ref a0)), some (r1), some (.int i2), some (.int x4), some (.int 0), some (.int i2), some (.int 3), none, none] [] hp3 Q) ∧ (¬ x5 = 0 → mm_R X (d + 1) 74 25 [some ((.ref a0)), some (r1), some (.int i2), some (.int x4), some (.int 1), some (.int i2), some (.int 3), none, none] [] hp3 Q)))))) : mm_R X (d + 1) 74 0 (mm_L0 74 [(.ref a0), r1, .int i2]) [] hp Q := by
  show mm_R X (d + 1) 74 0 [some ((.ref a0)), some (r1), some (.int i2), none, none, none, none, none, none] [] hp Q
  obtain ⟨hr1, H⟩ := H
  refine mm_R.al 0 rfl rfl rfl rfl hr1 ?_
  obtain ⟨hc2, H⟩ := H
  refine mm_R.cV 0 rfl rfl (mw_sp rfl rfl (Nat.le_of_ble_eq_true rfl) (mw_ac (mw_c1 hc2.isr) mw_an) mw_an) rfl rfl hc2 (H.mono (fun o hp3 H => ?_))
  obtain ⟨x4, rfl, H⟩ := H
  refine mm_R.al 1 rfl rfl rfl rfl hc2.isr ?_
  refine mm_R.wgi 0 rfl rfl (H.mono (fun x5 H => ?_))
  refine mm_R.br 1 rfl (fun c => ?_) (fun c => ?_)
  · replace H := H.1 (of_decide_eq_true c)
    exact mm_R.pn 6 rfl H
  · replace H := H.2 (of_decide_eq_false c)
    exact mm_R.pn 7 rfl H
-- StepRunner$Expander.chooseElements, from 25
set_option maxRecDepth 10000 in
theorem w74_25 {X : List Int32} {d : Nat} {a0 : Nat} {r1 : Value} {i2 : Int32} {i3 : Int32} {i4 : Int32} {i5 : Int32} {i6 : Int32} {o7 : Option Value} {o8 : Option Value} {hp : mm_H} {Q : Option Value → mm_H → Prop} (H : ((i6 < 0 → Q none hp) ∧ (¬ i6 < 0 → mw_gv 4 7 (.ref a0) hp (fun v1 => mw_av v1 i6 hp (fun v2 => mm_isr v2 = true ∧ mw_gv 4 8 (.ref a0) hp (fun v4 => mw_sv v4 i6 v2 hp (fun hp5 => mm_R X d 72 0 (mm_L0 72 [.int i3, .int i6]) [] hp5 (mw_ri (fun x7 hp6 => ((x7 = 0 → mm_R X (d + 1) 74 25 [some ((.ref a0)), some (r1), some (.int i2), some (.int i3), some (.int i4), some (.int i5), some (.int (i6 + (-1))), some (v2), o8] [] hp6 Q) ∧ (¬ x7 = 0 → mw_gi 2 4 v2 hp6 (fun x8 => ((x8 ≤ 0 → mm_R X (d + 1) 74 25 [some ((.ref a0)), some (r1), some (.int i2), some (.int i3), some (.int i4), some (.int i5), some (.int (i6 + (-1))), some (v2), o8] [] hp6 Q) ∧ (¬ x8 ≤ 0 → ((i4 = 0 → mm_R X (d + 1) 74 84 [some ((.ref a0)), some (r1), some (.int i2), some (.int i3), some (.int i4), some (.int i5), some (.int i6), some (v2), o8] [.int i2, v2] hp6 Q) ∧ (¬ i4 = 0 → mw_gi 2 4 v2 hp6 (fun x9 => ¬ x9 = 0 ∧ (mm_R X (d + 1) 74 84 [some ((.ref a0)), some (r1), some (.int i2), some (.int i3), some (.int i4), some (.int i5), some (.int i6), some (v2), o8] [.int (i5 - i5 / x9 * x9), v2] hp6 Q)))))))))))))))))) : mm_R X (d + 1) 74 25 [some ((.ref a0)), some (r1), some (.int i2), some (.int i3), some (.int i4), some (.int i5), some (.int i6), o7, o8] [] hp Q := by
  refine mm_R.br 2 rfl (fun c => ?_) (fun c => ?_)
  · replace H := H.1 (of_decide_eq_true c)
    exact mm_R.rt 0 rfl rfl rfl rfl rfl rfl H
  · replace H := H.2 (of_decide_eq_false c)
    refine mm_R.wgv 1 rfl rfl (H.mono (fun v1 H => ?_))
    refine mm_R.wav 1 rfl rfl (H.mono (fun v2 H => ?_))
    obtain ⟨hr3, H⟩ := H
    refine mm_R.as 0 rfl rfl rfl rfl hr3 ?_
    refine mm_R.wgv 1 rfl rfl (H.mono (fun v4 H => ?_))
    refine mm_R.al 1 rfl rfl rfl rfl hr3 ?_
    refine mm_R.wsv 0 rfl rfl (H.mono (fun hp5 H => ?_))
    refine mm_R.cS 2 rfl rfl (mw_sp rfl rfl (Nat.le_of_ble_eq_true rfl) (mw_ac rfl (mw_ac rfl mw_an)) mw_an) rfl rfl (H.mono (fun o hp6 H => ?_))
    obtain ⟨x7, rfl, H⟩ := H
    refine mm_R.br 1 rfl (fun c => ?_) (fun c => ?_)
    · replace H := H.1 (of_decide_eq_true c)
      exact mm_R.pn 2 rfl H
    · replace H := H.2 (of_decide_eq_false c)
      refine mm_R.al 0 rfl rfl rfl rfl hr3 ?_
      refine mm_R.wgi 0 rfl rfl (H.mono (fun x8 H => ?_))
      refine mm_R.br 1 rfl (fun c => ?_) (fun c => ?_)
      · replace H := H.1 (of_decide_eq_true c)
        exact mm_R.pn 2 rfl H
      · replace H := H.2 (of_decide_eq_false c)
        refine mm_R.al 0 rfl rfl rfl rfl hr3 ?_
        refine mm_R.br 2 rfl (fun c => ?_) (fun c => ?_)
        · replace H := H.1 (of_decide_eq_true c)
          exact mm_R.pn 1 rfl H
        · replace H := H.2 (of_decide_eq_false c)
          refine mm_R.al 1 rfl rfl rfl rfl hr3 ?_
          refine mm_R.wgi 0 rfl rfl (H.mono (fun x9 H => ?_))
          obtain ⟨hz10, H⟩ := H
          refine mm_R.dv 0 rfl rfl rfl hz10 ?_
          exact mm_R.pn 1 rfl H
-- StepRunner$Expander.chooseElements, from 84
set_option maxRecDepth 10000 in
theorem w74_84 {X : List Int32} {d : Nat} {a0 : Nat} {r1 : Value} {i2 : Int32} {i3 : Int32} {i4 : Int32} {i5 : Int32} {i6 : Int32} {r7 : Value} {o8 : Option Value} {s0 : Int32} {s1 : Value} {hp : mm_H} {Q : Option Value → mm_H → Prop} (H : mw_rc s1 67 hp ∧ mm_R X d 67 0 (mm_L0 67 [s1, .int s0]) [] hp (mw_rv (fun v3 hp2 => mm_isr v3 = true ∧ mw_gv 4 8 (.ref a0) hp2 (fun v5 => mw_nl v3 (mw_gv 4 0 (.ref a0) hp2 (fun v6 => mw_sv v5 i6 v6 hp2 (fun hp7 => mm_isr r7 = true ∧ mw_gi 2 4 r7 hp7 (fun x9 => ¬ x9 = 0 ∧ (mm_R X (d + 1) 74 25 [some ((.ref a0)), some (r1), some (.int i2), some (.int i3), some (.int i4), some (.int (i5 / x9)), some (.int (i6 + (-1))), some (r7), some (v3)] [] hp7 Q))))) (mw_sv v5 i6 v3 hp2 (fun hp11 => mm_isr r7 = true ∧ mw_gi 2 4 r7 hp11 (fun x13 => ¬ x13 = 0 ∧ (mm_R X (d + 1) 74 25 [some ((.ref a0)), some (r1), some (.int i2), some (.int i3), some (.int i4), some (.int (i5 / x13)), some (.int (i6 + (-1))), some (r7), some (v3)] [] hp11 Q)))))))) : mm_R X (d + 1) 74 84 [some ((.ref a0)), some (r1), some (.int i2), some (.int i3), some (.int i4), some (.int i5), some (.int i6), some (r7), o8] [.int s0, s1] hp Q := by
  obtain ⟨hc1, H⟩ := H
  refine mm_R.cV 0 rfl rfl (mw_sp rfl rfl (Nat.le_of_ble_eq_true rfl) (mw_ac (mw_c1 hc1.isr) (mw_ac rfl mw_an)) mw_an) rfl rfl hc1 (H.mono (fun o hp2 H => ?_))
  obtain ⟨v3, rfl, H⟩ := H
  obtain ⟨hr4, H⟩ := H
  refine mm_R.as 0 rfl rfl rfl rfl hr4 ?_
  refine mm_R.wgv 1 rfl rfl (H.mono (fun v5 H => ?_))
  refine mm_R.al 1 rfl rfl rfl rfl hr4 ?_
  refine mm_R.wnl 0 rfl rfl rfl (H.mono (fun H => ?_) (fun H => ?_))
  · refine mm_R.wgv 1 rfl rfl (H.mono (fun v6 H => ?_))
    refine mm_R.wsv 1 rfl rfl (H.mono (fun hp7 H => ?_))
    obtain ⟨hr8, H⟩ := H
    refine mm_R.al 1 rfl rfl rfl rfl hr8 ?_
    refine mm_R.wgi 0 rfl rfl (H.mono (fun x9 H => ?_))
    obtain ⟨hz10, H⟩ := H
    refine mm_R.dv 0 rfl rfl rfl hz10 ?_
    exact mm_R.pn 3 rfl H
  · refine mm_R.al 0 rfl rfl rfl rfl hr4 ?_
    refine mm_R.wsv 0 rfl rfl (H.mono (fun hp11 H => ?_))
    obtain ⟨hr12, H⟩ := H
    refine mm_R.al 1 rfl rfl rfl rfl hr12 ?_
    refine mm_R.wgi 0 rfl rfl (H.mono (fun x13 H => ?_))
    obtain ⟨hz14, H⟩ := H
    refine mm_R.dv 0 rfl rfl rfl hz14 ?_
    exact mm_R.pn 3 rfl H
-- StepRunner$Value.emptyList, from 0
set_option maxRecDepth 10000 in
theorem w9_0 {X : List Int32} {d : Nat} {i0 : Int32} {hp : mm_H} {Q : Option Value → mm_H → Prop} (H : (∀ q1 hp2, q1 = hp.length → hp2 = hp ++ [(2, mm_df 2)] → mm_R X d 3 0 (mm_L0 3 [(.ref q1), .int 0, .int (if 0 < (if 8 < i0 then 8 else i0) then (if 8 < i0 then 8 else i0) else 0)]) [] hp2 (mw_r0 (fun hp3 => mw_rc (.ref q1) 10 hp3 ∧ mm_R X d 10 0 (mm_L0 10 [(.ref q1)]) [] hp3 (mw_r0 (fun hp5 => Q (some (.ref q1)) hp5)))))) : mm_R X (d + 1) 9 0 (mm_L0 9 [.int i0]) [] hp Q := by
  show mm_R X (d + 1) 9 0 [some (.int i0), none] [] hp Q
  refine mm_R.new 0 rfl rfl ?_
  replace H := H _ _ rfl rfl
  refine mm_R.cP (o := some (.int (if 8 < i0 then 8 else i0))) 5 rfl rfl rfl rfl rfl (mw_sp rfl rfl (Nat.le_of_ble_eq_true rfl) (mw_ac rfl (mw_ac rfl mw_an)) (mw_ac rfl (mw_ac rfl (mw_ac rfl (mw_ac rfl mw_an))))) rfl rfl ?_
  refine mm_R.cP (o := some (.int (if 0 < (if 8 < i0 then 8 else i0) then (if 8 < i0 then 8 else i0) else 0))) 0 rfl rfl rfl rfl rfl (mw_sp rfl rfl (Nat.le_of_ble_eq_true rfl) (mw_ac rfl (mw_ac rfl mw_an)) (mw_ac rfl (mw_ac rfl (mw_ac rfl mw_an)))) rfl rfl ?_
  refine mm_R.cI 0 rfl rfl (mw_sp rfl rfl (Nat.le_of_ble_eq_true rfl) (mw_ac rfl (mw_ac rfl (mw_ac rfl mw_an))) (mw_ac rfl mw_an)) rfl rfl rfl (H.mono (fun o hp3 H => ?_))
  obtain ⟨rfl, H⟩ := H
  obtain ⟨hc4, H⟩ := H
  refine mm_R.cV 2 rfl rfl (mw_sp rfl rfl (Nat.le_of_ble_eq_true rfl) (mw_ac rfl mw_an) mw_an) rfl rfl hc4 (H.mono (fun o hp5 H => ?_))
  obtain ⟨rfl, H⟩ := H
  exact mm_R.rt 1 rfl rfl rfl rfl rfl rfl H
-- StepRunner.isPrintable, from 0
set_option maxRecDepth 10000 in
theorem w14_0 {X : List Int32} {d : Nat} {i0 : Int32} {hp : mm_H} {Q : Option Value → mm_H → Prop} (H : ((i0 < 32 → Q (some (.int 0)) hp) ∧ (¬ i0 < 32 → ((126 < i0 → Q (some (.int 0)) hp) ∧ (¬ 126 < i0 → Q (some (.int 1)) hp))))) : mm_R X (d + 1) 14 0 (mm_L0 14 [.int i0]) [] hp Q := by
  show mm_R X (d + 1) 14 0 [some (.int i0)] [] hp Q
  refine mm_R.br 3 rfl (fun c => ?_) (fun c => ?_)
  · replace H := H.1 (of_decide_eq_true c)
    exact mm_R.rt 1 rfl rfl rfl rfl rfl rfl H
  · replace H := H.2 (of_decide_eq_false c)
    refine mm_R.br 3 rfl (fun c => ?_) (fun c => ?_)
    · replace H := H.1 (of_decide_eq_true c)
      exact mm_R.rt 1 rfl rfl rfl rfl rfl rfl H
    · replace H := H.2 (of_decide_eq_false c)
      exact mm_R.rt 2 rfl rfl rfl rfl rfl rfl H
