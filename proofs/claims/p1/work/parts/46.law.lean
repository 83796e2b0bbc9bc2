/-- the script's ints -/
def mw_xi (X : List Int32) (i : Int32) (K : Int32 → Prop) : Prop := ∃ y, 0 ≤ i ∧ X[i.toNatClampNeg]? = some y ∧ K y
theorem mw_xi.mono {X : List Int32} {i : Int32} {K K' : Int32 → Prop} (H : mw_xi X i K) (f : ∀ y, K y → K' y) : mw_xi X i K' := by
  obtain ⟨y, h1, h2, h3⟩ := H
  exact ⟨y, h1, h2, f y h3⟩
section MWX
variable {X : List Int32} {d mi : Nat} {hp : mm_H} {Q : Option Value → mm_H → Prop} {pc pc' : Nat} {L L' : mm_L} {st r : List Value}
theorem mm_R.wxi (n : Nat) {a : mm_A} {j : Int32} (h : mm_pn mi n pc L st = some (pc', L', .int j :: .retAddr 100 :: r)) (hc : mm_code mi pc' = some (.iaload, 1, a)) (H : mw_xi X j (fun y => mm_R X d mi (pc' + 1) L' (.int y :: r) hp Q)) : mm_R X d mi pc L st hp Q := by
  obtain ⟨y, h1, h2, K⟩ := H
  refine mm_R.hs2 n h hc rfl (st' := .int y :: r) (hp' := hp) ?_ K
  show mm_ald X 1000 (.int j :: .retAddr 100 :: r) hp = _
  unfold mm_ald
  simp only [h1, h2, and_self, if_true]
theorem mm_R.wxl (n : Nat) {a : mm_A} (h : mm_pn mi n pc L st = some (pc', L', .retAddr 100 :: r)) (hc : mm_code mi pc' = some (.arraylength, 1, a)) (K : mm_R X d mi (pc' + 1) L' (.int (nI X.length) :: r) hp Q) : mm_R X d mi pc L st hp Q := by
  refine mm_R.hs2 n h hc rfl (st' := .int (nI X.length) :: r) (hp' := hp) ?_ K
  rfl
end MWX
set_option maxRecDepth 10000 in
theorem w209_18 {X : List Int32} {d : Nat} {i3 : Int32} {hp : mm_H} {Q : Option Value → mm_H → Prop} (H : ((((nI X.length) - (5 : Int32)) < i3 → Q (some (.int (1 : Int32))) hp) ∧ (¬ ((nI X.length) - (5 : Int32)) < i3 → mw_xi X i3 (fun x1 => ((((x1 &&& (31 : Int32)).toInt < 0 ∨ 19 < (x1 &&& (31 : Int32)).toInt) → mm_R X (d + 1) 209 722 [some ((.retAddr 100)), some ((.ref 0)), some ((.ref 86)), some (.int i3)] [] hp Q) ∧ ((x1 &&& (31 : Int32)).toInt = 0 → mm_R X (d + 1) 209 128 [some ((.retAddr 100)), some ((.ref 0)), some ((.ref 86)), some (.int i3)] [] hp Q) ∧ ((x1 &&& (31 : Int32)).toInt = 1 → mm_R X (d + 1) 209 153 [some ((.retAddr 100)), some ((.ref 0)), some ((.ref 86)), some (.int i3)] [] hp Q) ∧ ((x1 &&& (31 : Int32)).toInt = 2 → mm_R X (d + 1) 209 176 [some ((.retAddr 100)), some ((.ref 0)), some ((.ref 86)), some (.int i3)] [] hp Q) ∧ ((x1 &&& (31 : Int32)).toInt = 3 → mm_R X (d + 1) 209 231 [some ((.retAddr 100)), some ((.ref 0)), some ((.ref 86)), some (.int i3)] [] hp Q) ∧ ((x1 &&& (31 : Int32)).toInt = 4 → mm_R X (d + 1) 209 254 [some ((.retAddr 100)), some ((.ref 0)), some ((.ref 86)), some (.int i3)] [] hp Q) ∧ ((x1 &&& (31 : Int32)).toInt = 5 → mm_R X (d + 1) 209 297 [some ((.retAddr 100)), some ((.ref 0)), some ((.ref 86)), some (.int i3)] [] hp Q) ∧ ((x1 &&& (31 : Int32)).toInt = 6 → mm_R X (d + 1) 209 350 [some ((.retAddr 100)), some ((.ref 0)), some ((.ref 86)), some (.int i3)] [] hp Q) ∧ ((x1 &&& (31 : Int32)).toInt = 7 → mm_R X (d + 1) 209 383 [some ((.retAddr 100)), some ((.ref 0)), some ((.ref 86)), some (.int i3)] [] hp Q) ∧ ((x1 &&& (31 : Int32)).toInt = 8 → mm_R X (d + 1) 209 416 [some ((.retAddr 100)), some ((.ref 0)), some ((.ref 86)), some (.int i3)] [] hp Q) ∧ ((x1 &&& (31 : Int32)).toInt = 9 → mm_R X (d + 1) 209 439 [some ((.retAddr 100)), some ((.ref 0)), some ((.ref 86)), some (.int i3)] [] hp Q) ∧ ((x1 &&& (31 : Int32)).toInt = 10 → mm_R X (d + 1) 209 482 [some ((.retAddr 100)), some ((.ref 0)), some ((.ref 86)), some (.int i3)] [] hp Q) ∧ ((x1 &&& (31 : Int32)).toInt = 11 → mm_R X (d + 1) 209 505 [some ((.retAddr 100)), some ((.ref 0)), some ((.ref 86)), some (.int i3)] [] hp Q) ∧ ((x1 &&& (31 : Int32)).toInt = 12 → mm_R X (d + 1) 209 528 [some ((.retAddr 100)), some ((.ref 0)), some ((.ref 86)), some (.int i3)] [] hp Q) ∧ ((x1 &&& (31 : Int32)).toInt = 13 → mm_R X (d + 1) 209 551 [some ((.retAddr 100)), some ((.ref 0)), some ((.ref 86)), some (.int i3)] [] hp Q) ∧ ((x1 &&& (31 : Int32)).toInt = 14 → mm_R X (d + 1) 209 564 [some ((.retAddr 100)), some ((.ref 0)), some ((.ref 86)), some (.int i3)] [] hp Q) ∧ ((x1 &&& (31 : Int32)).toInt = 15 → mm_R X (d + 1) 209 577 [some ((.retAddr 100)), some ((.ref 0)), some ((.ref 86)), some (.int i3)] [] hp Q) ∧ ((x1 &&& (31 : Int32)).toInt = 16 → mm_R X (d + 1) 209 590 [some ((.retAddr 100)), some ((.ref 0)), some ((.ref 86)), some (.int i3)] [] hp Q) ∧ ((x1 &&& (31 : Int32)).toInt = 17 → mm_R X (d + 1) 209 623 [some ((.retAddr 100)), some ((.ref 0)), some ((.ref 86)), some (.int i3)] [] hp Q) ∧ ((x1 &&& (31 : Int32)).toInt = 18 → mm_R X (d + 1) 209 666 [some ((.retAddr 100)), some ((.ref 0)), some ((.ref 86)), some (.int i3)] [] hp Q) ∧ ((x1 &&& (31 : Int32)).toInt = 19 → mm_R X (d + 1) 209 689 [some ((.retAddr 100)), some ((.ref 0)), some ((.ref 86)), some (.int i3)] [] hp Q)))))) : mm_R X (d + 1) 209 18 [some ((.retAddr 100)), some ((.ref 0)), some ((.ref 86)), some (.int i3)] [] hp Q := by
  refine mm_R.wxl (pc' := 20) (L' := [some ((.retAddr 100)), some ((.ref 0)), some ((.ref 86)), some (.int i3)]) (r := [.int i3]) 2 rfl rfl ?_
  refine mm_R.br (L' := [some ((.retAddr 100)), some ((.ref 0)), some ((.ref 86)), some (.int i3)]) (st' := []) (t := 728) (u := 26) (b := mm_cc .gt i3 ((nI X.length) - (5 : Int32))) 3 rfl (fun c => ?_) (fun c => ?_)
  · replace H := H.1 (of_decide_eq_true c)
    exact mm_R.rt (pc' := 729) (L' := [some ((.retAddr 100)), some ((.ref 0)), some ((.ref 86)), some (.int i3)]) (st1 := [.int (1 : Int32)]) 1 rfl rfl rfl rfl rfl rfl H
  · replace H := H.2 (of_decide_eq_false c)
    refine mm_R.wxi (pc' := 28) (L' := [some ((.retAddr 100)), some ((.ref 0)), some ((.ref 86)), some (.int i3)]) (r := []) (j := i3) 2 rfl rfl (H.mono (fun x1 H => ?_))
    by_cases c : (x1 &&& (31 : Int32)).toInt < 0 ∨ 19 < (x1 &&& (31 : Int32)).toInt
    · refine mm_R.swD (pc' := 32) (L' := [some ((.retAddr 100)), some ((.ref 0)), some ((.ref 86)), some (.int i3)]) (r := []) (t := 722) 2 rfl rfl c rfl ?_
      replace H := H.1 c
      exact H
    · replace H := H.2
      have c2 : (x1 &&& (31 : Int32)).toInt = 0 ∨ (x1 &&& (31 : Int32)).toInt = 1 ∨ (x1 &&& (31 : Int32)).toInt = 2 ∨ (x1 &&& (31 : Int32)).toInt = 3 ∨ (x1 &&& (31 : Int32)).toInt = 4 ∨ (x1 &&& (31 : Int32)).toInt = 5 ∨ (x1 &&& (31 : Int32)).toInt = 6 ∨ (x1 &&& (31 : Int32)).toInt = 7 ∨ (x1 &&& (31 : Int32)).toInt = 8 ∨ (x1 &&& (31 : Int32)).toInt = 9 ∨ (x1 &&& (31 : Int32)).toInt = 10 ∨ (x1 &&& (31 : Int32)).toInt = 11 ∨ (x1 &&& (31 : Int32)).toInt = 12 ∨ (x1 &&& (31 : Int32)).toInt = 13 ∨ (x1 &&& (31 : Int32)).toInt = 14 ∨ (x1 &&& (31 : Int32)).toInt = 15 ∨ (x1 &&& (31 : Int32)).toInt = 16 ∨ (x1 &&& (31 : Int32)).toInt = 17 ∨ (x1 &&& (31 : Int32)).toInt = 18 ∨ (x1 &&& (31 : Int32)).toInt = 19 := by omega
      rcases c2 with c2 | c2 | c2 | c2 | c2 | c2 | c2 | c2 | c2 | c2 | c2 | c2 | c2 | c2 | c2 | c2 | c2 | c2 | c2 | c2
      · refine mm_R.swI (pc' := 32) (L' := [some ((.retAddr 100)), some ((.ref 0)), some ((.ref 86)), some (.int i3)]) (r := []) (t := 128) 2 rfl rfl c (i := 0) c2 rfl rfl ?_
        replace H := H.1 c2
        exact H
      · refine mm_R.swI (pc' := 32) (L' := [some ((.retAddr 100)), some ((.ref 0)), some ((.ref 86)), some (.int i3)]) (r := []) (t := 153) 2 rfl rfl c (i := 1) c2 rfl rfl ?_
        replace H := H.2.1 c2
        exact H
      · refine mm_R.swI (pc' := 32) (L' := [some ((.retAddr 100)), some ((.ref 0)), some ((.ref 86)), some (.int i3)]) (r := []) (t := 176) 2 rfl rfl c (i := 2) c2 rfl rfl ?_
        replace H := H.2.2.1 c2
        exact H
      · refine mm_R.swI (pc' := 32) (L' := [some ((.retAddr 100)), some ((.ref 0)), some ((.ref 86)), some (.int i3)]) (r := []) (t := 231) 2 rfl rfl c (i := 3) c2 rfl rfl ?_
        replace H := H.2.2.2.1 c2
        exact H
      · refine mm_R.swI (pc' := 32) (L' := [some ((.retAddr 100)), some ((.ref 0)), some ((.ref 86)), some (.int i3)]) (r := []) (t := 254) 2 rfl rfl c (i := 4) c2 rfl rfl ?_
        replace H := H.2.2.2.2.1 c2
        exact H
      · refine mm_R.swI (pc' := 32) (L' := [some ((.retAddr 100)), some ((.ref 0)), some ((.ref 86)), some (.int i3)]) (r := []) (t := 297) 2 rfl rfl c (i := 5) c2 rfl rfl ?_
        replace H := H.2.2.2.2.2.1 c2
        exact H
      · refine mm_R.swI (pc' := 32) (L' := [some ((.retAddr 100)), some ((.ref 0)), some ((.ref 86)), some (.int i3)]) (r := []) (t := 350) 2 rfl rfl c (i := 6) c2 rfl rfl ?_
        replace H := H.2.2.2.2.2.2.1 c2
        exact H
      · refine mm_R.swI (pc' := 32) (L' := [some ((.retAddr 100)), some ((.ref 0)), some ((.ref 86)), some (.int i3)]) (r := []) (t := 383) 2 rfl rfl c (i := 7) c2 rfl rfl ?_
        replace H := H.2.2.2.2.2.2.2.1 c2
        exact H
      · refine mm_R.swI (pc' := 32) (L' := [some ((.retAddr 100)), some ((.ref 0)), some ((.ref 86)), some (.int i3)]) (r := []) (t := 416) 2 rfl rfl c (i := 8) c2 rfl rfl ?_
        replace H := H.2.2.2.2.2.2.2.2.1 c2
        exact H
      · refine mm_R.swI (pc' := 32) (L' := [some ((.retAddr 100)), some ((.ref 0)), some ((.ref 86)), some (.int i3)]) (r := []) (t := 439) 2 rfl rfl c (i := 9) c2 rfl rfl ?_
        replace H := H.2.2.2.2.2.2.2.2.2.1 c2
        exact H
      · refine mm_R.swI (pc' := 32) (L' := [some ((.retAddr 100)), some ((.ref 0)), some ((.ref 86)), some (.int i3)]) (r := []) (t := 482) 2 rfl rfl c (i := 10) c2 rfl rfl ?_
        replace H := H.2.2.2.2.2.2.2.2.2.2.1 c2
        exact H
      · refine mm_R.swI (pc' := 32) (L' := [some ((.retAddr 100)), some ((.ref 0)), some ((.ref 86)), some (.int i3)]) (r := []) (t := 505) 2 rfl rfl c (i := 11) c2 rfl rfl ?_
        replace H := H.2.2.2.2.2.2.2.2.2.2.2.1 c2
        exact H
      · refine mm_R.swI (pc' := 32) (L' := [some ((.retAddr 100)), some ((.ref 0)), some ((.ref 86)), some (.int i3)]) (r := []) (t := 528) 2 rfl rfl c (i := 12) c2 rfl rfl ?_
        replace H := H.2.2.2.2.2.2.2.2.2.2.2.2.1 c2
        exact H
      · refine mm_R.swI (pc' := 32) (L' := [some ((.retAddr 100)), some ((.ref 0)), some ((.ref 86)), some (.int i3)]) (r := []) (t := 551) 2 rfl rfl c (i := 13) c2 rfl rfl ?_
        replace H := H.2.2.2.2.2.2.2.2.2.2.2.2.2.1 c2
        exact H
      · refine mm_R.swI (pc' := 32) (L' := [some ((.retAddr 100)), some ((.ref 0)), some ((.ref 86)), some (.int i3)]) (r := []) (t := 564) 2 rfl rfl c (i := 14) c2 rfl rfl ?_
        replace H := H.2.2.2.2.2.2.2.2.2.2.2.2.2.2.1 c2
        exact H
      · refine mm_R.swI (pc' := 32) (L' := [some ((.retAddr 100)), some ((.ref 0)), some ((.ref 86)), some (.int i3)]) (r := []) (t := 577) 2 rfl rfl c (i := 15) c2 rfl rfl ?_
        replace H := H.2.2.2.2.2.2.2.2.2.2.2.2.2.2.2.1 c2
        exact H
      · refine mm_R.swI (pc' := 32) (L' := [some ((.retAddr 100)), some ((.ref 0)), some ((.ref 86)), some (.int i3)]) (r := []) (t := 590) 2 rfl rfl c (i := 16) c2 rfl rfl ?_
        replace H := H.2.2.2.2.2.2.2.2.2.2.2.2.2.2.2.2.1 c2
        exact H
      · refine mm_R.swI (pc' := 32) (L' := [some ((.retAddr 100)), some ((.ref 0)), some ((.ref 86)), some (.int i3)]) (r := []) (t := 623) 2 rfl rfl c (i := 17) c2 rfl rfl ?_
        replace H := H.2.2.2.2.2.2.2.2.2.2.2.2.2.2.2.2.2.1 c2
        exact H
      · refine mm_R.swI (pc' := 32) (L' := [some ((.retAddr 100)), some ((.ref 0)), some ((.ref 86)), some (.int i3)]) (r := []) (t := 666) 2 rfl rfl c (i := 18) c2 rfl rfl ?_
        replace H := H.2.2.2.2.2.2.2.2.2.2.2.2.2.2.2.2.2.2.1 c2
        exact H
      · refine mm_R.swI (pc' := 32) (L' := [some ((.retAddr 100)), some ((.ref 0)), some ((.ref 86)), some (.int i3)]) (r := []) (t := 689) 2 rfl rfl c (i := 19) c2 rfl rfl ?_
        replace H := H.2.2.2.2.2.2.2.2.2.2.2.2.2.2.2.2.2.2.2 c2
        exact H
set_option maxRecDepth 10000 in
theorem w209_128 {X : List Int32} {d : Nat} {i3 : Int32} {hp : mm_H} {Q : Option Value → mm_H → Prop} (H : mw_xi X (i3 + (1 : Int32)) (fun x1 => mw_rc (.ref 0) 12 hp ∧ mm_R X d 12 0 (mm_L0 12 [(.ref 0), .int ((Int32.toUInt32 x1 % 65536).toInt32)]) [] hp (mw_ri (fun x4 hp3 => mw_xi X (i3 + (1 : Int32)) (fun x5 => mw_rc (.ref 86) 124 hp3 ∧ mm_R X d 124 0 (mm_L0 124 [(.ref 86), .int ((Int32.toUInt32 x5 % 65536).toInt32)]) [] hp3 (mw_ri (fun x8 hp7 => ((x4 = x8 → mm_R X (d + 1) 209 722 [some ((.retAddr 100)), some ((.ref 0)), some ((.ref 86)), some (.int i3)] [] hp7 Q) ∧ (¬ x4 = x8 → Q (some (.int (0 : Int32))) hp7))))))))) : mm_R X (d + 1) 209 128 [some ((.retAddr 100)), some ((.ref 0)), some ((.ref 86)), some (.int i3)] [] hp Q := by
  refine mm_R.wxi (pc' := 133) (L' := [some ((.retAddr 100)), some ((.ref 0)), some ((.ref 86)), some (.int i3)]) (r := [(.ref 0)]) (j := (i3 + (1 : Int32))) 5 rfl rfl (H.mono (fun x1 H => ?_))
  obtain ⟨hc2, H⟩ := H
  refine mm_R.cV (pc' := 135) (L' := [some ((.retAddr 100)), some ((.ref 0)), some ((.ref 86)), some (.int i3)]) (st1 := [.int ((Int32.toUInt32 x1 % 65536).toInt32), (.ref 0)]) (as := [.int ((Int32.toUInt32 x1 % 65536).toInt32)]) (rest := []) 1 rfl rfl (mw_sp rfl rfl (Nat.le_of_ble_eq_true rfl) (mw_ac rfl (mw_ac rfl mw_an)) mw_an) rfl rfl hc2 (H.mono (fun o hp3 H => ?_))
  obtain ⟨x4, rfl, H⟩ := H
  refine mm_R.wxi (pc' := 143) (L' := [some ((.retAddr 100)), some ((.ref 0)), some ((.ref 86)), some (.int i3)]) (r := [(.ref 86), .int x4]) (j := (i3 + (1 : Int32))) 5 rfl rfl (H.mono (fun x5 H => ?_))
  obtain ⟨hc6, H⟩ := H
  refine mm_R.cV (pc' := 145) (L' := [some ((.retAddr 100)), some ((.ref 0)), some ((.ref 86)), some (.int i3)]) (st1 := [.int ((Int32.toUInt32 x5 % 65536).toInt32), (.ref 86), .int x4]) (as := [.int ((Int32.toUInt32 x5 % 65536).toInt32)]) (rest := [.int x4]) 1 rfl rfl (mw_sp rfl rfl (Nat.le_of_ble_eq_true rfl) (mw_ac rfl (mw_ac rfl mw_an)) (mw_ac rfl mw_an)) rfl rfl hc6 (H.mono (fun o hp7 H => ?_))
  obtain ⟨x8, rfl, H⟩ := H
  refine mm_R.br (L' := [some ((.retAddr 100)), some ((.ref 0)), some ((.ref 86)), some (.int i3)]) (st' := []) (t := 722) (u := 151) (b := mm_cc .eq x4 x8) 1 rfl (fun c => ?_) (fun c => ?_)
  · replace H := H.1 (of_decide_eq_true c)
    exact H
  · replace H := H.2 (of_decide_eq_false c)
    exact mm_R.rt (pc' := 152) (L' := [some ((.retAddr 100)), some ((.ref 0)), some ((.ref 86)), some (.int i3)]) (st1 := [.int (0 : Int32)]) 1 rfl rfl rfl rfl rfl rfl H
set_option maxRecDepth 10000 in
theorem w209_153 {X : List Int32} {d : Nat} {i3 : Int32} {hp : mm_H} {Q : Option Value → mm_H → Prop} (H : mw_xi X (i3 + (1 : Int32)) (fun x1 => mw_rc (.ref 0) 15 hp ∧ mm_R X d 15 0 (mm_L0 15 [(.ref 0), .int x1]) [] hp (mw_ri (fun x4 hp3 => mw_xi X (i3 + (1 : Int32)) (fun x5 => mw_rc (.ref 86) 125 hp3 ∧ mm_R X d 125 0 (mm_L0 125 [(.ref 86), .int x5]) [] hp3 (mw_ri (fun x8 hp7 => ((x4 = x8 → mm_R X (d + 1) 209 722 [some ((.retAddr 100)), some ((.ref 0)), some ((.ref 86)), some (.int i3)] [] hp7 Q) ∧ (¬ x4 = x8 → Q (some (.int (0 : Int32))) hp7))))))))) : mm_R X (d + 1) 209 153 [some ((.retAddr 100)), some ((.ref 0)), some ((.ref 86)), some (.int i3)] [] hp Q := by
  refine mm_R.wxi (pc' := 158) (L' := [some ((.retAddr 100)), some ((.ref 0)), some ((.ref 86)), some (.int i3)]) (r := [(.ref 0)]) (j := (i3 + (1 : Int32))) 5 rfl rfl (H.mono (fun x1 H => ?_))
  obtain ⟨hc2, H⟩ := H
  refine mm_R.cV (pc' := 159) (L' := [some ((.retAddr 100)), some ((.ref 0)), some ((.ref 86)), some (.int i3)]) (st1 := [.int x1, (.ref 0)]) (as := [.int x1]) (rest := []) 0 rfl rfl (mw_sp rfl rfl (Nat.le_of_ble_eq_true rfl) (mw_ac rfl (mw_ac rfl mw_an)) mw_an) rfl rfl hc2 (H.mono (fun o hp3 H => ?_))
  obtain ⟨x4, rfl, H⟩ := H
  refine mm_R.wxi (pc' := 167) (L' := [some ((.retAddr 100)), some ((.ref 0)), some ((.ref 86)), some (.int i3)]) (r := [(.ref 86), .int x4]) (j := (i3 + (1 : Int32))) 5 rfl rfl (H.mono (fun x5 H => ?_))
  obtain ⟨hc6, H⟩ := H
  refine mm_R.cV (pc' := 168) (L' := [some ((.retAddr 100)), some ((.ref 0)), some ((.ref 86)), some (.int i3)]) (st1 := [.int x5, (.ref 86), .int x4]) (as := [.int x5]) (rest := [.int x4]) 0 rfl rfl (mw_sp rfl rfl (Nat.le_of_ble_eq_true rfl) (mw_ac rfl (mw_ac rfl mw_an)) (mw_ac rfl mw_an)) rfl rfl hc6 (H.mono (fun o hp7 H => ?_))
  obtain ⟨x8, rfl, H⟩ := H
  refine mm_R.br (L' := [some ((.retAddr 100)), some ((.ref 0)), some ((.ref 86)), some (.int i3)]) (st' := []) (t := 722) (u := 174) (b := mm_cc .eq x4 x8) 1 rfl (fun c => ?_) (fun c => ?_)
  · replace H := H.1 (of_decide_eq_true c)
    exact H
  · replace H := H.2 (of_decide_eq_false c)
    exact mm_R.rt (pc' := 175) (L' := [some ((.retAddr 100)), some ((.ref 0)), some ((.ref 86)), some (.int i3)]) (st1 := [.int (0 : Int32)]) 1 rfl rfl rfl rfl rfl rfl H
set_option maxRecDepth 10000 in
theorem w209_176 {X : List Int32} {d : Nat} {i3 : Int32} {hp : mm_H} {Q : Option Value → mm_H → Prop} (H : mw_xi X (i3 + (1 : Int32)) (fun x1 => mw_xi X (i3 + (2 : Int32)) (fun x2 => mw_xi X (i3 + (3 : Int32)) (fun x3 => mw_xi X (i3 + (4 : Int32)) (fun x4 => mw_rc (.ref 0) 18 hp ∧ mm_R X d 18 0 (mm_L0 18 [(.ref 0), .int x1, .int x2, .int ((Int32.toUInt32 x3 % 65536).toInt32), .int x4]) [] hp (mw_ri (fun x7 hp6 => mw_xi X (i3 + (1 : Int32)) (fun x8 => mw_xi X (i3 + (2 : Int32)) (fun x9 => mw_xi X (i3 + (3 : Int32)) (fun x10 => mw_xi X (i3 + (4 : Int32)) (fun x11 => mw_rc (.ref 86) 128 hp6 ∧ mm_R X d 128 0 (mm_L0 128 [(.ref 86), .int x8, .int x9, .int ((Int32.toUInt32 x10 % 65536).toInt32), .int x11]) [] hp6 (mw_ri (fun x14 hp13 => ((x7 = x14 → mm_R X (d + 1) 209 722 [some ((.retAddr 100)), some ((.ref 0)), some ((.ref 86)), some (.int i3)] [] hp13 Q) ∧ (¬ x7 = x14 → Q (some (.int (0 : Int32))) hp13))))))))))))))) : mm_R X (d + 1) 209 176 [some ((.retAddr 100)), some ((.ref 0)), some ((.ref 86)), some (.int i3)] [] hp Q := by
  refine mm_R.wxi (pc' := 181) (L' := [some ((.retAddr 100)), some ((.ref 0)), some ((.ref 86)), some (.int i3)]) (r := [(.ref 0)]) (j := (i3 + (1 : Int32))) 5 rfl rfl (H.mono (fun x1 H => ?_))
  refine mm_R.wxi (pc' := 186) (L' := [some ((.retAddr 100)), some ((.ref 0)), some ((.ref 86)), some (.int i3)]) (r := [.int x1, (.ref 0)]) (j := (i3 + (2 : Int32))) 4 rfl rfl (H.mono (fun x2 H => ?_))
  refine mm_R.wxi (pc' := 191) (L' := [some ((.retAddr 100)), some ((.ref 0)), some ((.ref 86)), some (.int i3)]) (r := [.int x2, .int x1, (.ref 0)]) (j := (i3 + (3 : Int32))) 4 rfl rfl (H.mono (fun x3 H => ?_))
  refine mm_R.wxi (pc' := 197) (L' := [some ((.retAddr 100)), some ((.ref 0)), some ((.ref 86)), some (.int i3)]) (r := [.int ((Int32.toUInt32 x3 % 65536).toInt32), .int x2, .int x1, (.ref 0)]) (j := (i3 + (4 : Int32))) 5 rfl rfl (H.mono (fun x4 H => ?_))
  obtain ⟨hc5, H⟩ := H
  refine mm_R.cV (pc' := 198) (L' := [some ((.retAddr 100)), some ((.ref 0)), some ((.ref 86)), some (.int i3)]) (st1 := [.int x4, .int ((Int32.toUInt32 x3 % 65536).toInt32), .int x2, .int x1, (.ref 0)]) (as := [.int x1, .int x2, .int ((Int32.toUInt32 x3 % 65536).toInt32), .int x4]) (rest := []) 0 rfl rfl (mw_sp rfl rfl (Nat.le_of_ble_eq_true rfl) (mw_ac rfl (mw_ac rfl (mw_ac rfl (mw_ac rfl (mw_ac rfl mw_an))))) mw_an) rfl rfl hc5 (H.mono (fun o hp6 H => ?_))
  obtain ⟨x7, rfl, H⟩ := H
  refine mm_R.wxi (pc' := 206) (L' := [some ((.retAddr 100)), some ((.ref 0)), some ((.ref 86)), some (.int i3)]) (r := [(.ref 86), .int x7]) (j := (i3 + (1 : Int32))) 5 rfl rfl (H.mono (fun x8 H => ?_))
  refine mm_R.wxi (pc' := 211) (L' := [some ((.retAddr 100)), some ((.ref 0)), some ((.ref 86)), some (.int i3)]) (r := [.int x8, (.ref 86), .int x7]) (j := (i3 + (2 : Int32))) 4 rfl rfl (H.mono (fun x9 H => ?_))
  refine mm_R.wxi (pc' := 216) (L' := [some ((.retAddr 100)), some ((.ref 0)), some ((.ref 86)), some (.int i3)]) (r := [.int x9, .int x8, (.ref 86), .int x7]) (j := (i3 + (3 : Int32))) 4 rfl rfl (H.mono (fun x10 H => ?_))
  refine mm_R.wxi (pc' := 222) (L' := [some ((.retAddr 100)), some ((.ref 0)), some ((.ref 86)), some (.int i3)]) (r := [.int ((Int32.toUInt32 x10 % 65536).toInt32), .int x9, .int x8, (.ref 86), .int x7]) (j := (i3 + (4 : Int32))) 5 rfl rfl (H.mono (fun x11 H => ?_))
  obtain ⟨hc12, H⟩ := H
  refine mm_R.cV (pc' := 223) (L' := [some ((.retAddr 100)), some ((.ref 0)), some ((.ref 86)), some (.int i3)]) (st1 := [.int x11, .int ((Int32.toUInt32 x10 % 65536).toInt32), .int x9, .int x8, (.ref 86), .int x7]) (as := [.int x8, .int x9, .int ((Int32.toUInt32 x10 % 65536).toInt32), .int x11]) (rest := [.int x7]) 0 rfl rfl (mw_sp rfl rfl (Nat.le_of_ble_eq_true rfl) (mw_ac rfl (mw_ac rfl (mw_ac rfl (mw_ac rfl (mw_ac rfl mw_an))))) (mw_ac rfl mw_an)) rfl rfl hc12 (H.mono (fun o hp13 H => ?_))
  obtain ⟨x14, rfl, H⟩ := H
  refine mm_R.br (L' := [some ((.retAddr 100)), some ((.ref 0)), some ((.ref 86)), some (.int i3)]) (st' := []) (t := 722) (u := 229) (b := mm_cc .eq x7 x14) 1 rfl (fun c => ?_) (fun c => ?_)
  · replace H := H.1 (of_decide_eq_true c)
    exact H
  · replace H := H.2 (of_decide_eq_false c)
    exact mm_R.rt (pc' := 230) (L' := [some ((.retAddr 100)), some ((.ref 0)), some ((.ref 86)), some (.int i3)]) (st1 := [.int (0 : Int32)]) 1 rfl rfl rfl rfl rfl rfl H
set_option maxRecDepth 10000 in
theorem w209_231 {X : List Int32} {d : Nat} {i3 : Int32} {hp : mm_H} {Q : Option Value → mm_H → Prop} (H : mw_xi X (i3 + (1 : Int32)) (fun x1 => mw_rc (.ref 0) 20 hp ∧ mm_R X d 20 0 (mm_L0 20 [(.ref 0), .int x1]) [] hp (mw_ri (fun x4 hp3 => mw_xi X (i3 + (1 : Int32)) (fun x5 => mw_rc (.ref 86) 129 hp3 ∧ mm_R X d 129 0 (mm_L0 129 [(.ref 86), .int x5]) [] hp3 (mw_ri (fun x8 hp7 => ((x4 = x8 → mm_R X (d + 1) 209 722 [some ((.retAddr 100)), some ((.ref 0)), some ((.ref 86)), some (.int i3)] [] hp7 Q) ∧ (¬ x4 = x8 → Q (some (.int (0 : Int32))) hp7))))))))) : mm_R X (d + 1) 209 231 [some ((.retAddr 100)), some ((.ref 0)), some ((.ref 86)), some (.int i3)] [] hp Q := by
  refine mm_R.wxi (pc' := 236) (L' := [some ((.retAddr 100)), some ((.ref 0)), some ((.ref 86)), some (.int i3)]) (r := [(.ref 0)]) (j := (i3 + (1 : Int32))) 5 rfl rfl (H.mono (fun x1 H => ?_))
  obtain ⟨hc2, H⟩ := H
  refine mm_R.cV (pc' := 237) (L' := [some ((.retAddr 100)), some ((.ref 0)), some ((.ref 86)), some (.int i3)]) (st1 := [.int x1, (.ref 0)]) (as := [.int x1]) (rest := []) 0 rfl rfl (mw_sp rfl rfl (Nat.le_of_ble_eq_true rfl) (mw_ac rfl (mw_ac rfl mw_an)) mw_an) rfl rfl hc2 (H.mono (fun o hp3 H => ?_))
  obtain ⟨x4, rfl, H⟩ := H
  refine mm_R.wxi (pc' := 245) (L' := [some ((.retAddr 100)), some ((.ref 0)), some ((.ref 86)), some (.int i3)]) (r := [(.ref 86), .int x4]) (j := (i3 + (1 : Int32))) 5 rfl rfl (H.mono (fun x5 H => ?_))
  obtain ⟨hc6, H⟩ := H
  refine mm_R.cV (pc' := 246) (L' := [some ((.retAddr 100)), some ((.ref 0)), some ((.ref 86)), some (.int i3)]) (st1 := [.int x5, (.ref 86), .int x4]) (as := [.int x5]) (rest := [.int x4]) 0 rfl rfl (mw_sp rfl rfl (Nat.le_of_ble_eq_true rfl) (mw_ac rfl (mw_ac rfl mw_an)) (mw_ac rfl mw_an)) rfl rfl hc6 (H.mono (fun o hp7 H => ?_))
  obtain ⟨x8, rfl, H⟩ := H
  refine mm_R.br (L' := [some ((.retAddr 100)), some ((.ref 0)), some ((.ref 86)), some (.int i3)]) (st' := []) (t := 722) (u := 252) (b := mm_cc .eq x4 x8) 1 rfl (fun c => ?_) (fun c => ?_)
  · replace H := H.1 (of_decide_eq_true c)
    exact H
  · replace H := H.2 (of_decide_eq_false c)
    exact mm_R.rt (pc' := 253) (L' := [some ((.retAddr 100)), some ((.ref 0)), some ((.ref 86)), some (.int i3)]) (st1 := [.int (0 : Int32)]) 1 rfl rfl rfl rfl rfl rfl H
set_option maxRecDepth 10000 in
theorem w209_254 {X : List Int32} {d : Nat} {i3 : Int32} {hp : mm_H} {Q : Option Value → mm_H → Prop} (H : mw_xi X (i3 + (1 : Int32)) (fun x1 => mw_xi X (i3 + (2 : Int32)) (fun x2 => mw_xi X (i3 + (3 : Int32)) (fun x3 => mw_rc (.ref 0) 22 hp ∧ mm_R X d 22 0 (mm_L0 22 [(.ref 0), .int x1, .int x2, .int x3]) [] hp (mw_ri (fun x6 hp5 => mw_xi X (i3 + (1 : Int32)) (fun x7 => mw_xi X (i3 + (2 : Int32)) (fun x8 => mw_xi X (i3 + (3 : Int32)) (fun x9 => mw_rc (.ref 86) 130 hp5 ∧ mm_R X d 130 0 (mm_L0 130 [(.ref 86), .int x7, .int x8, .int x9]) [] hp5 (mw_ri (fun x12 hp11 => ((x6 = x12 → mm_R X (d + 1) 209 722 [some ((.retAddr 100)), some ((.ref 0)), some ((.ref 86)), some (.int i3)] [] hp11 Q) ∧ (¬ x6 = x12 → Q (some (.int (0 : Int32))) hp11))))))))))))) : mm_R X (d + 1) 209 254 [some ((.retAddr 100)), some ((.ref 0)), some ((.ref 86)), some (.int i3)] [] hp Q := by
  refine mm_R.wxi (pc' := 259) (L' := [some ((.retAddr 100)), some ((.ref 0)), some ((.ref 86)), some (.int i3)]) (r := [(.ref 0)]) (j := (i3 + (1 : Int32))) 5 rfl rfl (H.mono (fun x1 H => ?_))
  refine mm_R.wxi (pc' := 264) (L' := [some ((.retAddr 100)), some ((.ref 0)), some ((.ref 86)), some (.int i3)]) (r := [.int x1, (.ref 0)]) (j := (i3 + (2 : Int32))) 4 rfl rfl (H.mono (fun x2 H => ?_))
  refine mm_R.wxi (pc' := 269) (L' := [some ((.retAddr 100)), some ((.ref 0)), some ((.ref 86)), some (.int i3)]) (r := [.int x2, .int x1, (.ref 0)]) (j := (i3 + (3 : Int32))) 4 rfl rfl (H.mono (fun x3 H => ?_))
  obtain ⟨hc4, H⟩ := H
  refine mm_R.cV (pc' := 270) (L' := [some ((.retAddr 100)), some ((.ref 0)), some ((.ref 86)), some (.int i3)]) (st1 := [.int x3, .int x2, .int x1, (.ref 0)]) (as := [.int x1, .int x2, .int x3]) (rest := []) 0 rfl rfl (mw_sp rfl rfl (Nat.le_of_ble_eq_true rfl) (mw_ac rfl (mw_ac rfl (mw_ac rfl (mw_ac rfl mw_an)))) mw_an) rfl rfl hc4 (H.mono (fun o hp5 H => ?_))
  obtain ⟨x6, rfl, H⟩ := H
  refine mm_R.wxi (pc' := 278) (L' := [some ((.retAddr 100)), some ((.ref 0)), some ((.ref 86)), some (.int i3)]) (r := [(.ref 86), .int x6]) (j := (i3 + (1 : Int32))) 5 rfl rfl (H.mono (fun x7 H => ?_))
  refine mm_R.wxi (pc' := 283) (L' := [some ((.retAddr 100)), some ((.ref 0)), some ((.ref 86)), some (.int i3)]) (r := [.int x7, (.ref 86), .int x6]) (j := (i3 + (2 : Int32))) 4 rfl rfl (H.mono (fun x8 H => ?_))
  refine mm_R.wxi (pc' := 288) (L' := [some ((.retAddr 100)), some ((.ref 0)), some ((.ref 86)), some (.int i3)]) (r := [.int x8, .int x7, (.ref 86), .int x6]) (j := (i3 + (3 : Int32))) 4 rfl rfl (H.mono (fun x9 H => ?_))
  obtain ⟨hc10, H⟩ := H
  refine mm_R.cV (pc' := 289) (L' := [some ((.retAddr 100)), some ((.ref 0)), some ((.ref 86)), some (.int i3)]) (st1 := [.int x9, .int x8, .int x7, (.ref 86), .int x6]) (as := [.int x7, .int x8, .int x9]) (rest := [.int x6]) 0 rfl rfl (mw_sp rfl rfl (Nat.le_of_ble_eq_true rfl) (mw_ac rfl (mw_ac rfl (mw_ac rfl (mw_ac rfl mw_an)))) (mw_ac rfl mw_an)) rfl rfl hc10 (H.mono (fun o hp11 H => ?_))
  obtain ⟨x12, rfl, H⟩ := H
  refine mm_R.br (L' := [some ((.retAddr 100)), some ((.ref 0)), some ((.ref 86)), some (.int i3)]) (st' := []) (t := 722) (u := 295) (b := mm_cc .eq x6 x12) 1 rfl (fun c => ?_) (fun c => ?_)
  · replace H := H.1 (of_decide_eq_true c)
    exact H
  · replace H := H.2 (of_decide_eq_false c)
    exact mm_R.rt (pc' := 296) (L' := [some ((.retAddr 100)), some ((.ref 0)), some ((.ref 86)), some (.int i3)]) (st1 := [.int (0 : Int32)]) 1 rfl rfl rfl rfl rfl rfl H
set_option maxRecDepth 10000 in
theorem w209_297 {X : List Int32} {d : Nat} {i3 : Int32} {hp : mm_H} {Q : Option Value → mm_H → Prop} (H : mw_xi X (i3 + (1 : Int32)) (fun x1 => mw_xi X (i3 + (2 : Int32)) (fun x2 => mw_xi X (i3 + (3 : Int32)) (fun x3 => mw_xi X (i3 + (4 : Int32)) (fun x4 => mw_rc (.ref 0) 26 hp ∧ mm_R X d 26 0 (mm_L0 26 [(.ref 0), .int x1, .int x2, .int x3, .int x4]) [] hp (mw_ri (fun x7 hp6 => mw_xi X (i3 + (1 : Int32)) (fun x8 => mw_xi X (i3 + (2 : Int32)) (fun x9 => mw_xi X (i3 + (3 : Int32)) (fun x10 => mw_xi X (i3 + (4 : Int32)) (fun x11 => mw_rc (.ref 86) 132 hp6 ∧ mm_R X d 132 0 (mm_L0 132 [(.ref 86), .int x8, .int x9, .int x10, .int x11]) [] hp6 (mw_ri (fun x14 hp13 => ((x7 = x14 → mm_R X (d + 1) 209 722 [some ((.retAddr 100)), some ((.ref 0)), some ((.ref 86)), some (.int i3)] [] hp13 Q) ∧ (¬ x7 = x14 → Q (some (.int (0 : Int32))) hp13))))))))))))))) : mm_R X (d + 1) 209 297 [some ((.retAddr 100)), some ((.ref 0)), some ((.ref 86)), some (.int i3)] [] hp Q := by
  refine mm_R.wxi (pc' := 302) (L' := [some ((.retAddr 100)), some ((.ref 0)), some ((.ref 86)), some (.int i3)]) (r := [(.ref 0)]) (j := (i3 + (1 : Int32))) 5 rfl rfl (H.mono (fun x1 H => ?_))
  refine mm_R.wxi (pc' := 307) (L' := [some ((.retAddr 100)), some ((.ref 0)), some ((.ref 86)), some (.int i3)]) (r := [.int x1, (.ref 0)]) (j := (i3 + (2 : Int32))) 4 rfl rfl (H.mono (fun x2 H => ?_))
  refine mm_R.wxi (pc' := 312) (L' := [some ((.retAddr 100)), some ((.ref 0)), some ((.ref 86)), some (.int i3)]) (r := [.int x2, .int x1, (.ref 0)]) (j := (i3 + (3 : Int32))) 4 rfl rfl (H.mono (fun x3 H => ?_))
  refine mm_R.wxi (pc' := 317) (L' := [some ((.retAddr 100)), some ((.ref 0)), some ((.ref 86)), some (.int i3)]) (r := [.int x3, .int x2, .int x1, (.ref 0)]) (j := (i3 + (4 : Int32))) 4 rfl rfl (H.mono (fun x4 H => ?_))
  obtain ⟨hc5, H⟩ := H
  refine mm_R.cV (pc' := 318) (L' := [some ((.retAddr 100)), some ((.ref 0)), some ((.ref 86)), some (.int i3)]) (st1 := [.int x4, .int x3, .int x2, .int x1, (.ref 0)]) (as := [.int x1, .int x2, .int x3, .int x4]) (rest := []) 0 rfl rfl (mw_sp rfl rfl (Nat.le_of_ble_eq_true rfl) (mw_ac rfl (mw_ac rfl (mw_ac rfl (mw_ac rfl (mw_ac rfl mw_an))))) mw_an) rfl rfl hc5 (H.mono (fun o hp6 H => ?_))
  obtain ⟨x7, rfl, H⟩ := H
  refine mm_R.wxi (pc' := 326) (L' := [some ((.retAddr 100)), some ((.ref 0)), some ((.ref 86)), some (.int i3)]) (r := [(.ref 86), .int x7]) (j := (i3 + (1 : Int32))) 5 rfl rfl (H.mono (fun x8 H => ?_))
  refine mm_R.wxi (pc' := 331) (L' := [some ((.retAddr 100)), some ((.ref 0)), some ((.ref 86)), some (.int i3)]) (r := [.int x8, (.ref 86), .int x7]) (j := (i3 + (2 : Int32))) 4 rfl rfl (H.mono (fun x9 H => ?_))
  refine mm_R.wxi (pc' := 336) (L' := [some ((.retAddr 100)), some ((.ref 0)), some ((.ref 86)), some (.int i3)]) (r := [.int x9, .int x8, (.ref 86), .int x7]) (j := (i3 + (3 : Int32))) 4 rfl rfl (H.mono (fun x10 H => ?_))
  refine mm_R.wxi (pc' := 341) (L' := [some ((.retAddr 100)), some ((.ref 0)), some ((.ref 86)), some (.int i3)]) (r := [.int x10, .int x9, .int x8, (.ref 86), .int x7]) (j := (i3 + (4 : Int32))) 4 rfl rfl (H.mono (fun x11 H => ?_))
  obtain ⟨hc12, H⟩ := H
  refine mm_R.cV (pc' := 342) (L' := [some ((.retAddr 100)), some ((.ref 0)), some ((.ref 86)), some (.int i3)]) (st1 := [.int x11, .int x10, .int x9, .int x8, (.ref 86), .int x7]) (as := [.int x8, .int x9, .int x10, .int x11]) (rest := [.int x7]) 0 rfl rfl (mw_sp rfl rfl (Nat.le_of_ble_eq_true rfl) (mw_ac rfl (mw_ac rfl (mw_ac rfl (mw_ac rfl (mw_ac rfl mw_an))))) (mw_ac rfl mw_an)) rfl rfl hc12 (H.mono (fun o hp13 H => ?_))
  obtain ⟨x14, rfl, H⟩ := H
  refine mm_R.br (L' := [some ((.retAddr 100)), some ((.ref 0)), some ((.ref 86)), some (.int i3)]) (st' := []) (t := 722) (u := 348) (b := mm_cc .eq x7 x14) 1 rfl (fun c => ?_) (fun c => ?_)
  · replace H := H.1 (of_decide_eq_true c)
    exact H
  · replace H := H.2 (of_decide_eq_false c)
    exact mm_R.rt (pc' := 349) (L' := [some ((.retAddr 100)), some ((.ref 0)), some ((.ref 86)), some (.int i3)]) (st1 := [.int (0 : Int32)]) 1 rfl rfl rfl rfl rfl rfl H
set_option maxRecDepth 10000 in
theorem w209_350 {X : List Int32} {d : Nat} {i3 : Int32} {hp : mm_H} {Q : Option Value → mm_H → Prop} (H : mw_xi X (i3 + (1 : Int32)) (fun x1 => mw_xi X (i3 + (2 : Int32)) (fun x2 => mw_rc (.ref 0) 27 hp ∧ mm_R X d 27 0 (mm_L0 27 [(.ref 0), .int x1, .int x2]) [] hp (mw_ri (fun x5 hp4 => mw_xi X (i3 + (1 : Int32)) (fun x6 => mw_xi X (i3 + (2 : Int32)) (fun x7 => mw_rc (.ref 86) 133 hp4 ∧ mm_R X d 133 0 (mm_L0 133 [(.ref 86), .int x6, .int x7]) [] hp4 (mw_ri (fun x10 hp9 => ((x5 = x10 → mm_R X (d + 1) 209 722 [some ((.retAddr 100)), some ((.ref 0)), some ((.ref 86)), some (.int i3)] [] hp9 Q) ∧ (¬ x5 = x10 → Q (some (.int (0 : Int32))) hp9))))))))))) : mm_R X (d + 1) 209 350 [some ((.retAddr 100)), some ((.ref 0)), some ((.ref 86)), some (.int i3)] [] hp Q := by
  refine mm_R.wxi (pc' := 355) (L' := [some ((.retAddr 100)), some ((.ref 0)), some ((.ref 86)), some (.int i3)]) (r := [(.ref 0)]) (j := (i3 + (1 : Int32))) 5 rfl rfl (H.mono (fun x1 H => ?_))
  refine mm_R.wxi (pc' := 360) (L' := [some ((.retAddr 100)), some ((.ref 0)), some ((.ref 86)), some (.int i3)]) (r := [.int x1, (.ref 0)]) (j := (i3 + (2 : Int32))) 4 rfl rfl (H.mono (fun x2 H => ?_))
  obtain ⟨hc3, H⟩ := H
  refine mm_R.cV (pc' := 361) (L' := [some ((.retAddr 100)), some ((.ref 0)), some ((.ref 86)), some (.int i3)]) (st1 := [.int x2, .int x1, (.ref 0)]) (as := [.int x1, .int x2]) (rest := []) 0 rfl rfl (mw_sp rfl rfl (Nat.le_of_ble_eq_true rfl) (mw_ac rfl (mw_ac rfl (mw_ac rfl mw_an))) mw_an) rfl rfl hc3 (H.mono (fun o hp4 H => ?_))
  obtain ⟨x5, rfl, H⟩ := H
  refine mm_R.wxi (pc' := 369) (L' := [some ((.retAddr 100)), some ((.ref 0)), some ((.ref 86)), some (.int i3)]) (r := [(.ref 86), .int x5]) (j := (i3 + (1 : Int32))) 5 rfl rfl (H.mono (fun x6 H => ?_))
  refine mm_R.wxi (pc' := 374) (L' := [some ((.retAddr 100)), some ((.ref 0)), some ((.ref 86)), some (.int i3)]) (r := [.int x6, (.ref 86), .int x5]) (j := (i3 + (2 : Int32))) 4 rfl rfl (H.mono (fun x7 H => ?_))
  obtain ⟨hc8, H⟩ := H
  refine mm_R.cV (pc' := 375) (L' := [some ((.retAddr 100)), some ((.ref 0)), some ((.ref 86)), some (.int i3)]) (st1 := [.int x7, .int x6, (.ref 86), .int x5]) (as := [.int x6, .int x7]) (rest := [.int x5]) 0 rfl rfl (mw_sp rfl rfl (Nat.le_of_ble_eq_true rfl) (mw_ac rfl (mw_ac rfl (mw_ac rfl mw_an))) (mw_ac rfl mw_an)) rfl rfl hc8 (H.mono (fun o hp9 H => ?_))
  obtain ⟨x10, rfl, H⟩ := H
  refine mm_R.br (L' := [some ((.retAddr 100)), some ((.ref 0)), some ((.ref 86)), some (.int i3)]) (st' := []) (t := 722) (u := 381) (b := mm_cc .eq x5 x10) 1 rfl (fun c => ?_) (fun c => ?_)
  · replace H := H.1 (of_decide_eq_true c)
    exact H
  · replace H := H.2 (of_decide_eq_false c)
    exact mm_R.rt (pc' := 382) (L' := [some ((.retAddr 100)), some ((.ref 0)), some ((.ref 86)), some (.int i3)]) (st1 := [.int (0 : Int32)]) 1 rfl rfl rfl rfl rfl rfl H
set_option maxRecDepth 10000 in
theorem w209_383 {X : List Int32} {d : Nat} {i3 : Int32} {hp : mm_H} {Q : Option Value → mm_H → Prop} (H : mw_xi X (i3 + (1 : Int32)) (fun x1 => mw_xi X (i3 + (2 : Int32)) (fun x2 => mw_rc (.ref 0) 41 hp ∧ mm_R X d 41 0 (mm_L0 41 [(.ref 0), .int x1, .int x2]) [] hp (mw_ri (fun x5 hp4 => mw_xi X (i3 + (1 : Int32)) (fun x6 => mw_xi X (i3 + (2 : Int32)) (fun x7 => mw_rc (.ref 86) 155 hp4 ∧ mm_R X d 155 0 (mm_L0 155 [(.ref 86), .int x6, .int x7]) [] hp4 (mw_ri (fun x10 hp9 => ((x5 = x10 → mm_R X (d + 1) 209 722 [some ((.retAddr 100)), some ((.ref 0)), some ((.ref 86)), some (.int i3)] [] hp9 Q) ∧ (¬ x5 = x10 → Q (some (.int (0 : Int32))) hp9))))))))))) : mm_R X (d + 1) 209 383 [some ((.retAddr 100)), some ((.ref 0)), some ((.ref 86)), some (.int i3)] [] hp Q := by
  refine mm_R.wxi (pc' := 388) (L' := [some ((.retAddr 100)), some ((.ref 0)), some ((.ref 86)), some (.int i3)]) (r := [(.ref 0)]) (j := (i3 + (1 : Int32))) 5 rfl rfl (H.mono (fun x1 H => ?_))
  refine mm_R.wxi (pc' := 393) (L' := [some ((.retAddr 100)), some ((.ref 0)), some ((.ref 86)), some (.int i3)]) (r := [.int x1, (.ref 0)]) (j := (i3 + (2 : Int32))) 4 rfl rfl (H.mono (fun x2 H => ?_))
  obtain ⟨hc3, H⟩ := H
  refine mm_R.cV (pc' := 394) (L' := [some ((.retAddr 100)), some ((.ref 0)), some ((.ref 86)), some (.int i3)]) (st1 := [.int x2, .int x1, (.ref 0)]) (as := [.int x1, .int x2]) (rest := []) 0 rfl rfl (mw_sp rfl rfl (Nat.le_of_ble_eq_true rfl) (mw_ac rfl (mw_ac rfl (mw_ac rfl mw_an))) mw_an) rfl rfl hc3 (H.mono (fun o hp4 H => ?_))
  obtain ⟨x5, rfl, H⟩ := H
  refine mm_R.wxi (pc' := 402) (L' := [some ((.retAddr 100)), some ((.ref 0)), some ((.ref 86)), some (.int i3)]) (r := [(.ref 86), .int x5]) (j := (i3 + (1 : Int32))) 5 rfl rfl (H.mono (fun x6 H => ?_))
  refine mm_R.wxi (pc' := 407) (L' := [some ((.retAddr 100)), some ((.ref 0)), some ((.ref 86)), some (.int i3)]) (r := [.int x6, (.ref 86), .int x5]) (j := (i3 + (2 : Int32))) 4 rfl rfl (H.mono (fun x7 H => ?_))
  obtain ⟨hc8, H⟩ := H
  refine mm_R.cV (pc' := 408) (L' := [some ((.retAddr 100)), some ((.ref 0)), some ((.ref 86)), some (.int i3)]) (st1 := [.int x7, .int x6, (.ref 86), .int x5]) (as := [.int x6, .int x7]) (rest := [.int x5]) 0 rfl rfl (mw_sp rfl rfl (Nat.le_of_ble_eq_true rfl) (mw_ac rfl (mw_ac rfl (mw_ac rfl mw_an))) (mw_ac rfl mw_an)) rfl rfl hc8 (H.mono (fun o hp9 H => ?_))
  obtain ⟨x10, rfl, H⟩ := H
  refine mm_R.br (L' := [some ((.retAddr 100)), some ((.ref 0)), some ((.ref 86)), some (.int i3)]) (st' := []) (t := 722) (u := 414) (b := mm_cc .eq x5 x10) 1 rfl (fun c => ?_) (fun c => ?_)
  · replace H := H.1 (of_decide_eq_true c)
    exact H
  · replace H := H.2 (of_decide_eq_false c)
    exact mm_R.rt (pc' := 415) (L' := [some ((.retAddr 100)), some ((.ref 0)), some ((.ref 86)), some (.int i3)]) (st1 := [.int (0 : Int32)]) 1 rfl rfl rfl rfl rfl rfl H
set_option maxRecDepth 10000 in
theorem w209_416 {X : List Int32} {d : Nat} {i3 : Int32} {hp : mm_H} {Q : Option Value → mm_H → Prop} (H : mw_xi X (i3 + (1 : Int32)) (fun x1 => mw_rc (.ref 0) 50 hp ∧ mm_R X d 50 0 (mm_L0 50 [(.ref 0), .int x1]) [] hp (mw_ri (fun x4 hp3 => mw_xi X (i3 + (1 : Int32)) (fun x5 => mw_rc (.ref 86) 160 hp3 ∧ mm_R X d 160 0 (mm_L0 160 [(.ref 86), .int x5]) [] hp3 (mw_ri (fun x8 hp7 => ((x4 = x8 → mm_R X (d + 1) 209 722 [some ((.retAddr 100)), some ((.ref 0)), some ((.ref 86)), some (.int i3)] [] hp7 Q) ∧ (¬ x4 = x8 → Q (some (.int (0 : Int32))) hp7))))))))) : mm_R X (d + 1) 209 416 [some ((.retAddr 100)), some ((.ref 0)), some ((.ref 86)), some (.int i3)] [] hp Q := by
  refine mm_R.wxi (pc' := 421) (L' := [some ((.retAddr 100)), some ((.ref 0)), some ((.ref 86)), some (.int i3)]) (r := [(.ref 0)]) (j := (i3 + (1 : Int32))) 5 rfl rfl (H.mono (fun x1 H => ?_))
  obtain ⟨hc2, H⟩ := H
  refine mm_R.cV (pc' := 422) (L' := [some ((.retAddr 100)), some ((.ref 0)), some ((.ref 86)), some (.int i3)]) (st1 := [.int x1, (.ref 0)]) (as := [.int x1]) (rest := []) 0 rfl rfl (mw_sp rfl rfl (Nat.le_of_ble_eq_true rfl) (mw_ac rfl (mw_ac rfl mw_an)) mw_an) rfl rfl hc2 (H.mono (fun o hp3 H => ?_))
  obtain ⟨x4, rfl, H⟩ := H
  refine mm_R.wxi (pc' := 430) (L' := [some ((.retAddr 100)), some ((.ref 0)), some ((.ref 86)), some (.int i3)]) (r := [(.ref 86), .int x4]) (j := (i3 + (1 : Int32))) 5 rfl rfl (H.mono (fun x5 H => ?_))
  obtain ⟨hc6, H⟩ := H
  refine mm_R.cV (pc' := 431) (L' := [some ((.retAddr 100)), some ((.ref 0)), some ((.ref 86)), some (.int i3)]) (st1 := [.int x5, (.ref 86), .int x4]) (as := [.int x5]) (rest := [.int x4]) 0 rfl rfl (mw_sp rfl rfl (Nat.le_of_ble_eq_true rfl) (mw_ac rfl (mw_ac rfl mw_an)) (mw_ac rfl mw_an)) rfl rfl hc6 (H.mono (fun o hp7 H => ?_))
  obtain ⟨x8, rfl, H⟩ := H
  refine mm_R.br (L' := [some ((.retAddr 100)), some ((.ref 0)), some ((.ref 86)), some (.int i3)]) (st' := []) (t := 722) (u := 437) (b := mm_cc .eq x4 x8) 1 rfl (fun c => ?_) (fun c => ?_)
  · replace H := H.1 (of_decide_eq_true c)
    exact H
  · replace H := H.2 (of_decide_eq_false c)
    exact mm_R.rt (pc' := 438) (L' := [some ((.retAddr 100)), some ((.ref 0)), some ((.ref 86)), some (.int i3)]) (st1 := [.int (0 : Int32)]) 1 rfl rfl rfl rfl rfl rfl H
set_option maxRecDepth 10000 in
theorem w209_439 {X : List Int32} {d : Nat} {i3 : Int32} {hp : mm_H} {Q : Option Value → mm_H → Prop} (H : mw_xi X (i3 + (1 : Int32)) (fun x1 => mw_xi X (i3 + (2 : Int32)) (fun x2 => mw_xi X (i3 + (3 : Int32)) (fun x3 => mw_rc (.ref 0) 51 hp ∧ mm_R X d 51 0 (mm_L0 51 [(.ref 0), .int x1, .int x2, .int x3]) [] hp (mw_ri (fun x6 hp5 => mw_xi X (i3 + (1 : Int32)) (fun x7 => mw_xi X (i3 + (2 : Int32)) (fun x8 => mw_xi X (i3 + (3 : Int32)) (fun x9 => mw_rc (.ref 86) 161 hp5 ∧ mm_R X d 161 0 (mm_L0 161 [(.ref 86), .int x7, .int x8, .int x9]) [] hp5 (mw_ri (fun x12 hp11 => ((x6 = x12 → mm_R X (d + 1) 209 722 [some ((.retAddr 100)), some ((.ref 0)), some ((.ref 86)), some (.int i3)] [] hp11 Q) ∧ (¬ x6 = x12 → Q (some (.int (0 : Int32))) hp11))))))))))))) : mm_R X (d + 1) 209 439 [some ((.retAddr 100)), some ((.ref 0)), some ((.ref 86)), some (.int i3)] [] hp Q := by
  refine mm_R.wxi (pc' := 444) (L' := [some ((.retAddr 100)), some ((.ref 0)), some ((.ref 86)), some (.int i3)]) (r := [(.ref 0)]) (j := (i3 + (1 : Int32))) 5 rfl rfl (H.mono (fun x1 H => ?_))
  refine mm_R.wxi (pc' := 449) (L' := [some ((.retAddr 100)), some ((.ref 0)), some ((.ref 86)), some (.int i3)]) (r := [.int x1, (.ref 0)]) (j := (i3 + (2 : Int32))) 4 rfl rfl (H.mono (fun x2 H => ?_))
  refine mm_R.wxi (pc' := 454) (L' := [some ((.retAddr 100)), some ((.ref 0)), some ((.ref 86)), some (.int i3)]) (r := [.int x2, .int x1, (.ref 0)]) (j := (i3 + (3 : Int32))) 4 rfl rfl (H.mono (fun x3 H => ?_))
  obtain ⟨hc4, H⟩ := H
  refine mm_R.cV (pc' := 455) (L' := [some ((.retAddr 100)), some ((.ref 0)), some ((.ref 86)), some (.int i3)]) (st1 := [.int x3, .int x2, .int x1, (.ref 0)]) (as := [.int x1, .int x2, .int x3]) (rest := []) 0 rfl rfl (mw_sp rfl rfl (Nat.le_of_ble_eq_true rfl) (mw_ac rfl (mw_ac rfl (mw_ac rfl (mw_ac rfl mw_an)))) mw_an) rfl rfl hc4 (H.mono (fun o hp5 H => ?_))
  obtain ⟨x6, rfl, H⟩ := H
  refine mm_R.wxi (pc' := 463) (L' := [some ((.retAddr 100)), some ((.ref 0)), some ((.ref 86)), some (.int i3)]) (r := [(.ref 86), .int x6]) (j := (i3 + (1 : Int32))) 5 rfl rfl (H.mono (fun x7 H => ?_))
  refine mm_R.wxi (pc' := 468) (L' := [some ((.retAddr 100)), some ((.ref 0)), some ((.ref 86)), some (.int i3)]) (r := [.int x7, (.ref 86), .int x6]) (j := (i3 + (2 : Int32))) 4 rfl rfl (H.mono (fun x8 H => ?_))
  refine mm_R.wxi (pc' := 473) (L' := [some ((.retAddr 100)), some ((.ref 0)), some ((.ref 86)), some (.int i3)]) (r := [.int x8, .int x7, (.ref 86), .int x6]) (j := (i3 + (3 : Int32))) 4 rfl rfl (H.mono (fun x9 H => ?_))
  obtain ⟨hc10, H⟩ := H
  refine mm_R.cV (pc' := 474) (L' := [some ((.retAddr 100)), some ((.ref 0)), some ((.ref 86)), some (.int i3)]) (st1 := [.int x9, .int x8, .int x7, (.ref 86), .int x6]) (as := [.int x7, .int x8, .int x9]) (rest := [.int x6]) 0 rfl rfl (mw_sp rfl rfl (Nat.le_of_ble_eq_true rfl) (mw_ac rfl (mw_ac rfl (mw_ac rfl (mw_ac rfl mw_an)))) (mw_ac rfl mw_an)) rfl rfl hc10 (H.mono (fun o hp11 H => ?_))
  obtain ⟨x12, rfl, H⟩ := H
  refine mm_R.br (L' := [some ((.retAddr 100)), some ((.ref 0)), some ((.ref 86)), some (.int i3)]) (st' := []) (t := 722) (u := 480) (b := mm_cc .eq x6 x12) 1 rfl (fun c => ?_) (fun c => ?_)
  · replace H := H.1 (of_decide_eq_true c)
    exact H
  · replace H := H.2 (of_decide_eq_false c)
    exact mm_R.rt (pc' := 481) (L' := [some ((.retAddr 100)), some ((.ref 0)), some ((.ref 86)), some (.int i3)]) (st1 := [.int (0 : Int32)]) 1 rfl rfl rfl rfl rfl rfl H
set_option maxRecDepth 10000 in
theorem w209_482 {X : List Int32} {d : Nat} {i3 : Int32} {hp : mm_H} {Q : Option Value → mm_H → Prop} (H : mw_xi X (i3 + (1 : Int32)) (fun x1 => mw_rc (.ref 0) 52 hp ∧ mm_R X d 52 0 (mm_L0 52 [(.ref 0), .int x1]) [] hp (mw_ri (fun x4 hp3 => mw_xi X (i3 + (1 : Int32)) (fun x5 => mw_rc (.ref 86) 162 hp3 ∧ mm_R X d 162 0 (mm_L0 162 [(.ref 86), .int x5]) [] hp3 (mw_ri (fun x8 hp7 => ((x4 = x8 → mm_R X (d + 1) 209 722 [some ((.retAddr 100)), some ((.ref 0)), some ((.ref 86)), some (.int i3)] [] hp7 Q) ∧ (¬ x4 = x8 → Q (some (.int (0 : Int32))) hp7))))))))) : mm_R X (d + 1) 209 482 [some ((.retAddr 100)), some ((.ref 0)), some ((.ref 86)), some (.int i3)] [] hp Q := by
  refine mm_R.wxi (pc' := 487) (L' := [some ((.retAddr 100)), some ((.ref 0)), some ((.ref 86)), some (.int i3)]) (r := [(.ref 0)]) (j := (i3 + (1 : Int32))) 5 rfl rfl (H.mono (fun x1 H => ?_))
  obtain ⟨hc2, H⟩ := H
  refine mm_R.cV (pc' := 488) (L' := [some ((.retAddr 100)), some ((.ref 0)), some ((.ref 86)), some (.int i3)]) (st1 := [.int x1, (.ref 0)]) (as := [.int x1]) (rest := []) 0 rfl rfl (mw_sp rfl rfl (Nat.le_of_ble_eq_true rfl) (mw_ac rfl (mw_ac rfl mw_an)) mw_an) rfl rfl hc2 (H.mono (fun o hp3 H => ?_))
  obtain ⟨x4, rfl, H⟩ := H
  refine mm_R.wxi (pc' := 496) (L' := [some ((.retAddr 100)), some ((.ref 0)), some ((.ref 86)), some (.int i3)]) (r := [(.ref 86), .int x4]) (j := (i3 + (1 : Int32))) 5 rfl rfl (H.mono (fun x5 H => ?_))
  obtain ⟨hc6, H⟩ := H
  refine mm_R.cV (pc' := 497) (L' := [some ((.retAddr 100)), some ((.ref 0)), some ((.ref 86)), some (.int i3)]) (st1 := [.int x5, (.ref 86), .int x4]) (as := [.int x5]) (rest := [.int x4]) 0 rfl rfl (mw_sp rfl rfl (Nat.le_of_ble_eq_true rfl) (mw_ac rfl (mw_ac rfl mw_an)) (mw_ac rfl mw_an)) rfl rfl hc6 (H.mono (fun o hp7 H => ?_))
  obtain ⟨x8, rfl, H⟩ := H
  refine mm_R.br (L' := [some ((.retAddr 100)), some ((.ref 0)), some ((.ref 86)), some (.int i3)]) (st' := []) (t := 722) (u := 503) (b := mm_cc .eq x4 x8) 1 rfl (fun c => ?_) (fun c => ?_)
  · replace H := H.1 (of_decide_eq_true c)
    exact H
  · replace H := H.2 (of_decide_eq_false c)
    exact mm_R.rt (pc' := 504) (L' := [some ((.retAddr 100)), some ((.ref 0)), some ((.ref 86)), some (.int i3)]) (st1 := [.int (0 : Int32)]) 1 rfl rfl rfl rfl rfl rfl H
set_option maxRecDepth 10000 in
theorem w209_505 {X : List Int32} {d : Nat} {i3 : Int32} {hp : mm_H} {Q : Option Value → mm_H → Prop} (H : mw_xi X (i3 + (1 : Int32)) (fun x1 => mw_rc (.ref 0) 53 hp ∧ mm_R X d 53 0 (mm_L0 53 [(.ref 0), .int x1]) [] hp (mw_ri (fun x4 hp3 => mw_xi X (i3 + (1 : Int32)) (fun x5 => mw_rc (.ref 86) 163 hp3 ∧ mm_R X d 163 0 (mm_L0 163 [(.ref 86), .int x5]) [] hp3 (mw_ri (fun x8 hp7 => ((x4 = x8 → mm_R X (d + 1) 209 722 [some ((.retAddr 100)), some ((.ref 0)), some ((.ref 86)), some (.int i3)] [] hp7 Q) ∧ (¬ x4 = x8 → Q (some (.int (0 : Int32))) hp7))))))))) : mm_R X (d + 1) 209 505 [some ((.retAddr 100)), some ((.ref 0)), some ((.ref 86)), some (.int i3)] [] hp Q := by
  refine mm_R.wxi (pc' := 510) (L' := [some ((.retAddr 100)), some ((.ref 0)), some ((.ref 86)), some (.int i3)]) (r := [(.ref 0)]) (j := (i3 + (1 : Int32))) 5 rfl rfl (H.mono (fun x1 H => ?_))
  obtain ⟨hc2, H⟩ := H
  refine mm_R.cV (pc' := 511) (L' := [some ((.retAddr 100)), some ((.ref 0)), some ((.ref 86)), some (.int i3)]) (st1 := [.int x1, (.ref 0)]) (as := [.int x1]) (rest := []) 0 rfl rfl (mw_sp rfl rfl (Nat.le_of_ble_eq_true rfl) (mw_ac rfl (mw_ac rfl mw_an)) mw_an) rfl rfl hc2 (H.mono (fun o hp3 H => ?_))
  obtain ⟨x4, rfl, H⟩ := H
  refine mm_R.wxi (pc' := 519) (L' := [some ((.retAddr 100)), some ((.ref 0)), some ((.ref 86)), some (.int i3)]) (r := [(.ref 86), .int x4]) (j := (i3 + (1 : Int32))) 5 rfl rfl (H.mono (fun x5 H => ?_))
  obtain ⟨hc6, H⟩ := H
  refine mm_R.cV (pc' := 520) (L' := [some ((.retAddr 100)), some ((.ref 0)), some ((.ref 86)), some (.int i3)]) (st1 := [.int x5, (.ref 86), .int x4]) (as := [.int x5]) (rest := [.int x4]) 0 rfl rfl (mw_sp rfl rfl (Nat.le_of_ble_eq_true rfl) (mw_ac rfl (mw_ac rfl mw_an)) (mw_ac rfl mw_an)) rfl rfl hc6 (H.mono (fun o hp7 H => ?_))
  obtain ⟨x8, rfl, H⟩ := H
  refine mm_R.br (L' := [some ((.retAddr 100)), some ((.ref 0)), some ((.ref 86)), some (.int i3)]) (st' := []) (t := 722) (u := 526) (b := mm_cc .eq x4 x8) 1 rfl (fun c => ?_) (fun c => ?_)
  · replace H := H.1 (of_decide_eq_true c)
    exact H
  · replace H := H.2 (of_decide_eq_false c)
    exact mm_R.rt (pc' := 527) (L' := [some ((.retAddr 100)), some ((.ref 0)), some ((.ref 86)), some (.int i3)]) (st1 := [.int (0 : Int32)]) 1 rfl rfl rfl rfl rfl rfl H
set_option maxRecDepth 10000 in
theorem w209_528 {X : List Int32} {d : Nat} {i3 : Int32} {hp : mm_H} {Q : Option Value → mm_H → Prop} (H : mw_xi X (i3 + (1 : Int32)) (fun x1 => mw_rc (.ref 0) 98 hp ∧ mm_R X d 98 0 (mm_L0 98 [(.ref 0), .int x1]) [] hp (mw_ri (fun x4 hp3 => mw_xi X (i3 + (1 : Int32)) (fun x5 => mw_rc (.ref 86) 198 hp3 ∧ mm_R X d 198 0 (mm_L0 198 [(.ref 86), .int x5]) [] hp3 (mw_ri (fun x8 hp7 => ((x4 = x8 → mm_R X (d + 1) 209 722 [some ((.retAddr 100)), some ((.ref 0)), some ((.ref 86)), some (.int i3)] [] hp7 Q) ∧ (¬ x4 = x8 → Q (some (.int (0 : Int32))) hp7))))))))) : mm_R X (d + 1) 209 528 [some ((.retAddr 100)), some ((.ref 0)), some ((.ref 86)), some (.int i3)] [] hp Q := by
  refine mm_R.wxi (pc' := 533) (L' := [some ((.retAddr 100)), some ((.ref 0)), some ((.ref 86)), some (.int i3)]) (r := [(.ref 0)]) (j := (i3 + (1 : Int32))) 5 rfl rfl (H.mono (fun x1 H => ?_))
  obtain ⟨hc2, H⟩ := H
  refine mm_R.cV (pc' := 534) (L' := [some ((.retAddr 100)), some ((.ref 0)), some ((.ref 86)), some (.int i3)]) (st1 := [.int x1, (.ref 0)]) (as := [.int x1]) (rest := []) 0 rfl rfl (mw_sp rfl rfl (Nat.le_of_ble_eq_true rfl) (mw_ac rfl (mw_ac rfl mw_an)) mw_an) rfl rfl hc2 (H.mono (fun o hp3 H => ?_))
  obtain ⟨x4, rfl, H⟩ := H
  refine mm_R.wxi (pc' := 542) (L' := [some ((.retAddr 100)), some ((.ref 0)), some ((.ref 86)), some (.int i3)]) (r := [(.ref 86), .int x4]) (j := (i3 + (1 : Int32))) 5 rfl rfl (H.mono (fun x5 H => ?_))
  obtain ⟨hc6, H⟩ := H
  refine mm_R.cV (pc' := 543) (L' := [some ((.retAddr 100)), some ((.ref 0)), some ((.ref 86)), some (.int i3)]) (st1 := [.int x5, (.ref 86), .int x4]) (as := [.int x5]) (rest := [.int x4]) 0 rfl rfl (mw_sp rfl rfl (Nat.le_of_ble_eq_true rfl) (mw_ac rfl (mw_ac rfl mw_an)) (mw_ac rfl mw_an)) rfl rfl hc6 (H.mono (fun o hp7 H => ?_))
  obtain ⟨x8, rfl, H⟩ := H
  refine mm_R.br (L' := [some ((.retAddr 100)), some ((.ref 0)), some ((.ref 86)), some (.int i3)]) (st' := []) (t := 722) (u := 549) (b := mm_cc .eq x4 x8) 1 rfl (fun c => ?_) (fun c => ?_)
  · replace H := H.1 (of_decide_eq_true c)
    exact H
  · replace H := H.2 (of_decide_eq_false c)
    exact mm_R.rt (pc' := 550) (L' := [some ((.retAddr 100)), some ((.ref 0)), some ((.ref 86)), some (.int i3)]) (st1 := [.int (0 : Int32)]) 1 rfl rfl rfl rfl rfl rfl H
set_option maxRecDepth 10000 in
theorem w209_551 {X : List Int32} {d : Nat} {i3 : Int32} {hp : mm_H} {Q : Option Value → mm_H → Prop} (H : mw_rc (.ref 0) 109 hp ∧ mm_R X d 109 0 (mm_L0 109 [(.ref 0)]) [] hp (mw_ri (fun x3 hp2 => mw_rc (.ref 86) 202 hp2 ∧ mm_R X d 202 0 (mm_L0 202 [(.ref 86)]) [] hp2 (mw_ri (fun x6 hp5 => ((x3 = x6 → mm_R X (d + 1) 209 722 [some ((.retAddr 100)), some ((.ref 0)), some ((.ref 86)), some (.int i3)] [] hp5 Q) ∧ (¬ x3 = x6 → Q (some (.int (0 : Int32))) hp5))))))) : mm_R X (d + 1) 209 551 [some ((.retAddr 100)), some ((.ref 0)), some ((.ref 86)), some (.int i3)] [] hp Q := by
  obtain ⟨hc1, H⟩ := H
  refine mm_R.cV (pc' := 552) (L' := [some ((.retAddr 100)), some ((.ref 0)), some ((.ref 86)), some (.int i3)]) (st1 := [(.ref 0)]) (as := []) (rest := []) 1 rfl rfl (mw_sp rfl rfl (Nat.le_of_ble_eq_true rfl) (mw_ac rfl mw_an) mw_an) rfl rfl hc1 (H.mono (fun o hp2 H => ?_))
  obtain ⟨x3, rfl, H⟩ := H
  obtain ⟨hc4, H⟩ := H
  refine mm_R.cV (pc' := 556) (L' := [some ((.retAddr 100)), some ((.ref 0)), some ((.ref 86)), some (.int i3)]) (st1 := [(.ref 86), .int x3]) (as := []) (rest := [.int x3]) 1 rfl rfl (mw_sp rfl rfl (Nat.le_of_ble_eq_true rfl) (mw_ac rfl mw_an) (mw_ac rfl mw_an)) rfl rfl hc4 (H.mono (fun o hp5 H => ?_))
  obtain ⟨x6, rfl, H⟩ := H
  refine mm_R.br (L' := [some ((.retAddr 100)), some ((.ref 0)), some ((.ref 86)), some (.int i3)]) (st' := []) (t := 722) (u := 562) (b := mm_cc .eq x3 x6) 1 rfl (fun c => ?_) (fun c => ?_)
  · replace H := H.1 (of_decide_eq_true c)
    exact H
  · replace H := H.2 (of_decide_eq_false c)
    exact mm_R.rt (pc' := 563) (L' := [some ((.retAddr 100)), some ((.ref 0)), some ((.ref 86)), some (.int i3)]) (st1 := [.int (0 : Int32)]) 1 rfl rfl rfl rfl rfl rfl H
set_option maxRecDepth 10000 in
theorem w209_564 {X : List Int32} {d : Nat} {i3 : Int32} {hp : mm_H} {Q : Option Value → mm_H → Prop} (H : mw_rc (.ref 0) 110 hp ∧ mm_R X d 110 0 (mm_L0 110 [(.ref 0)]) [] hp (mw_ri (fun x3 hp2 => mw_rc (.ref 86) 203 hp2 ∧ mm_R X d 203 0 (mm_L0 203 [(.ref 86)]) [] hp2 (mw_ri (fun x6 hp5 => ((x3 = x6 → mm_R X (d + 1) 209 722 [some ((.retAddr 100)), some ((.ref 0)), some ((.ref 86)), some (.int i3)] [] hp5 Q) ∧ (¬ x3 = x6 → Q (some (.int (0 : Int32))) hp5))))))) : mm_R X (d + 1) 209 564 [some ((.retAddr 100)), some ((.ref 0)), some ((.ref 86)), some (.int i3)] [] hp Q := by
  obtain ⟨hc1, H⟩ := H
  refine mm_R.cV (pc' := 565) (L' := [some ((.retAddr 100)), some ((.ref 0)), some ((.ref 86)), some (.int i3)]) (st1 := [(.ref 0)]) (as := []) (rest := []) 1 rfl rfl (mw_sp rfl rfl (Nat.le_of_ble_eq_true rfl) (mw_ac rfl mw_an) mw_an) rfl rfl hc1 (H.mono (fun o hp2 H => ?_))
  obtain ⟨x3, rfl, H⟩ := H
  obtain ⟨hc4, H⟩ := H
  refine mm_R.cV (pc' := 569) (L' := [some ((.retAddr 100)), some ((.ref 0)), some ((.ref 86)), some (.int i3)]) (st1 := [(.ref 86), .int x3]) (as := []) (rest := [.int x3]) 1 rfl rfl (mw_sp rfl rfl (Nat.le_of_ble_eq_true rfl) (mw_ac rfl mw_an) (mw_ac rfl mw_an)) rfl rfl hc4 (H.mono (fun o hp5 H => ?_))
  obtain ⟨x6, rfl, H⟩ := H
  refine mm_R.br (L' := [some ((.retAddr 100)), some ((.ref 0)), some ((.ref 86)), some (.int i3)]) (st' := []) (t := 722) (u := 575) (b := mm_cc .eq x3 x6) 1 rfl (fun c => ?_) (fun c => ?_)
  · replace H := H.1 (of_decide_eq_true c)
    exact H
  · replace H := H.2 (of_decide_eq_false c)
    exact mm_R.rt (pc' := 576) (L' := [some ((.retAddr 100)), some ((.ref 0)), some ((.ref 86)), some (.int i3)]) (st1 := [.int (0 : Int32)]) 1 rfl rfl rfl rfl rfl rfl H
set_option maxRecDepth 10000 in
theorem w209_577 {X : List Int32} {d : Nat} {i3 : Int32} {hp : mm_H} {Q : Option Value → mm_H → Prop} (H : mw_rc (.ref 0) 111 hp ∧ mm_R X d 111 0 (mm_L0 111 [(.ref 0)]) [] hp (mw_ri (fun x3 hp2 => mw_rc (.ref 86) 204 hp2 ∧ mm_R X d 204 0 (mm_L0 204 [(.ref 86)]) [] hp2 (mw_ri (fun x6 hp5 => ((x3 = x6 → mm_R X (d + 1) 209 722 [some ((.retAddr 100)), some ((.ref 0)), some ((.ref 86)), some (.int i3)] [] hp5 Q) ∧ (¬ x3 = x6 → Q (some (.int (0 : Int32))) hp5))))))) : mm_R X (d + 1) 209 577 [some ((.retAddr 100)), some ((.ref 0)), some ((.ref 86)), some (.int i3)] [] hp Q := by
  obtain ⟨hc1, H⟩ := H
  refine mm_R.cV (pc' := 578) (L' := [some ((.retAddr 100)), some ((.ref 0)), some ((.ref 86)), some (.int i3)]) (st1 := [(.ref 0)]) (as := []) (rest := []) 1 rfl rfl (mw_sp rfl rfl (Nat.le_of_ble_eq_true rfl) (mw_ac rfl mw_an) mw_an) rfl rfl hc1 (H.mono (fun o hp2 H => ?_))
  obtain ⟨x3, rfl, H⟩ := H
  obtain ⟨hc4, H⟩ := H
  refine mm_R.cV (pc' := 582) (L' := [some ((.retAddr 100)), some ((.ref 0)), some ((.ref 86)), some (.int i3)]) (st1 := [(.ref 86), .int x3]) (as := []) (rest := [.int x3]) 1 rfl rfl (mw_sp rfl rfl (Nat.le_of_ble_eq_true rfl) (mw_ac rfl mw_an) (mw_ac rfl mw_an)) rfl rfl hc4 (H.mono (fun o hp5 H => ?_))
  obtain ⟨x6, rfl, H⟩ := H
  refine mm_R.br (L' := [some ((.retAddr 100)), some ((.ref 0)), some ((.ref 86)), some (.int i3)]) (st' := []) (t := 722) (u := 588) (b := mm_cc .eq x3 x6) 1 rfl (fun c => ?_) (fun c => ?_)
  · replace H := H.1 (of_decide_eq_true c)
    exact H
  · replace H := H.2 (of_decide_eq_false c)
    exact mm_R.rt (pc' := 589) (L' := [some ((.retAddr 100)), some ((.ref 0)), some ((.ref 86)), some (.int i3)]) (st1 := [.int (0 : Int32)]) 1 rfl rfl rfl rfl rfl rfl H
set_option maxRecDepth 10000 in
theorem w209_590 {X : List Int32} {d : Nat} {i3 : Int32} {hp : mm_H} {Q : Option Value → mm_H → Prop} (H : mw_xi X (i3 + (1 : Int32)) (fun x1 => mw_xi X (i3 + (2 : Int32)) (fun x2 => mw_rc (.ref 0) 112 hp ∧ mm_R X d 112 0 (mm_L0 112 [(.ref 0), .int x1, .int x2]) [] hp (mw_ri (fun x5 hp4 => mw_xi X (i3 + (1 : Int32)) (fun x6 => mw_xi X (i3 + (2 : Int32)) (fun x7 => mw_rc (.ref 86) 205 hp4 ∧ mm_R X d 205 0 (mm_L0 205 [(.ref 86), .int x6, .int x7]) [] hp4 (mw_ri (fun x10 hp9 => ((x5 = x10 → mm_R X (d + 1) 209 722 [some ((.retAddr 100)), some ((.ref 0)), some ((.ref 86)), some (.int i3)] [] hp9 Q) ∧ (¬ x5 = x10 → Q (some (.int (0 : Int32))) hp9))))))))))) : mm_R X (d + 1) 209 590 [some ((.retAddr 100)), some ((.ref 0)), some ((.ref 86)), some (.int i3)] [] hp Q := by
  refine mm_R.wxi (pc' := 595) (L' := [some ((.retAddr 100)), some ((.ref 0)), some ((.ref 86)), some (.int i3)]) (r := [(.ref 0)]) (j := (i3 + (1 : Int32))) 5 rfl rfl (H.mono (fun x1 H => ?_))
  refine mm_R.wxi (pc' := 600) (L' := [some ((.retAddr 100)), some ((.ref 0)), some ((.ref 86)), some (.int i3)]) (r := [.int x1, (.ref 0)]) (j := (i3 + (2 : Int32))) 4 rfl rfl (H.mono (fun x2 H => ?_))
  obtain ⟨hc3, H⟩ := H
  refine mm_R.cV (pc' := 601) (L' := [some ((.retAddr 100)), some ((.ref 0)), some ((.ref 86)), some (.int i3)]) (st1 := [.int x2, .int x1, (.ref 0)]) (as := [.int x1, .int x2]) (rest := []) 0 rfl rfl (mw_sp rfl rfl (Nat.le_of_ble_eq_true rfl) (mw_ac rfl (mw_ac rfl (mw_ac rfl mw_an))) mw_an) rfl rfl hc3 (H.mono (fun o hp4 H => ?_))
  obtain ⟨x5, rfl, H⟩ := H
  refine mm_R.wxi (pc' := 609) (L' := [some ((.retAddr 100)), some ((.ref 0)), some ((.ref 86)), some (.int i3)]) (r := [(.ref 86), .int x5]) (j := (i3 + (1 : Int32))) 5 rfl rfl (H.mono (fun x6 H => ?_))
  refine mm_R.wxi (pc' := 614) (L' := [some ((.retAddr 100)), some ((.ref 0)), some ((.ref 86)), some (.int i3)]) (r := [.int x6, (.ref 86), .int x5]) (j := (i3 + (2 : Int32))) 4 rfl rfl (H.mono (fun x7 H => ?_))
  obtain ⟨hc8, H⟩ := H
  refine mm_R.cV (pc' := 615) (L' := [some ((.retAddr 100)), some ((.ref 0)), some ((.ref 86)), some (.int i3)]) (st1 := [.int x7, .int x6, (.ref 86), .int x5]) (as := [.int x6, .int x7]) (rest := [.int x5]) 0 rfl rfl (mw_sp rfl rfl (Nat.le_of_ble_eq_true rfl) (mw_ac rfl (mw_ac rfl (mw_ac rfl mw_an))) (mw_ac rfl mw_an)) rfl rfl hc8 (H.mono (fun o hp9 H => ?_))
  obtain ⟨x10, rfl, H⟩ := H
  refine mm_R.br (L' := [some ((.retAddr 100)), some ((.ref 0)), some ((.ref 86)), some (.int i3)]) (st' := []) (t := 722) (u := 621) (b := mm_cc .eq x5 x10) 1 rfl (fun c => ?_) (fun c => ?_)
  · replace H := H.1 (of_decide_eq_true c)
    exact H
  · replace H := H.2 (of_decide_eq_false c)
    exact mm_R.rt (pc' := 622) (L' := [some ((.retAddr 100)), some ((.ref 0)), some ((.ref 86)), some (.int i3)]) (st1 := [.int (0 : Int32)]) 1 rfl rfl rfl rfl rfl rfl H
set_option maxRecDepth 10000 in
theorem w209_623 {X : List Int32} {d : Nat} {i3 : Int32} {hp : mm_H} {Q : Option Value → mm_H → Prop} (H : mw_xi X (i3 + (1 : Int32)) (fun x1 => mw_xi X (i3 + (2 : Int32)) (fun x2 => mw_xi X (i3 + (3 : Int32)) (fun x3 => mw_rc (.ref 0) 113 hp ∧ mm_R X d 113 0 (mm_L0 113 [(.ref 0), .int x1, .int x2, .int x3]) [] hp (mw_ri (fun x6 hp5 => mw_xi X (i3 + (1 : Int32)) (fun x7 => mw_xi X (i3 + (2 : Int32)) (fun x8 => mw_xi X (i3 + (3 : Int32)) (fun x9 => mw_rc (.ref 86) 206 hp5 ∧ mm_R X d 206 0 (mm_L0 206 [(.ref 86), .int x7, .int x8, .int x9]) [] hp5 (mw_ri (fun x12 hp11 => ((x6 = x12 → mm_R X (d + 1) 209 722 [some ((.retAddr 100)), some ((.ref 0)), some ((.ref 86)), some (.int i3)] [] hp11 Q) ∧ (¬ x6 = x12 → Q (some (.int (0 : Int32))) hp11))))))))))))) : mm_R X (d + 1) 209 623 [some ((.retAddr 100)), some ((.ref 0)), some ((.ref 86)), some (.int i3)] [] hp Q := by
  refine mm_R.wxi (pc' := 628) (L' := [some ((.retAddr 100)), some ((.ref 0)), some ((.ref 86)), some (.int i3)]) (r := [(.ref 0)]) (j := (i3 + (1 : Int32))) 5 rfl rfl (H.mono (fun x1 H => ?_))
  refine mm_R.wxi (pc' := 633) (L' := [some ((.retAddr 100)), some ((.ref 0)), some ((.ref 86)), some (.int i3)]) (r := [.int x1, (.ref 0)]) (j := (i3 + (2 : Int32))) 4 rfl rfl (H.mono (fun x2 H => ?_))
  refine mm_R.wxi (pc' := 638) (L' := [some ((.retAddr 100)), some ((.ref 0)), some ((.ref 86)), some (.int i3)]) (r := [.int x2, .int x1, (.ref 0)]) (j := (i3 + (3 : Int32))) 4 rfl rfl (H.mono (fun x3 H => ?_))
  obtain ⟨hc4, H⟩ := H
  refine mm_R.cV (pc' := 639) (L' := [some ((.retAddr 100)), some ((.ref 0)), some ((.ref 86)), some (.int i3)]) (st1 := [.int x3, .int x2, .int x1, (.ref 0)]) (as := [.int x1, .int x2, .int x3]) (rest := []) 0 rfl rfl (mw_sp rfl rfl (Nat.le_of_ble_eq_true rfl) (mw_ac rfl (mw_ac rfl (mw_ac rfl (mw_ac rfl mw_an)))) mw_an) rfl rfl hc4 (H.mono (fun o hp5 H => ?_))
  obtain ⟨x6, rfl, H⟩ := H
  refine mm_R.wxi (pc' := 647) (L' := [some ((.retAddr 100)), some ((.ref 0)), some ((.ref 86)), some (.int i3)]) (r := [(.ref 86), .int x6]) (j := (i3 + (1 : Int32))) 5 rfl rfl (H.mono (fun x7 H => ?_))
  refine mm_R.wxi (pc' := 652) (L' := [some ((.retAddr 100)), some ((.ref 0)), some ((.ref 86)), some (.int i3)]) (r := [.int x7, (.ref 86), .int x6]) (j := (i3 + (2 : Int32))) 4 rfl rfl (H.mono (fun x8 H => ?_))
  refine mm_R.wxi (pc' := 657) (L' := [some ((.retAddr 100)), some ((.ref 0)), some ((.ref 86)), some (.int i3)]) (r := [.int x8, .int x7, (.ref 86), .int x6]) (j := (i3 + (3 : Int32))) 4 rfl rfl (H.mono (fun x9 H => ?_))
  obtain ⟨hc10, H⟩ := H
  refine mm_R.cV (pc' := 658) (L' := [some ((.retAddr 100)), some ((.ref 0)), some ((.ref 86)), some (.int i3)]) (st1 := [.int x9, .int x8, .int x7, (.ref 86), .int x6]) (as := [.int x7, .int x8, .int x9]) (rest := [.int x6]) 0 rfl rfl (mw_sp rfl rfl (Nat.le_of_ble_eq_true rfl) (mw_ac rfl (mw_ac rfl (mw_ac rfl (mw_ac rfl mw_an)))) (mw_ac rfl mw_an)) rfl rfl hc10 (H.mono (fun o hp11 H => ?_))
  obtain ⟨x12, rfl, H⟩ := H
  refine mm_R.br (L' := [some ((.retAddr 100)), some ((.ref 0)), some ((.ref 86)), some (.int i3)]) (st' := []) (t := 722) (u := 664) (b := mm_cc .eq x6 x12) 1 rfl (fun c => ?_) (fun c => ?_)
  · replace H := H.1 (of_decide_eq_true c)
    exact H
  · replace H := H.2 (of_decide_eq_false c)
    exact mm_R.rt (pc' := 665) (L' := [some ((.retAddr 100)), some ((.ref 0)), some ((.ref 86)), some (.int i3)]) (st1 := [.int (0 : Int32)]) 1 rfl rfl rfl rfl rfl rfl H
set_option maxRecDepth 10000 in
theorem w209_666 {X : List Int32} {d : Nat} {i3 : Int32} {hp : mm_H} {Q : Option Value → mm_H → Prop} (H : mw_xi X (i3 + (1 : Int32)) (fun x1 => mw_rc (.ref 0) 115 hp ∧ mm_R X d 115 0 (mm_L0 115 [(.ref 0), .int x1]) [] hp (mw_ri (fun x4 hp3 => mw_xi X (i3 + (1 : Int32)) (fun x5 => mw_rc (.ref 86) 207 hp3 ∧ mm_R X d 207 0 (mm_L0 207 [(.ref 86), .int x5]) [] hp3 (mw_ri (fun x8 hp7 => ((x4 = x8 → mm_R X (d + 1) 209 722 [some ((.retAddr 100)), some ((.ref 0)), some ((.ref 86)), some (.int i3)] [] hp7 Q) ∧ (¬ x4 = x8 → Q (some (.int (0 : Int32))) hp7))))))))) : mm_R X (d + 1) 209 666 [some ((.retAddr 100)), some ((.ref 0)), some ((.ref 86)), some (.int i3)] [] hp Q := by
  refine mm_R.wxi (pc' := 671) (L' := [some ((.retAddr 100)), some ((.ref 0)), some ((.ref 86)), some (.int i3)]) (r := [(.ref 0)]) (j := (i3 + (1 : Int32))) 5 rfl rfl (H.mono (fun x1 H => ?_))
  obtain ⟨hc2, H⟩ := H
  refine mm_R.cV (pc' := 672) (L' := [some ((.retAddr 100)), some ((.ref 0)), some ((.ref 86)), some (.int i3)]) (st1 := [.int x1, (.ref 0)]) (as := [.int x1]) (rest := []) 0 rfl rfl (mw_sp rfl rfl (Nat.le_of_ble_eq_true rfl) (mw_ac rfl (mw_ac rfl mw_an)) mw_an) rfl rfl hc2 (H.mono (fun o hp3 H => ?_))
  obtain ⟨x4, rfl, H⟩ := H
  refine mm_R.wxi (pc' := 680) (L' := [some ((.retAddr 100)), some ((.ref 0)), some ((.ref 86)), some (.int i3)]) (r := [(.ref 86), .int x4]) (j := (i3 + (1 : Int32))) 5 rfl rfl (H.mono (fun x5 H => ?_))
  obtain ⟨hc6, H⟩ := H
  refine mm_R.cV (pc' := 681) (L' := [some ((.retAddr 100)), some ((.ref 0)), some ((.ref 86)), some (.int i3)]) (st1 := [.int x5, (.ref 86), .int x4]) (as := [.int x5]) (rest := [.int x4]) 0 rfl rfl (mw_sp rfl rfl (Nat.le_of_ble_eq_true rfl) (mw_ac rfl (mw_ac rfl mw_an)) (mw_ac rfl mw_an)) rfl rfl hc6 (H.mono (fun o hp7 H => ?_))
  obtain ⟨x8, rfl, H⟩ := H
  refine mm_R.br (L' := [some ((.retAddr 100)), some ((.ref 0)), some ((.ref 86)), some (.int i3)]) (st' := []) (t := 722) (u := 687) (b := mm_cc .eq x4 x8) 1 rfl (fun c => ?_) (fun c => ?_)
  · replace H := H.1 (of_decide_eq_true c)
    exact H
  · replace H := H.2 (of_decide_eq_false c)
    exact mm_R.rt (pc' := 688) (L' := [some ((.retAddr 100)), some ((.ref 0)), some ((.ref 86)), some (.int i3)]) (st1 := [.int (0 : Int32)]) 1 rfl rfl rfl rfl rfl rfl H
set_option maxRecDepth 10000 in
theorem w209_689 {X : List Int32} {d : Nat} {i3 : Int32} {hp : mm_H} {Q : Option Value → mm_H → Prop} (H : mw_xi X (i3 + (1 : Int32)) (fun x1 => mw_xi X (i3 + (2 : Int32)) (fun x2 => mw_rc (.ref 0) 117 hp ∧ mm_R X d 117 0 (mm_L0 117 [(.ref 0), .int x1, .int x2]) [] hp (mw_ri (fun x5 hp4 => mw_xi X (i3 + (1 : Int32)) (fun x6 => mw_xi X (i3 + (2 : Int32)) (fun x7 => mw_rc (.ref 86) 208 hp4 ∧ mm_R X d 208 0 (mm_L0 208 [(.ref 86), .int x6, .int x7]) [] hp4 (mw_ri (fun x10 hp9 => ((x5 = x10 → mm_R X (d + 1) 209 722 [some ((.retAddr 100)), some ((.ref 0)), some ((.ref 86)), some (.int i3)] [] hp9 Q) ∧ (¬ x5 = x10 → Q (some (.int (0 : Int32))) hp9))))))))))) : mm_R X (d + 1) 209 689 [some ((.retAddr 100)), some ((.ref 0)), some ((.ref 86)), some (.int i3)] [] hp Q := by
  refine mm_R.wxi (pc' := 694) (L' := [some ((.retAddr 100)), some ((.ref 0)), some ((.ref 86)), some (.int i3)]) (r := [(.ref 0)]) (j := (i3 + (1 : Int32))) 5 rfl rfl (H.mono (fun x1 H => ?_))
  refine mm_R.wxi (pc' := 699) (L' := [some ((.retAddr 100)), some ((.ref 0)), some ((.ref 86)), some (.int i3)]) (r := [.int x1, (.ref 0)]) (j := (i3 + (2 : Int32))) 4 rfl rfl (H.mono (fun x2 H => ?_))
  obtain ⟨hc3, H⟩ := H
  refine mm_R.cV (pc' := 700) (L' := [some ((.retAddr 100)), some ((.ref 0)), some ((.ref 86)), some (.int i3)]) (st1 := [.int x2, .int x1, (.ref 0)]) (as := [.int x1, .int x2]) (rest := []) 0 rfl rfl (mw_sp rfl rfl (Nat.le_of_ble_eq_true rfl) (mw_ac rfl (mw_ac rfl (mw_ac rfl mw_an))) mw_an) rfl rfl hc3 (H.mono (fun o hp4 H => ?_))
  obtain ⟨x5, rfl, H⟩ := H
  refine mm_R.wxi (pc' := 708) (L' := [some ((.retAddr 100)), some ((.ref 0)), some ((.ref 86)), some (.int i3)]) (r := [(.ref 86), .int x5]) (j := (i3 + (1 : Int32))) 5 rfl rfl (H.mono (fun x6 H => ?_))
  refine mm_R.wxi (pc' := 713) (L' := [some ((.retAddr 100)), some ((.ref 0)), some ((.ref 86)), some (.int i3)]) (r := [.int x6, (.ref 86), .int x5]) (j := (i3 + (2 : Int32))) 4 rfl rfl (H.mono (fun x7 H => ?_))
  obtain ⟨hc8, H⟩ := H
  refine mm_R.cV (pc' := 714) (L' := [some ((.retAddr 100)), some ((.ref 0)), some ((.ref 86)), some (.int i3)]) (st1 := [.int x7, .int x6, (.ref 86), .int x5]) (as := [.int x6, .int x7]) (rest := [.int x5]) 0 rfl rfl (mw_sp rfl rfl (Nat.le_of_ble_eq_true rfl) (mw_ac rfl (mw_ac rfl (mw_ac rfl mw_an))) (mw_ac rfl mw_an)) rfl rfl hc8 (H.mono (fun o hp9 H => ?_))
  obtain ⟨x10, rfl, H⟩ := H
  refine mm_R.br (L' := [some ((.retAddr 100)), some ((.ref 0)), some ((.ref 86)), some (.int i3)]) (st' := []) (t := 722) (u := 720) (b := mm_cc .eq x5 x10) 1 rfl (fun c => ?_) (fun c => ?_)
  · replace H := H.1 (of_decide_eq_true c)
    exact H
  · replace H := H.2 (of_decide_eq_false c)
    exact mm_R.rt (pc' := 721) (L' := [some ((.retAddr 100)), some ((.ref 0)), some ((.ref 86)), some (.int i3)]) (st1 := [.int (0 : Int32)]) 1 rfl rfl rfl rfl rfl rfl H
set_option maxRecDepth 10000 in
theorem w209_722 {X : List Int32} {d : Nat} {i3 : Int32} {hp : mm_H} {Q : Option Value → mm_H → Prop} (H : mm_R X (d + 1) 209 18 [some ((.retAddr 100)), some ((.ref 0)), some ((.ref 86)), some (.int (i3 + (5 : Int32)))] [] hp Q) : mm_R X (d + 1) 209 722 [some ((.retAddr 100)), some ((.ref 0)), some ((.ref 86)), some (.int i3)] [] hp Q := by
  exact mm_R.pn (pc' := 18) (L' := [some ((.retAddr 100)), some ((.ref 0)), some ((.ref 86)), some (.int (i3 + (5 : Int32)))]) (st' := []) 2 rfl H
