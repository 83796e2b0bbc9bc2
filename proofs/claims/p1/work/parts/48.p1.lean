/-! ONE CALL ON A FRESH OBJECT -/
def mp_H : mm_H := mc_H0 ++ mc_H1
def mp_ok (hp : mm_H) : Prop := (∃ vs, hp[0]? = some (0, vs)) ∧ hp.length ≤ 600000 ∧ mm_sz hp ≤ 7302250
def mp_I (_X : List Int32) (t : Nat) (hp : mm_H) : Prop := (t = 0 ∧ hp = mp_H) ∨ (1 ≤ t ∧ mp_ok hp)
def mp_okb (hp : mm_H) : Bool := (match hp[0]? with | some c => c.1 == 0 | none => false) && Nat.ble hp.length 600000 && Nat.ble (mm_sz hp) 7302250
theorem mp_okb_ok {hp : mm_H} (h : mp_okb hp = true) : mp_ok hp := by
  unfold mp_okb at h
  rw [Bool.and_eq_true, Bool.and_eq_true] at h
  obtain ⟨⟨h1, h2⟩, h3⟩ := h
  refine ⟨?_, Nat.le_of_ble_eq_true h2, Nat.le_of_ble_eq_true h3⟩
  split at h1
  · rename_i c hc
    obtain ⟨c1, c2⟩ := c
    obtain rfl : c1 = 0 := eq_of_beq h1
    exact ⟨c2, hc⟩
  · cases h1
def mp_chk (n kx km : Nat) (as : List Value) : Bool := match mm_evN n 999 kx 0 (mm_L0 kx (.ref 0 :: as)) [] mp_H with
  | some (some (.int x), hp1) => (match hp1[86]? with
    | some c => c.1 == mm_mc km && (match mm_evN n 999 km 0 (mm_L0 km (.ref 86 :: as)) [] hp1 with
      | some (some (.int y), hp2) => x == y && mp_okb hp2
      | _ => false)
    | none => false)
  | _ => false
theorem mp_cl {X : List Int32} {kx km : Nat} {as : List Value} (n : Nat) (h : mp_chk n kx km as = true) : mL_ob X (mp_I X) 0 mp_H kx km as := by
  unfold mp_chk at h
  split at h
  · rename_i x hp1 h1
    split at h
    · rename_i c hc
      rw [Bool.and_eq_true] at h
      obtain ⟨e, h⟩ := h
      split at h
      · rename_i y hp2 h2
        rw [Bool.and_eq_true] at h
        obtain ⟨e2, h3⟩ := h
        obtain rfl : x = y := eq_of_beq e2
        obtain ⟨c1, c2⟩ := c
        obtain rfl : c1 = mm_mc km := eq_of_beq e
        exact ⟨n, _, _, mm_evN_ok _ _ _ _ _ _ _ _ h1, x, rfl, ⟨86, c2, rfl, hc⟩, ⟨n, _, _, mm_evN_ok _ _ _ _ _ _ _ _ h2, rfl, Or.inr ⟨Nat.le_refl _, mp_okb_ok h3⟩⟩⟩
      · cases h
    · cases h
  · cases h
def mp_s : mS := (fun _ => 0, fun a i => if a = 90 ∧ i < 3 then 1 else if a = 105 then -1 else 0, fun _ _ => 0)
theorem mp_k {hp : mm_H} {a t n : Nat} {w : Value} {f : Nat → Value} (h : hp[a]? = some (t, List.replicate n w)) (hf : ∀ i, f i = w) : hp[a]? = some (t, (List.range n).map f) := by
  rw [h, show f = (fun _ => w) from funext hf, List.map_const', List.length_range]
set_option maxRecDepth 100000 in
theorem mp_R : mR mp_H mp_s := by
  refine ⟨rfl, ?_, ?_⟩
  · decide +kernel
  · intro e he
    simp only [mAl, List.mem_cons, List.not_mem_nil, or_false] at he
    rcases he with rfl | rfl
    · exact mp_k (w := .long 0) rfl (fun _ => rfl)
    · exact mp_k (w := .long 0) rfl (fun _ => rfl)
set_option maxRecDepth 100000 in
theorem mp_o : mp_okb mp_H = true := by decide +kernel
/-- what the class left, then the reference -/
theorem mp_fin {X : List Int32} {km : Nat} {as : List Value} {x : Int32} {hp1 : mm_H} (R : mR hp1 mp_s) (ok : mp_ok hp1) (hk : mm_mc km = 10) (H : mM X 999 km 0 (mm_L0 km (.ref 86 :: as)) [] mp_s (fun r _ => r = some (.int x))) :
    ∃ y, some (Value.int x) = some (.int y) ∧ mw_rc (.ref 86) km hp1 ∧ mm_R X 999 km 0 (mm_L0 km (.ref 86 :: as)) [] hp1 (fun r2 hp2 => r2 = some (.int y) ∧ mp_I X (0 + 1) hp2) := by
  refine ⟨x, rfl, m_rc R hk, (H hp1 R).mono (fun r hp2 h => ?_)⟩
  obtain ⟨σ', R', F, e⟩ := h
  refine ⟨e, Or.inr ⟨Nat.le_refl _, ?_, ?_, ?_⟩⟩
  · rw [F.2 0 (Or.inl (by omega))]; exact ok.1
  · rw [F.1]; exact ok.2.1
  · rw [mR_sz R R' F]; exact ok.2.2
theorem mp_fin0 {X : List Int32} {km : Nat} {as : List Value} {x : Int32} (hk : mm_mc km = 10) (H : mM X 999 km 0 (mm_L0 km (.ref 86 :: as)) [] mp_s (fun r _ => r = some (.int x))) :
    ∃ y, some (Value.int x) = some (.int y) ∧ mw_rc (.ref 86) km mp_H ∧ mm_R X 999 km 0 (mm_L0 km (.ref 86 :: as)) [] mp_H (fun r2 hp2 => r2 = some (.int y) ∧ mp_I X (0 + 1) hp2) := mp_fin mp_R (mp_okb_ok mp_o) hk H
def mp_c0 : List Value := [.ref 1, .ref 3, .ref 10, .int 0, .ref 11, .int 0, .ref 12]
def mp_c12 : List Value := [.ref 13, .ref 52, .ref 53, .int 0, .int 0, .ref 54, .ref 55, .int 0, .int 0, .int 0, .int 0]
theorem mp_h0 : mp_H[0]? = some (0, mp_c0) := rfl
theorem mp_h12 : mp_H[12]? = some (3, mp_c12) := rfl
theorem mp_h1 : mp_H[1]? = some (1, [.ref 2, .int 0, .int 0]) := rfl
theorem mp_h2 : mp_H[2]? = some (1001, List.replicate 60 (.int 0)) := rfl
section MP
variable {X : List Int32} {d : Nat} {hp : mm_H} {Q : Option Value → mm_H → Prop} {i1 i2 i3 i4 : Int32}
theorem mp_16 (h12 : hp[12]? = some (3, mp_c12)) (H : Q (some (.int 0)) hp) : mm_R X (d + 1) 16 0 (mm_L0 16 [.ref 12]) [] hp Q :=
  w16_0 ⟨12, _, _, rfl, h12, rfl, fun _ => H, fun h => absurd h (by decide)⟩
theorem mp_23 (h0 : hp[0]? = some (0, mp_c0)) (h12 : hp[12]? = some (3, mp_c12)) (H : Q (some .null) hp) : mm_R X (d + 2) 23 0 (mm_L0 23 [.ref 0, .int i1]) [] hp Q :=
  w23_0 ⟨0, _, _, rfl, h0, rfl, ⟨12, _, rfl, h12⟩, mp_16 h12 ⟨_, rfl, fun h => absurd rfl h, fun _ => ⟨fun _ => H, fun h => ⟨0, _, _, rfl, h0, rfl, fun h2 => absurd h2 h, fun _ => H⟩⟩⟩⟩
theorem mp_100 (h12 : hp[12]? = some (3, mp_c12)) (H : Q (some .null) hp) : mm_R X (d + 1) 100 0 (mm_L0 100 [.ref 12, .int i1]) [] hp Q :=
  w100_0 ⟨fun _ => H, fun h => ⟨12, _, _, rfl, h12, rfl, fun _ => H, fun h2 => absurd (Int32.not_lt.mp h) h2⟩⟩
theorem mp_116 (h12 : hp[12]? = some (3, mp_c12)) (H : Q (some (.int 0)) hp) : mm_R X (d + 1) 116 0 (mm_L0 116 [.ref 12, .int i1]) [] hp Q :=
  w116_0 ⟨fun _ => H, fun h => ⟨12, _, _, rfl, h12, rfl, fun h2 => absurd h2 h, fun _ => H⟩⟩
end MP
section MPR
variable {X : List Int32} {d : Nat} {Q : Option Value → mS → Prop} {i1 i2 i3 i4 : Int32}
theorem mp_126 (H : Q (some (.int 1)) mp_s) : mM X (d + 1) 126 0 (mm_L0 126 [.ref 86]) [] mp_s Q := u126_0 ⟨fun h => absurd h (by decide), fun _ => H⟩
theorem mp_131 (H : Q (some (.int 0)) mp_s) : mM X (d + 1) 131 0 (mm_L0 131 [.ref 86, .int i1]) [] mp_s Q := u131_0 ⟨fun _ => H, fun h => ⟨fun _ => H, fun h2 => absurd (Int32.not_lt.mp h) h2⟩⟩
end MPR
