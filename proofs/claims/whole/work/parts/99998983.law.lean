/-! THE LAW -/
def mz : mS := (fun _ => 0, fun b j => if b = 105 then -1 else if b = 90 ∧ j < 3 then 1 else 0, fun _ _ => 0)
def eZ : mEv := (fun _ => .leaf none, [], [])
def jZ : Nat → List Value := fun _ => List.replicate 16 .null
def hZ : mm_H := mc_H0 ++ mc_H1
set_option maxRecDepth 100000 in
theorem mz_R : mR hZ mz := by
  refine ⟨?_, ?_, ?_⟩
  · decide +kernel
  · decide +kernel
  · decide +kernel
theorem mz_slot {A : Nat → Prop} {c : Nat} (hc : c < 3) : mSlot mz A c (mt_tk (.leaf none) 0) := by
  refine ⟨by omega, ?_, ?_, fun i hi => ?_⟩
  · show 1 ≤ mcp c
    unfold mcp; rw [if_pos (by omega)]; omega
  · show (if 90 = 105 then (-1 : Int32) else if 90 = 90 ∧ c < 3 then 1 else 0) = nI 1
    rw [if_neg (by decide), if_pos ⟨rfl, hc⟩]; rfl
  · have : i = 0 := by have : i < 1 := hi; omega
    subst this
    refine ⟨by show 0 < 4; decide, by show 0 < 64; decide, by show 0 < 64; decide, 0, by show 0 + 0 ≤ 19200; decide, ?_, fun j hj => absurd hj (Nat.not_lt_zero _)⟩
    show (0 : Int64) = lN (ml_p 0 0 0 0 (0 : Int32).toBitVec.toNat)
    decide
theorem eZ_st (s : Nat) : eSt eZ s = s0 := rfl
theorem mz_E : sE mz eZ := by
  refine ⟨rfl, rfl, fun i hi => ⟨rfl, rfl, fun p hp => absurd hp (Nat.not_lt_zero _)⟩, fun s hs => ⟨rfl, rfl, rfl, Or.inl ⟨rfl, rfl⟩, fun p hp4 => ⟨rfl, fun k hk => absurd hk (Nat.not_lt_zero _), rfl, rfl, Or.inl ⟨rfl, rfl⟩, Or.inl ⟨rfl, rfl⟩⟩⟩, fun c hc => mz_slot hc⟩
theorem mz_S : SI mz [] eZ n0 := by
  refine ⟨⟨⟨Nat.zero_le _, fun c hc => nomatch hc⟩, rfl, fun i hi => absurd hi (Nat.not_lt_zero _)⟩, mz_E, rfl, ⟨⟨rfl, rfl, rfl, rfl, rfl, rfl⟩, fun s hs => ⟨rfl, fun e => absurd (show 0 = 2 from e) (by decide)⟩⟩, fun e => absurd (show 0 = 1 from e) (by decide)⟩
theorem gOk_0 : gOk g0 := ⟨Nat.zero_le _, fun e => absurd (show 0 = 1 from e) (by decide), fun e => absurd (show 0 = 2 from e) (by decide)⟩
theorem mz_A : AI eZ (fun _ => 0) (fun _ => 0) n0 := by
  refine ⟨⟨⟨fun i hi => absurd hi (Nat.not_lt_zero _), fun i hi => absurd hi (Nat.not_lt_zero _), fun c hc => mt_gd_nul⟩, Nat.zero_le _, Nat.zero_le _, fun s hs => absurd hs (Nat.not_lt_zero _), fun i => Nat.zero_le _⟩, fun e => absurd (show 0 = 1 from e) (by decide), fun _ => rfl, Nat.zero_le _, fun k _ => rfl, fun s => gOk_0, Nat.zero_le _, fun s _ => rfl, fun i j hi => absurd hi (Nat.not_lt_zero _), fun i j hi => absurd hi (Nat.not_lt_zero _), fun _ => rfl⟩
theorem mz_null {q : Nat} (h : q = 4 ∨ q = 6 ∨ q = 8 ∨ q = 14) : cSc hZ none q := by
  rcases h with rfl | rfl | rfl | rfl <;> exact ⟨0, [], rfl, rfl, fun e => absurd (show 0 = 1 from e) (by decide), Nat.zero_le _⟩
theorem mz_rm {q : Nat} (h : q = 21 ∨ q = 23 ∨ q = 32 ∨ q = 38 ∨ q = 44 ∨ q = 50) : cRm hZ q := by
  rcases h with rfl | rfl | rfl | rfl | rfl | rfl <;> exact ⟨_, _, _, _, _, _, rfl, rfl, rfl⟩
theorem mz_lr {q : Nat} (h : q = 28 ∨ q = 30 ∨ q = 34 ∨ q = 36 ∨ q = 40 ∨ q = 42 ∨ q = 46 ∨ q = 48) : cLr hZ q := by
  rcases h with rfl | rfl | rfl | rfl | rfl | rfl | rfl | rfl <;> exact ⟨_, _, _, _, _, _, rfl, rfl, rfl⟩
theorem mz_x : cEx hZ := by
  refine ⟨rfl, rfl, rfl, rfl, mz_null (by omega), ⟨0, [], rfl, rfl, fun e => absurd (show 2 = 1 from e) (by decide), Nat.zero_le _⟩, mz_rm (by omega), mz_rm (by omega), fun p hp => ⟨mz_rm (by omega), mz_lr (by omega), mz_lr (by omega)⟩, ⟨fun _ => 14, rfl⟩, ⟨fun _ => 14, rfl⟩, ⟨fun _ => 14, rfl⟩⟩
theorem z4_int : ∀ v ∈ [Value.int 0, Value.int 0, Value.int 0, Value.int 0], ∃ x, v = .int x := fun v hv => ⟨0, by simp at hv; exact hv⟩
theorem mz_pv {s : Nat} (hs : s < 6) : cPv hZ s [] 0 0 0 0 0 .null := by
  match s, hs with
  | 0, _ => exact ⟨[.int 0, .int 0, .int 0, .int 0], rfl, rfl, rfl, z4_int⟩
  | 1, _ => exact ⟨[.int 0, .int 0, .int 0, .int 0], rfl, rfl, rfl, z4_int⟩
  | 2, _ => exact ⟨[.int 0, .int 0, .int 0, .int 0], rfl, rfl, rfl, z4_int⟩
  | 3, _ => exact ⟨[.int 0, .int 0, .int 0, .int 0], rfl, rfl, rfl, z4_int⟩
  | 4, _ => exact ⟨[.int 0, .int 0, .int 0, .int 0], rfl, rfl, rfl, z4_int⟩
  | 5, _ => exact ⟨[.int 0, .int 0, .int 0, .int 0], rfl, rfl, rfl, z4_int⟩
theorem mz_c : ∀ s, s < 6 → hZ[57 + 5 * s]? = some (2009, List.replicate 16 .null) ∧ hZ[58 + 5 * s]? = some (2002, List.replicate 16 .null) ∧ hZ[60 + 5 * s]? = some (2, [.null, .null, .int 3, .int 0, .int 0, .int 1, .int 2])
  | 0, _ => ⟨rfl, rfl, rfl⟩
  | 1, _ => ⟨rfl, rfl, rfl⟩
  | 2, _ => ⟨rfl, rfl, rfl⟩
  | 3, _ => ⟨rfl, rfl, rfl⟩
  | 4, _ => ⟨rfl, rfl, rfl⟩
  | 5, _ => ⟨rfl, rfl, rfl⟩
theorem mz_pr {s : Nat} (hs : s < 6) : cPr hZ s g0 (jZ s) := by
  obtain ⟨c1, c2, c3⟩ := mz_c s hs
  refine ⟨[], 0, 0, 0, 0, .null, List.replicate 16 .null, mz_pv hs, ⟨c1, rfl, fun n hn => Or.inl ?_⟩, ⟨c2, rfl⟩, fun h => absurd h (Nat.not_lt_zero _), Or.inl rfl, c3, fun _ => ⟨rfl, rfl, rfl, rfl, fun i hi => ?_⟩, fun e => absurd (show 0 = 1 from e) (by decide), fun e => absurd (show 0 = 2 from e) (by decide)⟩
  · exact List.eq_of_mem_replicate (List.getElem_mem hn)
  · rw [List.getElem?_replicate, if_pos hi]
theorem mz_C : CI hZ [] 0 eZ (fun _ => 0) (fun _ => 0) n0 jZ := by
  refine ⟨rfl, ⟨⟨Nat.zero_le _, fun c hc => nomatch hc⟩, rfl, List.replicate 60 (.int 0), rfl, rfl⟩, mz_x, ⟨⟨[.ref 4, .ref 6, .ref 8], rfl, rfl, fun c hc => ?_⟩, ⟨[.null, .null, .null, .null], rfl, rfl, Nat.zero_le _, fun i hi => absurd hi (Nat.not_lt_zero _)⟩, ⟨[.null, .null, .null, .null, .null, .null], rfl, rfl, Nat.zero_le _, fun i hi => absurd hi (Nat.not_lt_zero _)⟩⟩, ⟨⟨.ref 54, .ref 55, rfl, Or.inr ⟨_, rfl⟩, Or.inr ⟨_, rfl⟩, fun h => absurd rfl h⟩, rfl, ⟨[.null, .null, .null], rfl, rfl, fun v hv => Or.inl ?_, Nat.zero_le _, fun k s n h => nomatch h⟩, fun s hs => mz_pr hs⟩, ?_⟩
  · match c, hc with
    | 0, _ => exact ⟨4, rfl, by unfold cS; omega, cT_leaf.mpr (mz_null (by omega))⟩
    | 1, _ => exact ⟨6, rfl, by unfold cS; omega, cT_leaf.mpr (mz_null (by omega))⟩
    | 2, _ => exact ⟨8, rfl, by unfold cS; omega, cT_leaf.mpr (mz_null (by omega))⟩
  · simp at hv; exact hv
  · decide +kernel
set_option maxRecDepth 100000 in
theorem mz_G : GI hZ jZ 0 := by
  refine ⟨?_, ?_⟩
  · decide +kernel
  · decide +kernel
theorem mz_I (X : List Int32) : IV X 0 hZ := ⟨[], 0, eZ, fun _ => 0, fun _ => 0, n0, jZ, mz, mz_C, mz_R, mz_S, mz_A, ⟨0, rfl, Nat.zero_le _, fun c hc => mz_slot hc, fun s p t hs hp e => nomatch e⟩, mz_G⟩
theorem mm_law : mm_Law 2560 := by
  refine mL_law 2560 (Nat.le_refl _) IV (fun X => mz_I X) (fun X t hp h => ?_) (fun X t hp h => ?_) (fun X t hp h => h.up) (fun X t hp y1 y2 y3 y4 hX h5 I => ?_)
  · obtain ⟨D, x, E, tr, sr, R, JL, σ, hC, _⟩ := h
    exact ⟨_, hC.1⟩
  · obtain ⟨D, x, E, tr, sr, R, JL, σ, _, _, _, _, _, g1, g2⟩ := h
    have := Nat.min_le_right t 512
    exact ⟨by omega, by omega⟩
  · have ht : t < 512 := by omega
    exact ⟨ob_write I ht, ob_tool I ht, ob_port I ht, ob_newstep I ht, ob_link I ht, ob_gather I ht, ob_preset I ht, ob_from I ht, ob_when I ht, ob_scatter I ht, ob_input I ht, ob_start I ht, ob_finish I ht, ob_status I, ob_running I, ob_started I, ob_job I, ob_word I, ob_state I, ob_output I⟩
