/-- the machine comes from here to a return with Q -/
def mm_R (X : List Int32) (d mi pc : Nat) (L : mm_L) (st : List Value) (hp : mm_H) (Q : Option Value → mm_H → Prop) : Prop := ∃ n r hp', mm_ev X n d mi pc L st hp = some (r, hp') ∧ Q r hp'
section MME
variable {X : List Int32} {n d mi pc : Nat} {L : mm_L} {st : List Value} {hp : mm_H} {i : Instr} {len : Nat} {a : mm_A}
theorem mm_ev_ps {f : mm_F} (hc : mm_code mi pc = some (i, len, a)) (h : mm_ps i len a pc L st = some f) : mm_ev X (n + 1) d mi pc L st hp = mm_ev X n d mi f.1 f.2.1 f.2.2 hp := by
  rw [mm_ev]
  simp only [hc, h]
theorem mm_ev_hs {g : List Value × mm_H} (hc : mm_code mi pc = some (i, len, a)) (h0 : mm_ps i len a pc L st = none) (h : mm_hs X i a st hp = some g) : mm_ev X (n + 1) d mi pc L st hp = mm_ev X n d mi (pc + len) L g.1 g.2 := by
  rw [mm_ev]
  simp only [hc, h0, h]
theorem mm_ev_prim {q : List Value × List Value} {v : Option Value} (hc : mm_code mi pc = some (i, len, a)) (h0 : mm_ps i len a pc L st = none) (h1 : mm_hs X i a st hp = none) (h2 : mm_iv i = true) (h3 : mm_sp a.2.1 st = some q) (h4 : Nat.ble 9000 a.1 = true) (h5 : mm_pm a.1 d q.1 = some v) : mm_ev X (n + 1) (d + 1) mi pc L st hp = mm_ev X n (d + 1) mi (pc + len) L (v.toList ++ q.2) hp := by
  rw [mm_ev]
  simp only [hc, h0, h1, h2, h3, h4, h5, cond_true]
theorem mm_ev_call {q : List Value × List Value} {z : Option Value × mm_H} (hc : mm_code mi pc = some (i, len, a)) (h0 : mm_ps i len a pc L st = none) (h1 : mm_hs X i a st hp = none) (h2 : mm_iv i = true) (h3 : mm_sp a.2.1 st = some q) (h4 : Nat.ble 9000 a.1 = false) (h5 : (mm_rc i a.1 q.1 hp && Nat.ble q.1.length (mm_ml a.1)) = true) (h6 : mm_ev X n d a.1 0 (mm_L0 a.1 q.1) [] hp = some z) : mm_ev X (n + 1) (d + 1) mi pc L st hp = mm_ev X n (d + 1) mi (pc + len) L (z.1.toList ++ q.2) z.2 := by
  rw [mm_ev]
  simp only [hc, h0, h1, h2, h3, h4, h5, h6, cond_true, cond_false]
theorem mm_ev_ret {r : Option Value} (hc : mm_code mi pc = some (i, len, a)) (h0 : mm_ps i len a pc L st = none) (h1 : mm_hs X i a st hp = none) (h2 : mm_iv i = false) (h3 : mm_rv i (mm_rt mi) st = some r) : mm_ev X (n + 1) d mi pc L st hp = some (r, hp) := by
  rw [mm_ev]
  simp only [hc, h0, h1, h2, h3, cond_false]
end MME
/-- one turn, with all that was asked -/
theorem mm_ev_inv2 {X : List Int32} {n d mi pc : Nat} {L : mm_L} {st : List Value} {hp hp' : mm_H} {r : Option Value} (h : mm_ev X (n + 1) d mi pc L st hp = some (r, hp')) :
    ∃ i len a, mm_code mi pc = some (i, len, a) ∧
      ((∃ f, mm_ps i len a pc L st = some f ∧ mm_ev X n d mi f.1 f.2.1 f.2.2 hp = some (r, hp')) ∨
       (mm_ps i len a pc L st = none ∧ ∃ g, mm_hs X i a st hp = some g ∧ mm_ev X n d mi (pc + len) L g.1 g.2 = some (r, hp')) ∨
       (mm_ps i len a pc L st = none ∧ mm_hs X i a st hp = none ∧ ∃ d' q v, d = d' + 1 ∧ mm_iv i = true ∧ mm_sp a.2.1 st = some q ∧ Nat.ble 9000 a.1 = true ∧ mm_pm a.1 d' q.1 = some v ∧ mm_ev X n d mi (pc + len) L (v.toList ++ q.2) hp = some (r, hp')) ∨
       (mm_ps i len a pc L st = none ∧ mm_hs X i a st hp = none ∧ ∃ d' q z, d = d' + 1 ∧ mm_iv i = true ∧ mm_sp a.2.1 st = some q ∧ Nat.ble 9000 a.1 = false ∧ (mm_rc i a.1 q.1 hp && Nat.ble q.1.length (mm_ml a.1)) = true ∧ mm_ev X n d' a.1 0 (mm_L0 a.1 q.1) [] hp = some z ∧ mm_ev X n d mi (pc + len) L (z.1.toList ++ q.2) z.2 = some (r, hp')) ∨
       (mm_ps i len a pc L st = none ∧ mm_hs X i a st hp = none ∧ mm_iv i = false ∧ mm_rv i (mm_rt mi) st = some r ∧ hp' = hp)) := by
  rw [mm_ev] at h
  split at h
  · cases h
  · rename_i i len a hc
    refine ⟨i, len, a, hc, ?_⟩
    split at h
    · rename_i f hf
      exact Or.inl ⟨f, hf, h⟩
    · rename_i hf
      split at h
      · rename_i g hg
        exact Or.inr (Or.inl ⟨hf, g, hg, h⟩)
      · rename_i hg
        cases hiv : mm_iv i with
        | true =>
          rw [hiv] at h
          dsimp only [cond_true] at h
          split at h
          · cases h
          · rename_i d'
            split at h
            · cases h
            · rename_i q hq
              cases hb : Nat.ble 9000 a.1 with
              | true =>
                rw [hb] at h
                dsimp only [cond_true] at h
                split at h
                · rename_i v hv
                  exact Or.inr (Or.inr (Or.inl ⟨hf, hg, d', q, v, rfl, rfl, hq, rfl, hv, h⟩))
                · cases h
              | false =>
                rw [hb] at h
                dsimp only [cond_false] at h
                cases hr : mm_rc i a.1 q.1 hp && Nat.ble q.1.length (mm_ml a.1) with
                | true =>
                  rw [hr] at h
                  dsimp only [cond_true] at h
                  split at h
                  · rename_i z hz
                    exact Or.inr (Or.inr (Or.inr (Or.inl ⟨hf, hg, d', q, z, rfl, rfl, hq, rfl, hr, hz, h⟩)))
                  · cases h
                | false =>
                  rw [hr] at h
                  cases h
        | false =>
          rw [hiv] at h
          dsimp only [cond_false] at h
          split at h
          · rename_i v hv
            cases h
            exact Or.inr (Or.inr (Or.inr (Or.inr ⟨hf, hg, rfl, hv, rfl⟩)))
          · cases h
theorem mm_ev_succ {X : List Int32} : ∀ (n d mi pc : Nat) (L : mm_L) (st : List Value) (hp : mm_H) (z : Option Value × mm_H), mm_ev X n d mi pc L st hp = some z → mm_ev X (n + 1) d mi pc L st hp = some z := by
  intro n
  induction n with
  | zero => intro d mi pc L st hp z h; cases h
  | succ n ih =>
    intro d mi pc L st hp z h
    obtain ⟨r, hp'⟩ := z
    obtain ⟨i, len, a, hc, h | h | h | h | h⟩ := mm_ev_inv2 h
    · obtain ⟨f, h1, h2⟩ := h
      rw [mm_ev_ps hc h1]
      exact ih _ _ _ _ _ _ _ h2
    · obtain ⟨h0, g, h1, h2⟩ := h
      rw [mm_ev_hs hc h0 h1]
      exact ih _ _ _ _ _ _ _ h2
    · obtain ⟨h0, h1, d', q, v, rfl, h2, h3, h4, h5, h6⟩ := h
      rw [mm_ev_prim hc h0 h1 h2 h3 h4 h5]
      exact ih _ _ _ _ _ _ _ h6
    · obtain ⟨h0, h1, d', q, w, rfl, h2, h3, h4, h5, h6, h7⟩ := h
      rw [mm_ev_call hc h0 h1 h2 h3 h4 h5 (ih _ _ _ _ _ _ _ h6)]
      exact ih _ _ _ _ _ _ _ h7
    · obtain ⟨h0, h1, h2, h3, rfl⟩ := h
      exact mm_ev_ret hc h0 h1 h2 h3
theorem mm_ev_more {X : List Int32} {n d mi pc : Nat} {L : mm_L} {st : List Value} {hp : mm_H} {z : Option Value × mm_H} (h : mm_ev X n d mi pc L st hp = some z) : ∀ k, mm_ev X (n + k) d mi pc L st hp = some z := by
  intro k
  induction k with
  | zero => exact h
  | succ k ih => exact mm_ev_succ _ _ _ _ _ _ _ _ ih
section MMR
variable {X : List Int32} {d mi pc pc' : Nat} {L L' : mm_L} {st st' : List Value} {hp hp' : mm_H} {Q Q' : Option Value → mm_H → Prop}
theorem mm_R.mono (h : mm_R X d mi pc L st hp Q) (k : ∀ r hp', Q r hp' → Q' r hp') : mm_R X d mi pc L st hp Q' := by
  obtain ⟨n, r, hp', h1, h2⟩ := h
  exact ⟨n, r, hp', h1, k r hp' h2⟩
theorem mm_R.ps {i : Instr} {len : Nat} {a : mm_A} (hc : mm_code mi pc = some (i, len, a)) (h : mm_ps i len a pc L st = some (pc', L', st')) (k : mm_R X d mi pc' L' st' hp Q) : mm_R X d mi pc L st hp Q := by
  obtain ⟨n, r, hp', h1, h2⟩ := k
  refine ⟨n + 1, r, hp', ?_, h2⟩
  rw [mm_ev]
  simp only [hc, h]
  exact h1
theorem mm_R.hs {i : Instr} {len : Nat} {a : mm_A} (hc : mm_code mi pc = some (i, len, a)) (h0 : mm_ps i len a pc L st = none) (h : mm_hs X i a st hp = some (st', hp')) (k : mm_R X d mi (pc + len) L st' hp' Q) : mm_R X d mi pc L st hp Q := by
  obtain ⟨n, r, hp2, h1, h2⟩ := k
  refine ⟨n + 1, r, hp2, ?_, h2⟩
  rw [mm_ev]
  simp only [hc, h0, h]
  exact h1
theorem mm_R.prim {i : Instr} {len : Nat} {a : mm_A} {q : List Value × List Value} {v : Option Value} (hc : mm_code mi pc = some (i, len, a)) (h0 : mm_ps i len a pc L st = none) (h1 : mm_hs X i a st hp = none) (h2 : mm_iv i = true) (h3 : mm_sp a.2.1 st = some q) (h4 : Nat.ble 9000 a.1 = true) (h5 : mm_pm a.1 d q.1 = some v) (k : mm_R X (d + 1) mi (pc + len) L (v.toList ++ q.2) hp Q) : mm_R X (d + 1) mi pc L st hp Q := by
  obtain ⟨n, r, hp2, g1, g2⟩ := k
  refine ⟨n + 1, r, hp2, ?_, g2⟩
  rw [mm_ev]
  simp only [hc, h0, h1, h2, h3, h4, h5, cond_true]
  exact g1
theorem mm_R.call {i : Instr} {len : Nat} {a : mm_A} {q : List Value × List Value} (hc : mm_code mi pc = some (i, len, a)) (h0 : mm_ps i len a pc L st = none) (h1 : mm_hs X i a st hp = none) (h2 : mm_iv i = true) (h3 : mm_sp a.2.1 st = some q) (h4 : Nat.ble 9000 a.1 = false) (h5 : (mm_rc i a.1 q.1 hp && Nat.ble q.1.length (mm_ml a.1)) = true)
    (k : mm_R X d a.1 0 (mm_L0 a.1 q.1) [] hp (fun r hp1 => mm_R X (d + 1) mi (pc + len) L (r.toList ++ q.2) hp1 Q)) : mm_R X (d + 1) mi pc L st hp Q := by
  obtain ⟨n, r, hp1, g1, m, r2, hp2, g2, g3⟩ := k
  refine ⟨(n + m) + 1, r2, hp2, ?_, g3⟩
  rw [mm_ev]
  simp only [hc, h0, h1, h2, h3, h4, h5, cond_true, cond_false, mm_ev_more g1 m]
  rw [Nat.add_comm n m]
  exact mm_ev_more g2 n
theorem mm_R.ret {i : Instr} {len : Nat} {a : mm_A} {r : Option Value} (hc : mm_code mi pc = some (i, len, a)) (h0 : mm_ps i len a pc L st = none) (h1 : mm_hs X i a st hp = none) (h2 : mm_iv i = false) (h3 : mm_rv i (mm_rt mi) st = some r) (k : Q r hp) : mm_R X d mi pc L st hp Q := by
  refine ⟨1, r, hp, ?_, k⟩
  rw [mm_ev]
  simp only [hc, h0, h1, h2, h3, cond_false]
end MMR
/-- n pure instructions -/
def mm_pn (mi : Nat) : Nat → Nat → mm_L → List Value → Option mm_F
  | 0, pc, L, st => some (pc, L, st)
  | n + 1, pc, L, st => match mm_code mi pc with
    | some (i, len, a) => (match mm_ps i len a pc L st with
      | some f => mm_pn mi n f.1 f.2.1 f.2.2
      | none => none)
    | none => none
section MMN
variable {X : List Int32} {d mi : Nat} {hp : mm_H} {Q : Option Value → mm_H → Prop}
theorem mm_R.pn : ∀ (n : Nat) {pc pc' : Nat} {L L' : mm_L} {st st' : List Value}, mm_pn mi n pc L st = some (pc', L', st') → mm_R X d mi pc' L' st' hp Q → mm_R X d mi pc L st hp Q := by
  intro n
  induction n with
  | zero => intro pc pc' L L' st st' h k; cases h; exact k
  | succ n ih =>
    intro pc pc' L L' st st' h k
    rw [mm_pn] at h
    split at h
    · rename_i i len a hc
      split at h
      · rename_i f hf
        exact mm_R.ps hc hf (ih h k)
      · cases h
    · cases h
variable {pc pc' : Nat} {L L' : mm_L} {st st' r : List Value}
theorem mm_R.get (n : Nat) {x ci k : Nat} {idx : Nat} {j : Int} {vs : List Value} {v : Value} (h : mm_pn mi n pc L st = some (pc', L', .ref x :: r)) (hc : mm_code mi pc' = some (.getfield idx, 3, (ci, k, j))) (hx : hp[x]? = some (ci, vs)) (hv : vs[k]? = some v) (K : mm_R X d mi (pc' + 3) L' (v :: r) hp Q) : mm_R X d mi pc L st hp Q := by
  refine mm_R.pn n h (mm_R.hs hc rfl (st' := v :: r) (hp' := hp) ?_ K)
  show mm_get ci k (.ref x :: r) hp = some (v :: r, hp)
  unfold mm_get
  simp only [hx, hv, if_true]
theorem mm_R.put (n : Nat) {x ci k : Nat} {idx : Nat} {j : Int} {vs : List Value} {v : Value} (h : mm_pn mi n pc L st = some (pc', L', v :: .ref x :: r)) (hc : mm_code mi pc' = some (.putfield idx, 3, (ci, k, j))) (hx : hp[x]? = some (ci, vs)) (hk : k < vs.length) (hv : mm_fv (mm_ft ci k) v = true) (K : mm_R X d mi (pc' + 3) L' r (hp.set x (ci, vs.set k v)) Q) : mm_R X d mi pc L st hp Q := by
  refine mm_R.pn n h (mm_R.hs hc rfl (st' := r) (hp' := hp.set x (ci, vs.set k v)) ?_ K)
  show mm_put ci k (v :: .ref x :: r) hp = some (r, hp.set x (ci, vs.set k v))
  unfold mm_put
  simp only [hx, hk, hv, and_self, if_true]
end MMN
