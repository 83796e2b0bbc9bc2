/-! the machine without the script: what it does, it does with any script (so that closed runs can be computed) -/
def mm_aldN (t : Nat) (st : List Value) (hp : mm_H) : Option (List Value × mm_H) := match st with
  | .int j :: .ref x :: r => (match hp[x]? with
    | some c => if c.1 = t ∧ 0 ≤ j then (match c.2[j.toNatClampNeg]? with
      | some v => some (v :: r, hp)
      | none => none) else none
    | none => none)
  | _ => none
def mm_lenN (st : List Value) (hp : mm_H) : Option (List Value × mm_H) := match st with
  | .ref x :: r => (match hp[x]? with
    | some c => if 1000 ≤ c.1 ∧ (mm_at c.1).isSome = true then some (.int (Int32.ofNat c.2.length) :: r, hp) else none
    | none => none)
  | _ => none
def mm_hsN (i : Instr) (a : mm_A) (st : List Value) (hp : mm_H) : Option (List Value × mm_H) := match i with
  | .iaload => mm_aldN 1000 st hp
  | .caload => mm_aldN 1001 st hp
  | .baload => mm_aldN 1002 st hp
  | .laload => mm_aldN 1004 st hp
  | .arraylength => mm_lenN st hp
  | i => mm_hs [] i a st hp
theorem mm_aldN_ok {X : List Int32} {t : Nat} {st : List Value} {hp : mm_H} {g : List Value × mm_H} (h : mm_aldN t st hp = some g) : mm_ald X t st hp = some g := by
  unfold mm_aldN at h
  split at h
  · unfold mm_ald
    exact h
  · cases h
theorem mm_lenN_ok {X : List Int32} {st : List Value} {hp : mm_H} {g : List Value × mm_H} (h : mm_lenN st hp = some g) : mm_len X st hp = some g := by
  unfold mm_lenN at h
  split at h
  · unfold mm_len
    exact h
  · cases h
theorem mm_hsN_ok {X : List Int32} {i : Instr} {a : mm_A} {st : List Value} {hp : mm_H} {g : List Value × mm_H} (h : mm_hsN i a st hp = some g) : mm_hs X i a st hp = some g := by
  cases i
  case iaload => exact mm_aldN_ok h
  case caload => exact mm_aldN_ok h
  case baload => exact mm_aldN_ok h
  case laload => exact mm_aldN_ok h
  case arraylength => exact mm_lenN_ok h
  all_goals exact h
def mm_evN : Nat → Nat → Nat → Nat → mm_L → List Value → mm_H → Option (Option Value × mm_H)
  | 0, _, _, _, _, _, _ => none
  | n + 1, d, mi, pc, L, st, hp => match mm_code mi pc with
    | none => none
    | some (i, len, a) => match mm_ps i len a pc L st with
      | some f => mm_evN n d mi f.1 f.2.1 f.2.2 hp
      | none => match mm_hsN i a st hp with
        | some g => mm_evN n d mi (pc + len) L g.1 g.2
        | none => bif mm_iv i then (match d with
            | 0 => none
            | d' + 1 => match mm_sp a.2.1 st with
              | none => none
              | some q => bif Nat.ble 9000 a.1 then (match mm_pm a.1 d' q.1 with
                  | some r => mm_evN n (d' + 1) mi (pc + len) L (r.toList ++ q.2) hp
                  | none => none)
                else bif mm_rc i a.1 q.1 hp && Nat.ble q.1.length (mm_ml a.1) then (match mm_evN n d' a.1 0 (mm_L0 a.1 q.1) [] hp with
                  | some z => mm_evN n (d' + 1) mi (pc + len) L (z.1.toList ++ q.2) z.2
                  | none => none)
                else none)
          else (match mm_rv i (mm_rt mi) st with
            | some r => some (r, hp)
            | none => none)
theorem mm_iv_hs {X : List Int32} {i : Instr} {a : mm_A} {st : List Value} {hp : mm_H} (h : mm_iv i = true) : mm_hs X i a st hp = none := by
  cases i
  case invokestatic => rfl
  case invokespecial => rfl
  case invokevirtual => rfl
  all_goals exact nomatch (show false = true from h)
theorem mm_rv_hs {X : List Int32} {i : Instr} {a : mm_A} {st : List Value} {hp : mm_H} {rt : Option FieldType} {r : Option Value} (h : mm_rv i rt st = some r) : mm_hs X i a st hp = none := by
  rcases mm_rv_inv h with ⟨_, _, rfl, _⟩ | ⟨_, _, rfl, _⟩ | ⟨rfl, _⟩ <;> rfl
theorem mm_evN_ok {X : List Int32} : ∀ (n d mi pc : Nat) (L : mm_L) (st : List Value) (hp : mm_H) (z : Option Value × mm_H), mm_evN n d mi pc L st hp = some z → mm_ev X n d mi pc L st hp = some z := by
  intro n
  induction n with
  | zero => intro d mi pc L st hp z h; cases h
  | succ n ih =>
    intro d mi pc L st hp z h
    rw [mm_evN] at h
    split at h
    · cases h
    · rename_i i len a hc
      split at h
      · rename_i f hf
        rw [mm_ev_ps hc hf]
        exact ih _ _ _ _ _ _ _ h
      · rename_i hf
        split at h
        · rename_i g hg
          rw [mm_ev_hs hc hf (mm_hsN_ok hg)]
          exact ih _ _ _ _ _ _ _ h
        · cases hiv : mm_iv i with
          | true =>
            rw [hiv] at h
            dsimp only [cond_true] at h
            split at h
            · cases h
            · rename_i d'
              split at h
              · cases h
              · rename_i q hq
                cases hb : Nat.ble 9000 a.1 with
                | true =>
                  rw [hb] at h
                  dsimp only [cond_true] at h
                  split at h
                  · rename_i v hv
                    rw [mm_ev_prim hc hf (mm_iv_hs hiv) hiv hq hb hv]
                    exact ih _ _ _ _ _ _ _ h
                  · cases h
                | false =>
                  rw [hb] at h
                  dsimp only [cond_false] at h
                  cases hr : mm_rc i a.1 q.1 hp && Nat.ble q.1.length (mm_ml a.1) with
                  | true =>
                    rw [hr] at h
                    dsimp only [cond_true] at h
                    split at h
                    · rename_i w hw
                      rw [mm_ev_call hc hf (mm_iv_hs hiv) hiv hq hb hr (ih _ _ _ _ _ _ _ hw)]
                      exact ih _ _ _ _ _ _ _ h
                    · cases h
                  | false =>
                    rw [hr] at h
                    cases h
          | false =>
            rw [hiv] at h
            dsimp only [cond_false] at h
            split at h
            · rename_i v hv
              cases h
              exact mm_ev_ret hc hf (mm_rv_hs hv) hiv hv
            · cases h
