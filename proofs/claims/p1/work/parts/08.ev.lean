def mm_L0 (k : Nat) (as : List Value) : mm_L := as.map some ++ List.replicate (mm_ml k - as.length) none
def mm_rv (i : Instr) (rt : Option FieldType) (st : List Value) : Option (Option Value) := match i with
  | .ireturn => (match st with
    | [.int v] => (match rt with
      | some ty => bif mm_fv ty (.int v) then some (some (.int v)) else none
      | none => none)
    | _ => none)
  | .areturn => (match st with
    | [.null] => (match rt with
      | some ty => bif mm_fv ty .null then some (some .null) else none
      | none => none)
    | [.ref x] => (match rt with
      | some ty => bif mm_fv ty (.ref x) then some (some (.ref x)) else none
      | none => none)
    | _ => none)
  | .return_ => (match st with
    | [] => (match rt with
      | some _ => none
      | none => some none)
    | _ => none)
  | _ => none
def mm_sp (na : Nat) (st : List Value) : Option (List Value × List Value) := if na ≤ st.length ∧ ((st.drop na).map Value.category).sum ≤ 8 ∧ (st.take na).all mm_c1 = true then some ((st.take na).reverse, st.drop na) else none
def mm_rc (i : Instr) (k : Nat) (as : List Value) (hp : mm_H) : Bool := match i with
  | .invokestatic _ => true
  | .invokespecial _ => (match as with
    | .ref _ :: _ => true
    | _ => false)
  | .invokevirtual _ => (match as with
    | .ref x :: _ => (match hp[x]? with
      | some c => c.1 == mm_mc k
      | none => false)
    | _ => false)
  | _ => false
def mm_iv (i : Instr) : Bool := match i with
  | .invokestatic _ => true
  | .invokespecial _ => true
  | .invokevirtual _ => true
  | _ => false
/-- calls of the library: Object(), Math.min, Math.max, String.length, String.charAt (d: frames that are left for them) -/
def mm_pm (k d : Nat) (as : List Value) : Option (Option Value) :=
  if k = 9000 then (match as with
    | [.ref _] => some none
    | _ => none)
  else if k = 9001 then (match as with
    | [.int x, .int y] => some (some (.int (if y < x then y else x)))
    | _ => none)
  else if k = 9002 then (match as with
    | [.int x, .int y] => some (some (.int (if x < y then y else x)))
    | _ => none)
  else if k = 9003 then (match as with
    | [.retAddr i] => (match mm_tx[i]? with
      | some t => if 4 ≤ d then some (some (.int (Int32.ofNat t.length))) else none
      | none => none)
    | _ => none)
  else if k = 9004 then (match as with
    | [.retAddr i, .int j] => (match mm_tx[i]? with
      | some t => if 4 ≤ d ∧ 0 ≤ j then (match t[j.toNatClampNeg]? with
        | some ch => some (some (.int (nI ch)))
        | none => none) else none
      | none => none)
    | _ => none)
  else none
/-- the machine: text of the script, fuel, frames left, method, place, locals, stack, cells -/
def mm_ev (X : List Int32) : Nat → Nat → Nat → Nat → mm_L → List Value → mm_H → Option (Option Value × mm_H)
  | 0, _, _, _, _, _, _ => none
  | n + 1, d, mi, pc, L, st, hp => match mm_code mi pc with
    | none => none
    | some (i, len, a) => match mm_ps i len a pc L st with
      | some f => mm_ev X n d mi f.1 f.2.1 f.2.2 hp
      | none => match mm_hs X i a st hp with
        | some g => mm_ev X n d mi (pc + len) L g.1 g.2
        | none => bif mm_iv i then (match d with
            | 0 => none
            | d' + 1 => match mm_sp a.2.1 st with
              | none => none
              | some q => bif Nat.ble 9000 a.1 then (match mm_pm a.1 d' q.1 with
                  | some r => mm_ev X n (d' + 1) mi (pc + len) L (r.toList ++ q.2) hp
                  | none => none)
                else bif mm_rc i a.1 q.1 hp && Nat.ble q.1.length (mm_ml a.1) then (match mm_ev X n d' a.1 0 (mm_L0 a.1 q.1) [] hp with
                  | some z => mm_ev X n (d' + 1) mi (pc + len) L (z.1.toList ++ q.2) z.2
                  | none => none)
                else none)
          else (match mm_rv i (mm_rt mi) st with
            | some r => some (r, hp)
            | none => none)
