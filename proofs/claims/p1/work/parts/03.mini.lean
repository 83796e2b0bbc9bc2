/-! A SMALL MACHINE: a functional reading of the bytecode. Its refs are numbers of the cells that the law's run has made, in their order; .retAddr i stands for text constant i (100: the script). A cell: a tag (a class's number, 1000 .. an array's kind) and its values. mm_ev runs a method. -/
abbrev mm_C : Type := Nat × List Value
abbrev mm_H : Type := List mm_C
abbrev mm_L : Type := List (Option Value)
abbrev mm_F : Type := Nat × mm_L × List Value
def mm_i2 (f : Int32 → Int32 → Int32) (pc : Nat) (L : mm_L) (st : List Value) : Option mm_F := match st with
  | .int y :: .int x :: r => some (pc, L, .int (f x y) :: r)
  | _ => none
def mm_l2 (f : Int64 → Int64 → Int64) (pc : Nat) (L : mm_L) (st : List Value) : Option mm_F := match st with
  | .long y :: .long x :: r => some (pc, L, .long (f x y) :: r)
  | _ => none
def mm_ls (f : Int64 → Int32 → Int64) (pc : Nat) (L : mm_L) (st : List Value) : Option mm_F := match st with
  | .int y :: .long x :: r => some (pc, L, .long (f x y) :: r)
  | _ => none
def mm_il (pc : Nat) (L : mm_L) (st : List Value) : Option mm_F := match st with
  | .int x :: r => some (pc, L, .long x.toInt64 :: r)
  | _ => none
def mm_li (pc : Nat) (L : mm_L) (st : List Value) : Option mm_F := match st with
  | .long x :: r => some (pc, L, .int x.toInt32 :: r)
  | _ => none
def mm_i1 (f : Int32 → Int32) (pc : Nat) (L : mm_L) (st : List Value) : Option mm_F := match st with
  | .int x :: r => some (pc, L, .int (f x) :: r)
  | _ => none
def mm_dv (f : Int32 → Int32 → Int32) (pc : Nat) (L : mm_L) (st : List Value) : Option mm_F := match st with
  | .int y :: .int x :: r => if y = 0 then none else some (pc, L, .int (f x y) :: r)
  | _ => none
def mm_ldi (k pc : Nat) (L : mm_L) (st : List Value) : Option mm_F := match L[k]? with
  | some (some (.int x)) => some (pc, L, .int x :: st)
  | _ => none
def mm_lda (k pc : Nat) (L : mm_L) (st : List Value) : Option mm_F := match L[k]? with
  | some (some .null) => some (pc, L, .null :: st)
  | some (some (.ref x)) => some (pc, L, .ref x :: st)
  | some (some (.retAddr x)) => some (pc, L, .retAddr x :: st)
  | _ => none
def mm_sti (k pc : Nat) (L : mm_L) (st : List Value) : Option mm_F := match st with
  | .int x :: r => if k < L.length then some (pc, L.set k (some (.int x)), r) else none
  | _ => none
def mm_sta (k pc : Nat) (L : mm_L) (st : List Value) : Option mm_F := match st with
  | .null :: r => if k < L.length then some (pc, L.set k (some .null), r) else none
  | .ref x :: r => if k < L.length then some (pc, L.set k (some (.ref x)), r) else none
  | .retAddr x :: r => if k < L.length then some (pc, L.set k (some (.retAddr x)), r) else none
  | _ => none
def mm_inc (k : Nat) (n : Int) (pc : Nat) (L : mm_L) (st : List Value) : Option mm_F := match L[k]? with
  | some (some (.int x)) => some (pc, L.set k (some (.int (x + Int32.ofInt n))), st)
  | _ => none
def mm_cc (c : Jvm.ClassFile.Cond) (x y : Int32) : Bool := match c with
  | .eq => decide (x = y)
  | .ne => decide (¬ x = y)
  | .lt => decide (x < y)
  | .ge => decide (y ≤ x)
  | .gt => decide (y < x)
  | .le => decide (x ≤ y)
def mm_if (c : Jvm.ClassFile.Cond) (t pc : Nat) (L : mm_L) (st : List Value) : Option mm_F := match st with
  | .int x :: r => some (bif mm_cc c x 0 then t else pc, L, r)
  | _ => none
def mm_ic (c : Jvm.ClassFile.Cond) (t pc : Nat) (L : mm_L) (st : List Value) : Option mm_F := match st with
  | .int y :: .int x :: r => some (bif mm_cc c x y then t else pc, L, r)
  | _ => none
/-- null: goes to t; a cell: to u -/
def mm_nl (t u : Nat) (L : mm_L) (st : List Value) : Option mm_F := match st with
  | .null :: r => some (t, L, r)
  | .ref _ :: r => some (u, L, r)
  | _ => none
def mm_c1 (v : Value) : Bool := match v with
  | .int _ => true
  | .null => true
  | .ref _ => true
  | .retAddr _ => true
  | _ => false
def mm_dup (pc : Nat) (L : mm_L) (st : List Value) : Option mm_F := match st with
  | a :: r => bif mm_c1 a then some (pc, L, a :: a :: r) else none
  | _ => none
def mm_pop (pc : Nat) (L : mm_L) (st : List Value) : Option mm_F := match st with
  | a :: r => bif mm_c1 a then some (pc, L, r) else none
  | _ => none
def mm_dx1 (pc : Nat) (L : mm_L) (st : List Value) : Option mm_F := match st with
  | a :: b :: r => bif mm_c1 a && mm_c1 b then some (pc, L, a :: b :: a :: r) else none
  | _ => none
def mm_dx2 (pc : Nat) (L : mm_L) (st : List Value) : Option mm_F := match st with
  | a :: b :: c :: r => bif mm_c1 a && mm_c1 b && mm_c1 c then some (pc, L, a :: b :: c :: a :: r) else none
  | _ => none
def mm_du2 (pc : Nat) (L : mm_L) (st : List Value) : Option mm_F := match st with
  | a :: b :: r => bif mm_c1 a && mm_c1 b then some (pc, L, a :: b :: a :: b :: r) else none
  | _ => none
def mm_sw (dflt lo hi : Int) (offs : Array Int) (pc : Nat) (L : mm_L) (st : List Value) : Option mm_F := match st with
  | .int x :: r => match (if x.toInt < lo ∨ hi < x.toInt then some dflt else offs[(x.toInt - lo).toNat]?) with
    | some off => if 0 ≤ (pc : Int) + off then some (((pc : Int) + off).toNat, L, r) else none
    | none => none
  | _ => none
def mm_ps (i : Instr) (len : Nat) (a : mm_A) (pc : Nat) (L : mm_L) (st : List Value) : Option mm_F := match i with
  | .iconst n => some (pc + len, L, .int (Int32.ofInt n) :: st)
  | .bipush n => some (pc + len, L, .int (Int8.ofInt n).toInt32 :: st)
  | .sipush n => some (pc + len, L, .int (Int16.ofInt n).toInt32 :: st)
  | .aconst_null => some (pc + len, L, .null :: st)
  | .ldc _ => some (pc + len, L, (bif a.1 == 0 then .int (Int32.ofInt a.2.2) else .retAddr a.2.1) :: st)
  | .ldc_w _ => some (pc + len, L, .int (Int32.ofInt a.2.2) :: st)
  | .ldc2_w _ => some (pc + len, L, .long (Int64.ofInt a.2.2) :: st)
  | .land => mm_l2 (fun x y => x &&& y) (pc + len) L st
  | .lor => mm_l2 (fun x y => x ||| y) (pc + len) L st
  | .lxor => mm_l2 (fun x y => x ^^^ y) (pc + len) L st
  | .lshl => mm_ls (fun x y => x <<< (y.toInt64 &&& 63)) (pc + len) L st
  | .lshr => mm_ls (fun x y => x >>> (y.toInt64 &&& 63)) (pc + len) L st
  | .i2l => mm_il (pc + len) L st
  | .l2i => mm_li (pc + len) L st
  | .iload k => mm_ldi k (pc + len) L st
  | .iload_n k => mm_ldi k.val (pc + len) L st
  | .aload k => mm_lda k (pc + len) L st
  | .aload_n k => mm_lda k.val (pc + len) L st
  | .istore k => mm_sti k (pc + len) L st
  | .istore_n k => mm_sti k.val (pc + len) L st
  | .astore k => mm_sta k (pc + len) L st
  | .astore_n k => mm_sta k.val (pc + len) L st
  | .iinc k n => mm_inc k n (pc + len) L st
  | .iadd => mm_i2 (fun x y => x + y) (pc + len) L st
  | .isub => mm_i2 (fun x y => x - y) (pc + len) L st
  | .imul => mm_i2 (fun x y => x * y) (pc + len) L st
  | .iand => mm_i2 (fun x y => x &&& y) (pc + len) L st
  | .ior => mm_i2 (fun x y => x ||| y) (pc + len) L st
  | .ixor => mm_i2 (fun x y => x ^^^ y) (pc + len) L st
  | .ishl => mm_i2 (fun x y => x <<< (y &&& 31)) (pc + len) L st
  | .ishr => mm_i2 (fun x y => x >>> (y &&& 31)) (pc + len) L st
  | .idiv => mm_dv (fun x y => x / y) (pc + len) L st
  | .irem => mm_dv (fun x y => x - x / y * y) (pc + len) L st
  | .ineg => mm_i1 (fun x => -x) (pc + len) L st
  | .i2c => mm_i1 (fun x => (x.toUInt32 % 65536).toInt32) (pc + len) L st
  | .dup => mm_dup (pc + len) L st
  | .pop => mm_pop (pc + len) L st
  | .dup_x1 => mm_dx1 (pc + len) L st
  | .dup_x2 => mm_dx2 (pc + len) L st
  | .dup2 => mm_du2 (pc + len) L st
  | .ifCond c _ => mm_if c a.1 (pc + len) L st
  | .if_icmp c _ => mm_ic c a.1 (pc + len) L st
  | .ifnull _ => mm_nl a.1 (pc + len) L st
  | .ifnonnull _ => mm_nl (pc + len) a.1 L st
  | .goto _ => some (a.1, L, st)
  | .tableswitch dflt lo hi offs => mm_sw dflt lo hi offs pc L st
  | _ => none
/-- what the pure rows want of an instruction's table row: its length, where it jumps to -/
def mm_pk (i : Instr) (len : Nat) (a : mm_A) (pc : Nat) : Bool := match i with
  | .iconst _ => len == 1
  | .bipush _ => len == 2
  | .sipush _ => len == 3
  | .aconst_null => len == 1
  | .ldc _ => len == 2
  | .ldc_w _ => len == 3
  | .ldc2_w _ => len == 3
  | .land => len == 1
  | .lor => len == 1
  | .lxor => len == 1
  | .lshl => len == 1
  | .lshr => len == 1
  | .i2l => len == 1
  | .l2i => len == 1
  | .laload => len == 1
  | .lastore => len == 1
  | .iload _ => len == 2
  | .iload_n _ => len == 1
  | .aload _ => len == 2
  | .aload_n _ => len == 1
  | .istore _ => len == 2
  | .istore_n _ => len == 1
  | .astore _ => len == 2
  | .astore_n _ => len == 1
  | .iinc _ _ => len == 3
  | .iadd => len == 1
  | .isub => len == 1
  | .imul => len == 1
  | .iand => len == 1
  | .ior => len == 1
  | .ixor => len == 1
  | .ishl => len == 1
  | .ishr => len == 1
  | .idiv => len == 1
  | .irem => len == 1
  | .ineg => len == 1
  | .i2c => len == 1
  | .dup => len == 1
  | .pop => len == 1
  | .dup_x1 => len == 1
  | .dup_x2 => len == 1
  | .dup2 => len == 1
  | .ifCond _ off => len == 3 && decide ((pc : Int) + off = (a.1 : Int))
  | .if_icmp _ off => len == 3 && decide ((pc : Int) + off = (a.1 : Int))
  | .ifnull off => len == 3 && decide ((pc : Int) + off = (a.1 : Int))
  | .ifnonnull off => len == 3 && decide ((pc : Int) + off = (a.1 : Int))
  | .goto off => len == 3 && decide ((pc : Int) + off = (a.1 : Int))
  | .getfield _ => len == 3
  | .putfield _ => len == 3
  | .iaload => len == 1
  | .caload => len == 1
  | .baload => len == 1
  | .aaload => len == 1
  | .iastore => len == 1
  | .castore => len == 1
  | .bastore => len == 1
  | .aastore => len == 1
  | .arraylength => len == 1
  | .new _ => len == 3
  | .newarray _ => len == 2
  | .anewarray _ => len == 3
  | .invokevirtual _ => len == 3
  | .invokespecial _ => len == 3
  | .invokestatic _ => len == 3
  | .ireturn => len == 1
  | .areturn => len == 1
  | .return_ => len == 1
  | .tableswitch _ _ _ _ => true
  | _ => false
def mm_tr (B : Nat) (ad : Nat → Nat) (v : Value) : Value := match v with
  | .ref k => .ref (B + k)
  | .retAddr i => .ref (ad i)
  | w => w
def mm_lr (B : Nat) (ad : Nat → Nat) (L : mm_L) (ls : Array Slot) : Prop := ls.size = L.length ∧ lv_wf ls ∧ ∀ (i : Nat) (v : Value), L[i]? = some (some v) → v.category = 1 ∧ ls[i]? = some (.val (mm_tr B ad v))
theorem mm_c1_cat {v : Value} (h : mm_c1 v = true) : v.category = 1 := by
  cases v <;> simp_all [mm_c1, Value.category]
theorem mm_tr_cat (B : Nat) (ad : Nat → Nat) (v : Value) : (mm_tr B ad v).category = v.category := by
  cases v <;> rfl
/-- every local that is known, as the kit's rows list them -/
def mm_al (B : Nat) (ad : Nat → Nat) (L : mm_L) : List (Nat × Value) := (List.range L.length).filterMap (fun i => (L[i]?.getD none).map (fun v => (i, mm_tr B ad v)))
theorem mm_al_mem {B : Nat} {ad : Nat → Nat} {L : mm_L} {q : Nat × Value} : q ∈ mm_al B ad L ↔ ∃ v, L[q.1]? = some (some v) ∧ q.2 = mm_tr B ad v := by
  unfold mm_al
  rw [List.mem_filterMap]
  constructor
  · rintro ⟨i, hi, h⟩
    cases hL : L[i]? with
    | none => simp [hL] at h
    | some o =>
      cases o with
      | none => simp [hL] at h
      | some v =>
        simp only [hL, Option.getD_some, Option.map_some, Option.some.injEq] at h
        subst h
        exact ⟨v, hL, rfl⟩
  · rintro ⟨v, h1, h2⟩
    refine ⟨q.1, List.mem_range.mpr (List.getElem?_eq_some_iff.mp h1).1, ?_⟩
    simp only [h1, Option.getD_some, Option.map_some, Option.some.injEq]
    rw [← h2]
theorem mm_lr_has {B : Nat} {ad : Nat → Nat} {L : mm_L} {ls : Array Slot} (h : mm_lr B ad L ls) : lv_has ls L.length (mm_al B ad L) := by
  refine ⟨h.1, h.2.1, fun q hq => ?_⟩
  obtain ⟨v, h1, h2⟩ := mm_al_mem.mp hq
  rw [h2]
  exact (h.2.2 _ _ h1).2
theorem mm_lr_of {B : Nat} {ad : Nat → Nat} {L : mm_L} {ls ls' : Array Slot} {k : Nat} {v : Value} (h : mm_lr B ad L ls) (hv : v.category = 1) (h' : lv_has ls' L.length ((k, mm_tr B ad v) :: (mm_al B ad L).filter (fun q => !(q.1 == k) && !(q.1 + 1 == k && q.2.category == 2)))) : mm_lr B ad (L.set k (some v)) ls' := by
  refine ⟨by rw [List.length_set]; exact h'.1, h'.2.1, fun i w hw => ?_⟩
  by_cases hi : i = k
  · subst hi
    have hl : i < L.length := by have := (List.getElem?_eq_some_iff.mp hw).1; simpa using this
    rw [List.getElem?_set_self hl] at hw
    cases hw
    exact ⟨hv, h'.2.2 (i, mm_tr B ad v) List.mem_cons_self⟩
  · rw [List.getElem?_set_ne (Ne.symm hi)] at hw
    obtain ⟨c1, -⟩ := h.2.2 i w hw
    refine ⟨c1, h'.2.2 (i, mm_tr B ad w) (List.mem_cons_of_mem _ (List.mem_filter.mpr ⟨mm_al_mem.mpr ⟨w, hw, rfl⟩, ?_⟩))⟩
    simp [hi, mm_tr_cat, c1]
