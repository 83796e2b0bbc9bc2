theorem mm_b1 {len n : Nat} (h : (len == n) = true) : len = n := beq_iff_eq.mp h
theorem mm_b3 {len n : Nat} {P : Prop} [Decidable P] (h : (len == n && decide P) = true) : len = n ∧ P := by
  rw [Bool.and_eq_true] at h
  exact ⟨mm_b1 h.1, of_decide_eq_true h.2⟩
theorem mm_i2_inv {f : Int32 → Int32 → Int32} {pc pc' : Nat} {L L' : mm_L} {st st' : List Value} (h : mm_i2 f pc L st = some (pc', L', st')) : ∃ x y r, st = .int y :: .int x :: r ∧ pc' = pc ∧ L' = L ∧ st' = .int (f x y) :: r := by
  unfold mm_i2 at h
  split at h
  · cases h; exact ⟨_, _, _, rfl, rfl, rfl, rfl⟩
  · cases h
theorem mm_l2_inv {f : Int64 → Int64 → Int64} {pc pc' : Nat} {L L' : mm_L} {st st' : List Value} (h : mm_l2 f pc L st = some (pc', L', st')) : ∃ x y r, st = .long y :: .long x :: r ∧ pc' = pc ∧ L' = L ∧ st' = .long (f x y) :: r := by
  unfold mm_l2 at h
  split at h
  · cases h; exact ⟨_, _, _, rfl, rfl, rfl, rfl⟩
  · cases h
theorem mm_ls_inv {f : Int64 → Int32 → Int64} {pc pc' : Nat} {L L' : mm_L} {st st' : List Value} (h : mm_ls f pc L st = some (pc', L', st')) : ∃ x y r, st = .int y :: .long x :: r ∧ pc' = pc ∧ L' = L ∧ st' = .long (f x y) :: r := by
  unfold mm_ls at h
  split at h
  · cases h; exact ⟨_, _, _, rfl, rfl, rfl, rfl⟩
  · cases h
theorem mm_il_inv {pc pc' : Nat} {L L' : mm_L} {st st' : List Value} (h : mm_il pc L st = some (pc', L', st')) : ∃ x r, st = .int x :: r ∧ pc' = pc ∧ L' = L ∧ st' = .long x.toInt64 :: r := by
  unfold mm_il at h
  split at h
  · cases h; exact ⟨_, _, rfl, rfl, rfl, rfl⟩
  · cases h
theorem mm_li_inv {pc pc' : Nat} {L L' : mm_L} {st st' : List Value} (h : mm_li pc L st = some (pc', L', st')) : ∃ x r, st = .long x :: r ∧ pc' = pc ∧ L' = L ∧ st' = .int x.toInt32 :: r := by
  unfold mm_li at h
  split at h
  · cases h; exact ⟨_, _, rfl, rfl, rfl, rfl⟩
  · cases h
theorem mm_i1_inv {f : Int32 → Int32} {pc pc' : Nat} {L L' : mm_L} {st st' : List Value} (h : mm_i1 f pc L st = some (pc', L', st')) : ∃ x r, st = .int x :: r ∧ pc' = pc ∧ L' = L ∧ st' = .int (f x) :: r := by
  unfold mm_i1 at h
  split at h
  · cases h; exact ⟨_, _, rfl, rfl, rfl, rfl⟩
  · cases h
theorem mm_dv_inv {f : Int32 → Int32 → Int32} {pc pc' : Nat} {L L' : mm_L} {st st' : List Value} (h : mm_dv f pc L st = some (pc', L', st')) : ∃ x y r, ¬ y = 0 ∧ st = .int y :: .int x :: r ∧ pc' = pc ∧ L' = L ∧ st' = .int (f x y) :: r := by
  unfold mm_dv at h
  split at h
  · split at h
    · cases h
    · rename_i hy
      cases h; exact ⟨_, _, _, hy, rfl, rfl, rfl, rfl⟩
  · cases h
theorem mm_ldi_inv {k pc pc' : Nat} {L L' : mm_L} {st st' : List Value} (h : mm_ldi k pc L st = some (pc', L', st')) : ∃ x, L[k]? = some (some (.int x)) ∧ pc' = pc ∧ L' = L ∧ st' = .int x :: st := by
  unfold mm_ldi at h
  split at h
  · rename_i x hx
    cases h; exact ⟨x, hx, rfl, rfl, rfl⟩
  · cases h
theorem mm_lda_inv {k pc pc' : Nat} {L L' : mm_L} {st st' : List Value} (h : mm_lda k pc L st = some (pc', L', st')) : ∃ v, L[k]? = some (some v) ∧ (v = .null ∨ (∃ x, v = .ref x) ∨ ∃ x, v = .retAddr x) ∧ pc' = pc ∧ L' = L ∧ st' = v :: st := by
  unfold mm_lda at h
  split at h
  · rename_i hx
    cases h; exact ⟨_, hx, Or.inl rfl, rfl, rfl, rfl⟩
  · rename_i x hx
    cases h; exact ⟨_, hx, Or.inr (Or.inl ⟨x, rfl⟩), rfl, rfl, rfl⟩
  · rename_i x hx
    cases h; exact ⟨_, hx, Or.inr (Or.inr ⟨x, rfl⟩), rfl, rfl, rfl⟩
  · cases h
theorem mm_sti_inv {k pc pc' : Nat} {L L' : mm_L} {st st' : List Value} (h : mm_sti k pc L st = some (pc', L', st')) : ∃ x r, st = .int x :: r ∧ k < L.length ∧ pc' = pc ∧ L' = L.set k (some (.int x)) ∧ st' = r := by
  unfold mm_sti at h
  split at h
  · split at h
    · rename_i hk
      cases h; exact ⟨_, _, rfl, hk, rfl, rfl, rfl⟩
    · cases h
  · cases h
theorem mm_sta_inv {k pc pc' : Nat} {L L' : mm_L} {st st' : List Value} (h : mm_sta k pc L st = some (pc', L', st')) : ∃ v r, st = v :: r ∧ (v = .null ∨ (∃ x, v = .ref x) ∨ ∃ x, v = .retAddr x) ∧ k < L.length ∧ pc' = pc ∧ L' = L.set k (some v) ∧ st' = r := by
  unfold mm_sta at h
  split at h
  · split at h
    · rename_i hk
      cases h; exact ⟨_, _, rfl, Or.inl rfl, hk, rfl, rfl, rfl⟩
    · cases h
  · split at h
    · rename_i hk
      cases h; exact ⟨_, _, rfl, Or.inr (Or.inl ⟨_, rfl⟩), hk, rfl, rfl, rfl⟩
    · cases h
  · split at h
    · rename_i hk
      cases h; exact ⟨_, _, rfl, Or.inr (Or.inr ⟨_, rfl⟩), hk, rfl, rfl, rfl⟩
    · cases h
  · cases h
theorem mm_inc_inv {k pc pc' : Nat} {n : Int} {L L' : mm_L} {st st' : List Value} (h : mm_inc k n pc L st = some (pc', L', st')) : ∃ x, L[k]? = some (some (.int x)) ∧ pc' = pc ∧ L' = L.set k (some (.int (x + Int32.ofInt n))) ∧ st' = st := by
  unfold mm_inc at h
  split at h
  · rename_i x hx
    cases h; exact ⟨x, hx, rfl, rfl, rfl⟩
  · cases h
theorem mm_if_inv {c : Jvm.ClassFile.Cond} {t pc pc' : Nat} {L L' : mm_L} {st st' : List Value} (h : mm_if c t pc L st = some (pc', L', st')) : ∃ x r, st = .int x :: r ∧ pc' = (bif mm_cc c x 0 then t else pc) ∧ L' = L ∧ st' = r := by
  unfold mm_if at h
  split at h
  · cases h; exact ⟨_, _, rfl, rfl, rfl, rfl⟩
  · cases h
theorem mm_ic_inv {c : Jvm.ClassFile.Cond} {t pc pc' : Nat} {L L' : mm_L} {st st' : List Value} (h : mm_ic c t pc L st = some (pc', L', st')) : ∃ x y r, st = .int y :: .int x :: r ∧ pc' = (bif mm_cc c x y then t else pc) ∧ L' = L ∧ st' = r := by
  unfold mm_ic at h
  split at h
  · cases h; exact ⟨_, _, _, rfl, rfl, rfl, rfl⟩
  · cases h
theorem mm_nl_inv {t u pc' : Nat} {L L' : mm_L} {st st' : List Value} (h : mm_nl t u L st = some (pc', L', st')) : (∃ r, st = .null :: r ∧ pc' = t ∧ L' = L ∧ st' = r) ∨ ∃ x r, st = .ref x :: r ∧ pc' = u ∧ L' = L ∧ st' = r := by
  unfold mm_nl at h
  split at h
  · cases h; exact Or.inl ⟨_, rfl, rfl, rfl, rfl⟩
  · cases h; exact Or.inr ⟨_, _, rfl, rfl, rfl, rfl⟩
  · cases h
theorem mm_dup_inv {pc pc' : Nat} {L L' : mm_L} {st st' : List Value} (h : mm_dup pc L st = some (pc', L', st')) : ∃ a r, st = a :: r ∧ mm_c1 a = true ∧ pc' = pc ∧ L' = L ∧ st' = a :: a :: r := by
  unfold mm_dup at h
  split at h
  · rename_i a r
    cases hc : mm_c1 a with
    | true => rw [hc] at h; cases h; exact ⟨_, _, rfl, hc, rfl, rfl, rfl⟩
    | false => rw [hc] at h; cases h
  · cases h
theorem mm_pop_inv {pc pc' : Nat} {L L' : mm_L} {st st' : List Value} (h : mm_pop pc L st = some (pc', L', st')) : ∃ a r, st = a :: r ∧ mm_c1 a = true ∧ pc' = pc ∧ L' = L ∧ st' = r := by
  unfold mm_pop at h
  split at h
  · rename_i a r
    cases hc : mm_c1 a with
    | true => rw [hc] at h; cases h; exact ⟨_, _, rfl, hc, rfl, rfl, rfl⟩
    | false => rw [hc] at h; cases h
  · cases h
theorem mm_dx1_inv {pc pc' : Nat} {L L' : mm_L} {st st' : List Value} (h : mm_dx1 pc L st = some (pc', L', st')) : ∃ a b r, st = a :: b :: r ∧ mm_c1 a = true ∧ mm_c1 b = true ∧ pc' = pc ∧ L' = L ∧ st' = a :: b :: a :: r := by
  unfold mm_dx1 at h
  split at h
  · rename_i a b r
    cases hc : mm_c1 a && mm_c1 b with
    | true =>
      rw [hc] at h
      rw [Bool.and_eq_true] at hc
      cases h; exact ⟨_, _, _, rfl, hc.1, hc.2, rfl, rfl, rfl⟩
    | false => rw [hc] at h; cases h
  · cases h
theorem mm_du2_inv {pc pc' : Nat} {L L' : mm_L} {st st' : List Value} (h : mm_du2 pc L st = some (pc', L', st')) : ∃ a b r, st = a :: b :: r ∧ mm_c1 a = true ∧ mm_c1 b = true ∧ pc' = pc ∧ L' = L ∧ st' = a :: b :: a :: b :: r := by
  unfold mm_du2 at h
  split at h
  · rename_i a b r
    cases hc : mm_c1 a && mm_c1 b with
    | true =>
      rw [hc] at h
      rw [Bool.and_eq_true] at hc
      cases h; exact ⟨_, _, _, rfl, hc.1, hc.2, rfl, rfl, rfl⟩
    | false => rw [hc] at h; cases h
  · cases h
theorem mm_dx2_inv {pc pc' : Nat} {L L' : mm_L} {st st' : List Value} (h : mm_dx2 pc L st = some (pc', L', st')) : ∃ a b c r, st = a :: b :: c :: r ∧ mm_c1 a = true ∧ mm_c1 b = true ∧ mm_c1 c = true ∧ pc' = pc ∧ L' = L ∧ st' = a :: b :: c :: a :: r := by
  unfold mm_dx2 at h
  split at h
  · rename_i a b c r
    cases hc : mm_c1 a && mm_c1 b && mm_c1 c with
    | true =>
      rw [hc] at h
      rw [Bool.and_eq_true, Bool.and_eq_true] at hc
      cases h; exact ⟨_, _, _, _, rfl, hc.1.1, hc.1.2, hc.2, rfl, rfl, rfl⟩
    | false => rw [hc] at h; cases h
  · cases h
theorem mm_sw_inv {dflt lo hi : Int} {offs : Array Int} {pc pc' : Nat} {L L' : mm_L} {st st' : List Value} (h : mm_sw dflt lo hi offs pc L st = some (pc', L', st')) : ∃ x r off, st = .int x :: r ∧ (if x.toInt < lo ∨ hi < x.toInt then some dflt else offs[(x.toInt - lo).toNat]?) = some off ∧ (pc : Int) + off = (pc' : Int) ∧ L' = L ∧ st' = r := by
  unfold mm_sw at h
  split at h
  · split at h
    · rename_i off ho
      split at h
      · rename_i hn
        cases h; exact ⟨_, _, off, rfl, ho, by omega, rfl, rfl⟩
      · cases h
    · cases h
  · cases h
section MMP
variable {p : Program} {l : Launch} {e : Env} {R : Room} {s : State} {m : MethodId} {args : Array Value} {below : List Frame} {meth : Method} {c : Code} {H : Heap} {locs : List Loc} {cells slots : Nat} {Q : State → Prop}
variable {cc : ByteArray} {pc : Nat} {ls : Array Slot} {B : Nat} {ad : Nat → Nat}
set_option maxHeartbeats 4000000 in
theorem mm_ps_W (hx : p.tables.exec = Jvm.exec) (hb : c.code = cc) {own : String} (hown : s.vm.findClass own = some m.cls) {i : Instr} {len : Nat} {a : mm_A} {L L' : mm_L} {st st' : List Value} {pc' : Nat}
    (hd : decode cc pc = .ok (i, len)) (hk : mm_pk i len a pc = true) (hl : mm_lr B ad L ls)
    (hCw : ∀ idx, i = .ldc_w idx → (Jvm.Cond.constant own idx (Int32.ofInt a.2.2)).before args s = true) (hCl : ∀ idx, i = .ldc2_w idx → (Jvm.Cond.constantLong own idx (Int64.ofInt a.2.2)).before args s = true)
    (hC : ∀ idx, i = .ldc idx → (a.1 = 0 → (Jvm.Cond.constant own idx (Int32.ofInt a.2.2)).before args s = true) ∧ (¬ a.1 = 0 → ∃ tx, vk_R own idx tx (ad a.2.1) s))
    (h : mm_ps i len a pc L st = some (pc', L', st'))
    (k : ∀ ls' : Array Slot, mm_lr B ad L' ls' → W p l e R s m args below meth c H locs cells slots Q (F0 m pc' ls' (st'.map (mm_tr B ad)))) :
    W p l e R s m args below meth c H locs cells slots Q (F0 m pc ls (st.map (mm_tr B ad))) := by
  cases i
  case iconst n =>
    cases mm_b1 (n := 1) hk
    cases h
    exact lv_iconst hx hb hd rfl (k ls hl)
  case bipush n =>
    cases mm_b1 (n := 2) hk
    cases h
    exact lv_bipush hx hb hd rfl (k ls hl)
  case sipush n =>
    cases mm_b1 (n := 3) hk
    cases h
    exact lv_sipush hx hb hd rfl (k ls hl)
  case aconst_null =>
    cases mm_b1 (n := 1) hk
    cases h
    exact lv_null hx hb hd (k ls hl)
  case ldc idx =>
    cases mm_b1 (n := 2) hk
    obtain ⟨h1, h2⟩ := hC idx rfl
    by_cases ha : a.1 = 0
    · have e1 : mm_ps (.ldc idx) 2 a pc L st = some (pc + 2, L, .int (Int32.ofInt a.2.2) :: st) := by
        show some (pc + 2, L, (bif a.1 == 0 then _ else _) :: st) = _
        rw [ha]; rfl
      rw [e1] at h
      cases h
      exact lv_ldc hx hb hown (h1 ha) hd (k ls hl)
    · have e1 : mm_ps (.ldc idx) 2 a pc L st = some (pc + 2, L, .retAddr a.2.1 :: st) := by
        show some (pc + 2, L, (bif a.1 == 0 then _ else _) :: st) = _
        rw [show (a.1 == 0) = false from beq_eq_false_iff_ne.mpr ha]; rfl
      rw [e1] at h
      cases h
      obtain ⟨tx, ht⟩ := h2 ha
      exact va_ldcS hx hb hown ht hd (k ls hl)
  case ldc_w idx =>
    cases mm_b1 (n := 3) hk
    cases h
    exact lv_ldcw hx hb hown (hCw idx rfl) hd (k ls hl)
  case ldc2_w idx =>
    cases mm_b1 (n := 3) hk
    cases h
    exact lv_ldc2 hx hb hown (hCl idx rfl) hd (k ls hl)
  case land =>
    cases mm_b1 (n := 1) hk
    obtain ⟨x, y, r, rfl, rfl, rfl, rfl⟩ := mm_l2_inv h
    exact lv_land hx hb hd (k ls hl)
  case lor =>
    cases mm_b1 (n := 1) hk
    obtain ⟨x, y, r, rfl, rfl, rfl, rfl⟩ := mm_l2_inv h
    exact lv_lor hx hb hd (k ls hl)
  case lxor =>
    cases mm_b1 (n := 1) hk
    obtain ⟨x, y, r, rfl, rfl, rfl, rfl⟩ := mm_l2_inv h
    exact lv_lxor hx hb hd (k ls hl)
  case lshl =>
    cases mm_b1 (n := 1) hk
    obtain ⟨x, y, r, rfl, rfl, rfl, rfl⟩ := mm_ls_inv h
    exact lv_lshl hx hb hd rfl (k ls hl)
  case lshr =>
    cases mm_b1 (n := 1) hk
    obtain ⟨x, y, r, rfl, rfl, rfl, rfl⟩ := mm_ls_inv h
    exact lv_lshr hx hb hd rfl (k ls hl)
  case i2l =>
    cases mm_b1 (n := 1) hk
    obtain ⟨x, r, rfl, rfl, rfl, rfl⟩ := mm_il_inv h
    exact lv_i2l hx hb hd rfl (k ls hl)
  case l2i =>
    cases mm_b1 (n := 1) hk
    obtain ⟨x, r, rfl, rfl, rfl, rfl⟩ := mm_li_inv h
    exact lv_l2i hx hb hd rfl (k ls hl)
  case iload j =>
    cases mm_b1 (n := 2) hk
    obtain ⟨x, h1, rfl, rfl, rfl⟩ := mm_ldi_inv h
    exact lv_iload hx hb hd (hl.2.2 _ _ h1).2 (k ls hl)
  case iload_n j =>
    cases mm_b1 (n := 1) hk
    obtain ⟨x, h1, rfl, rfl, rfl⟩ := mm_ldi_inv h
    exact lv_iload_n hx hb hd rfl (hl.2.2 _ _ h1).2 (k ls hl)
  case aload j =>
    cases mm_b1 (n := 2) hk
    obtain ⟨v, h1, hv, rfl, rfl, rfl⟩ := mm_lda_inv h
    have h2 := (hl.2.2 _ _ h1).2
    rcases hv with rfl | ⟨x, rfl⟩ | ⟨x, rfl⟩
    · exact lv_aloadN hx hb hd h2 (k ls hl)
    · exact lv_aload hx hb hd h2 (k ls hl)
    · exact lv_aload hx hb hd h2 (k ls hl)
  case aload_n j =>
    cases mm_b1 (n := 1) hk
    obtain ⟨v, h1, hv, rfl, rfl, rfl⟩ := mm_lda_inv h
    have h2 := (hl.2.2 _ _ h1).2
    rcases hv with rfl | ⟨x, rfl⟩ | ⟨x, rfl⟩
    · exact lv_aload_nN hx hb hd rfl h2 (k ls hl)
    · exact lv_aload_n hx hb hd rfl h2 (k ls hl)
    · exact lv_aload_n hx hb hd rfl h2 (k ls hl)
  case istore j =>
    cases mm_b1 (n := 2) hk
    obtain ⟨x, r, rfl, hj, rfl, rfl, rfl⟩ := mm_sti_inv h
    exact lv_istore hx hb hd (mm_lr_has hl) hj rfl (fun ls' h' => k ls' (mm_lr_of (v := .int x) hl rfl h'))
  case istore_n j =>
    cases mm_b1 (n := 1) hk
    obtain ⟨x, r, rfl, hj, rfl, rfl, rfl⟩ := mm_sti_inv h
    exact lv_istore_n hx hb hd rfl (mm_lr_has hl) hj rfl (fun ls' h' => k ls' (mm_lr_of (v := .int x) hl rfl h'))
  case astore j =>
    cases mm_b1 (n := 2) hk
    obtain ⟨v, r, rfl, hv, hj, rfl, rfl, rfl⟩ := mm_sta_inv h
    rcases hv with rfl | ⟨x, rfl⟩ | ⟨x, rfl⟩
    · exact lv_astoreN hx hb hd (mm_lr_has hl) hj rfl (fun ls' h' => k ls' (mm_lr_of (v := .null) hl rfl h'))
    · exact lv_astore hx hb hd (mm_lr_has hl) hj rfl (fun ls' h' => k ls' (mm_lr_of (v := .ref x) hl rfl h'))
    · exact lv_astore hx hb hd (mm_lr_has hl) hj rfl (fun ls' h' => k ls' (mm_lr_of (v := .retAddr x) hl rfl h'))
  case astore_n j =>
    cases mm_b1 (n := 1) hk
    obtain ⟨v, r, rfl, hv, hj, rfl, rfl, rfl⟩ := mm_sta_inv h
    rcases hv with rfl | ⟨x, rfl⟩ | ⟨x, rfl⟩
    · exact lv_astore_nN hx hb hd rfl (mm_lr_has hl) hj rfl (fun ls' h' => k ls' (mm_lr_of (v := .null) hl rfl h'))
    · exact lv_astore_n hx hb hd rfl (mm_lr_has hl) hj rfl (fun ls' h' => k ls' (mm_lr_of (v := .ref x) hl rfl h'))
    · exact lv_astore_n hx hb hd rfl (mm_lr_has hl) hj rfl (fun ls' h' => k ls' (mm_lr_of (v := .retAddr x) hl rfl h'))
  case iinc j n =>
    cases mm_b1 (n := 3) hk
    obtain ⟨x, h1, rfl, rfl, rfl⟩ := mm_inc_inv h
    obtain ⟨k9, hk9⟩ := List.getElem?_of_mem (mm_al_mem (B := B) (ad := ad) (q := (j, .int x)).mpr ⟨.int x, h1, rfl⟩)
    exact lv_iinc hx hb hd (mm_lr_has hl) hk9 rfl (List.getElem?_eq_some_iff.mp h1).1 rfl (fun ls' h' => k ls' (mm_lr_of (v := .int (x + Int32.ofInt n)) hl rfl h'))
  case iadd =>
    cases mm_b1 (n := 1) hk
    obtain ⟨x, y, r, rfl, rfl, rfl, rfl⟩ := mm_i2_inv h
    exact lv_iadd hx hb hd (k ls hl)
  case isub =>
    cases mm_b1 (n := 1) hk
    obtain ⟨x, y, r, rfl, rfl, rfl, rfl⟩ := mm_i2_inv h
    exact lv_isub hx hb hd (k ls hl)
  case imul =>
    cases mm_b1 (n := 1) hk
    obtain ⟨x, y, r, rfl, rfl, rfl, rfl⟩ := mm_i2_inv h
    exact lv_imul hx hb hd (k ls hl)
  case iand =>
    cases mm_b1 (n := 1) hk
    obtain ⟨x, y, r, rfl, rfl, rfl, rfl⟩ := mm_i2_inv h
    exact lv_iand hx hb hd (k ls hl)
  case ior =>
    cases mm_b1 (n := 1) hk
    obtain ⟨x, y, r, rfl, rfl, rfl, rfl⟩ := mm_i2_inv h
    exact lv_ior hx hb hd (k ls hl)
  case ixor =>
    cases mm_b1 (n := 1) hk
    obtain ⟨x, y, r, rfl, rfl, rfl, rfl⟩ := mm_i2_inv h
    exact lv_ixor hx hb hd (k ls hl)
  case ishl =>
    cases mm_b1 (n := 1) hk
    obtain ⟨x, y, r, rfl, rfl, rfl, rfl⟩ := mm_i2_inv h
    exact lv_ishl hx hb hd (k ls hl)
  case ishr =>
    cases mm_b1 (n := 1) hk
    obtain ⟨x, y, r, rfl, rfl, rfl, rfl⟩ := mm_i2_inv h
    exact lv_ishr hx hb hd (k ls hl)
  case idiv =>
    cases mm_b1 (n := 1) hk
    obtain ⟨x, y, r, hy, rfl, rfl, rfl, rfl⟩ := mm_dv_inv h
    exact lv_idiv hx hb hd hy (k ls hl)
  case irem =>
    cases mm_b1 (n := 1) hk
    obtain ⟨x, y, r, hy, rfl, rfl, rfl, rfl⟩ := mm_dv_inv h
    exact lv_irem hx hb hd hy (k ls hl)
  case ineg =>
    cases mm_b1 (n := 1) hk
    obtain ⟨x, r, rfl, rfl, rfl, rfl⟩ := mm_i1_inv h
    exact lv_ineg hx hb hd (k ls hl)
  case i2c =>
    cases mm_b1 (n := 1) hk
    obtain ⟨x, r, rfl, rfl, rfl, rfl⟩ := mm_i1_inv h
    exact lv_i2c hx hb hd rfl (k ls hl)
  case dup =>
    cases mm_b1 (n := 1) hk
    obtain ⟨v, r, rfl, hv, rfl, rfl, rfl⟩ := mm_dup_inv h
    exact lv_dup hx hb hd (by rw [mm_tr_cat]; exact mm_c1_cat hv) (k ls hl)
  case pop =>
    cases mm_b1 (n := 1) hk
    obtain ⟨v, r, rfl, hv, rfl, rfl, rfl⟩ := mm_pop_inv h
    exact lv_pop hx hb hd (by rw [mm_tr_cat]; exact mm_c1_cat hv) (k ls hl)
  case dup_x1 =>
    cases mm_b1 (n := 1) hk
    obtain ⟨v, w, r, rfl, hv, hw, rfl, rfl, rfl⟩ := mm_dx1_inv h
    exact lv_dup_x1 hx hb hd (by rw [mm_tr_cat]; exact mm_c1_cat hv) (by rw [mm_tr_cat]; exact mm_c1_cat hw) (k ls hl)
  case dup_x2 =>
    cases mm_b1 (n := 1) hk
    obtain ⟨v, w, z, r, rfl, hv, hw, hz, rfl, rfl, rfl⟩ := mm_dx2_inv h
    exact lv_dup_x2 hx hb hd (by rw [mm_tr_cat]; exact mm_c1_cat hv) (by rw [mm_tr_cat]; exact mm_c1_cat hw) (by rw [mm_tr_cat]; exact mm_c1_cat hz) (k ls hl)
  case dup2 =>
    cases mm_b1 (n := 1) hk
    obtain ⟨v, w, r, rfl, hv, hw, rfl, rfl, rfl⟩ := mm_du2_inv h
    exact lv_dup2_11 hx hb hd (by rw [mm_tr_cat]; exact mm_c1_cat hv) (by rw [mm_tr_cat]; exact mm_c1_cat hw) (k ls hl)
  case ifCond cd off =>
    obtain ⟨rfl, ht⟩ := mm_b3 (n := 3) hk
    obtain ⟨x, r, rfl, hpc, rfl, rfl⟩ := mm_if_inv h
    cases cd
    · refine lv_if_eq hx hb hd ht (fun q => ?_) (fun q => ?_)
      · rw [show mm_cc .eq x 0 = true from decide_eq_true q] at hpc; cases hpc; exact k ls hl
      · rw [show mm_cc .eq x 0 = false from decide_eq_false q] at hpc; cases hpc; exact k ls hl
    · refine lv_if_ne hx hb hd ht (fun q => ?_) (fun q => ?_)
      · rw [show mm_cc .ne x 0 = true from decide_eq_true q] at hpc; cases hpc; exact k ls hl
      · rw [show mm_cc .ne x 0 = false from decide_eq_false (fun z => z q)] at hpc; cases hpc; exact k ls hl
    · refine lv_if_lt hx hb hd ht (fun q => ?_) (fun q => ?_)
      · rw [show mm_cc .lt x 0 = true from decide_eq_true q] at hpc; cases hpc; exact k ls hl
      · rw [show mm_cc .lt x 0 = false from decide_eq_false q] at hpc; cases hpc; exact k ls hl
    · refine lv_if_ge hx hb hd ht (fun q => ?_) (fun q => ?_)
      · rw [show mm_cc .ge x 0 = true from decide_eq_true q] at hpc; cases hpc; exact k ls hl
      · rw [show mm_cc .ge x 0 = false from decide_eq_false q] at hpc; cases hpc; exact k ls hl
    · refine lv_if_gt hx hb hd ht (fun q => ?_) (fun q => ?_)
      · rw [show mm_cc .gt x 0 = true from decide_eq_true q] at hpc; cases hpc; exact k ls hl
      · rw [show mm_cc .gt x 0 = false from decide_eq_false q] at hpc; cases hpc; exact k ls hl
    · refine lv_if_le hx hb hd ht (fun q => ?_) (fun q => ?_)
      · rw [show mm_cc .le x 0 = true from decide_eq_true q] at hpc; cases hpc; exact k ls hl
      · rw [show mm_cc .le x 0 = false from decide_eq_false q] at hpc; cases hpc; exact k ls hl
  case if_icmp cd off =>
    obtain ⟨rfl, ht⟩ := mm_b3 (n := 3) hk
    obtain ⟨x, y, r, rfl, hpc, rfl, rfl⟩ := mm_ic_inv h
    cases cd
    · refine lv_icmp_eq hx hb hd ht (fun q => ?_) (fun q => ?_)
      · rw [show mm_cc .eq x y = true from decide_eq_true q] at hpc; cases hpc; exact k ls hl
      · rw [show mm_cc .eq x y = false from decide_eq_false q] at hpc; cases hpc; exact k ls hl
    · refine lv_icmp_ne hx hb hd ht (fun q => ?_) (fun q => ?_)
      · rw [show mm_cc .ne x y = true from decide_eq_true q] at hpc; cases hpc; exact k ls hl
      · rw [show mm_cc .ne x y = false from decide_eq_false (fun z => z q)] at hpc; cases hpc; exact k ls hl
    · refine lv_icmp_lt hx hb hd ht (fun q => ?_) (fun q => ?_)
      · rw [show mm_cc .lt x y = true from decide_eq_true q] at hpc; cases hpc; exact k ls hl
      · rw [show mm_cc .lt x y = false from decide_eq_false q] at hpc; cases hpc; exact k ls hl
    · refine lv_icmp_ge hx hb hd ht (fun q => ?_) (fun q => ?_)
      · rw [show mm_cc .ge x y = true from decide_eq_true q] at hpc; cases hpc; exact k ls hl
      · rw [show mm_cc .ge x y = false from decide_eq_false q] at hpc; cases hpc; exact k ls hl
    · refine lv_icmp_gt hx hb hd ht (fun q => ?_) (fun q => ?_)
      · rw [show mm_cc .gt x y = true from decide_eq_true q] at hpc; cases hpc; exact k ls hl
      · rw [show mm_cc .gt x y = false from decide_eq_false q] at hpc; cases hpc; exact k ls hl
    · refine lv_icmp_le hx hb hd ht (fun q => ?_) (fun q => ?_)
      · rw [show mm_cc .le x y = true from decide_eq_true q] at hpc; cases hpc; exact k ls hl
      · rw [show mm_cc .le x y = false from decide_eq_false q] at hpc; cases hpc; exact k ls hl
  case ifnull off =>
    obtain ⟨rfl, ht⟩ := mm_b3 (n := 3) hk
    rcases mm_nl_inv h with ⟨r, rfl, rfl, rfl, rfl⟩ | ⟨x, r, rfl, rfl, rfl, rfl⟩
    · exact lv_ifnullN hx hb hd ht (k ls hl)
    · exact lv_ifnull hx hb hd (k ls hl)
  case ifnonnull off =>
    obtain ⟨rfl, ht⟩ := mm_b3 (n := 3) hk
    rcases mm_nl_inv h with ⟨r, rfl, rfl, rfl, rfl⟩ | ⟨x, r, rfl, rfl, rfl, rfl⟩
    · exact lv_ifnonnullN hx hb hd (k ls hl)
    · exact lv_ifnonnull hx hb hd ht (k ls hl)
  case goto off =>
    obtain ⟨rfl, ht⟩ := mm_b3 (n := 3) hk
    cases h
    exact lv_goto hx hb hd ht (k ls hl)
  case tableswitch dflt lo hi offs =>
    obtain ⟨x, r, off, rfl, ho, ht, rfl, rfl⟩ := mm_sw_inv h
    by_cases hr : x.toInt < lo ∨ hi < x.toInt
    · rw [if_pos hr] at ho
      cases ho
      exact lv_tableOut hx hb hd hr ht (k ls hl)
    · rw [if_neg hr] at ho
      exact lv_tableIn hx hb hd (fun q => hr (Or.inl q)) (fun q => hr (Or.inr q)) ho ht (k ls hl)
  all_goals exact nomatch (show (none : Option mm_F) = some _ from h)
end MMP
