theorem mm_hs_mono {X : List Int32} {i : Instr} {a : mm_A} {st st' : List Value} {hp hp' : mm_H} (h : mm_hs X i a st hp = some (st', hp')) : hp.length ≤ hp'.length ∧ mm_sz hp ≤ mm_sz hp' := by
  have same : ∀ hq : mm_H, hq = hp → hp.length ≤ hq.length ∧ mm_sz hp ≤ mm_sz hq := fun hq e => by rw [e]; exact ⟨Nat.le_refl _, Nat.le_refl _⟩
  have put : ∀ (x : Nat) (c c' : mm_C), hp[x]? = some c → c'.2.length = c.2.length → hp.length ≤ (hp.set x c').length ∧ mm_sz hp ≤ mm_sz (hp.set x c') := fun x c c' h1 h2 => ⟨by simp, by rw [mm_sz_set h1 h2]; exact Nat.le_refl _⟩
  have push : ∀ c : mm_C, hp.length ≤ (hp ++ [c]).length ∧ mm_sz hp ≤ mm_sz (hp ++ [c]) := fun c => ⟨by simp, by rw [mm_sz_push]; omega⟩
  cases i
  case getfield idx =>
    obtain ⟨x, r, vs, v, rfl, h1, h2, rfl, e⟩ := mm_get_inv h
    exact same _ e
  case putfield idx =>
    obtain ⟨v, x, r, vs, rfl, h1, hkl, hfv, rfl, rfl⟩ := mm_put_inv h
    exact put x _ _ h1 (by simp)
  case iaload =>
    rcases mm_ald_inv h with ⟨j, x, r, vs, v, rfl, h1, hj, h2, rfl, e⟩ | ⟨j, r, v, rfl, h9, hj, h2, rfl, e⟩ <;> exact same _ e
  case caload =>
    rcases mm_ald_inv h with ⟨j, x, r, vs, v, rfl, h1, hj, h2, rfl, e⟩ | ⟨j, r, v, rfl, h9, hj, h2, rfl, e⟩ <;> exact same _ e
  case baload =>
    rcases mm_ald_inv h with ⟨j, x, r, vs, v, rfl, h1, hj, h2, rfl, e⟩ | ⟨j, r, v, rfl, h9, hj, h2, rfl, e⟩ <;> exact same _ e
  case laload =>
    rcases mm_ald_inv h with ⟨j, x, r, vs, v, rfl, h1, hj, h2, rfl, e⟩ | ⟨j, r, v, rfl, h9, hj, h2, rfl, e⟩ <;> exact same _ e
  case lastore =>
    obtain ⟨y, j, x, r, vs, rfl, h1, hj, hlt, rfl, rfl⟩ := mm_las_inv h
    exact put x _ _ h1 (by simp)
  case aaload =>
    obtain ⟨j, x, r, t, vs, v, rfl, h1, ht, hq, hj, h2, rfl, e⟩ := mm_aal_inv h
    exact same _ e
  case iastore =>
    obtain ⟨y, j, x, r, vs, rfl, h1, hj, hlt, hfv, rfl, rfl⟩ := mm_ast_inv h
    exact put x _ _ h1 (by simp)
  case castore =>
    obtain ⟨y, j, x, r, vs, rfl, h1, hj, hlt, hfv, rfl, rfl⟩ := mm_ast_inv h
    exact put x _ _ h1 (by simp)
  case bastore =>
    obtain ⟨y, j, x, r, vs, rfl, h1, hj, hlt, hfv, rfl, rfl⟩ := mm_ast_inv h
    exact put x _ _ h1 (by simp)
  case aastore =>
    rcases mm_aas_inv h with ⟨j, x, r, t, vs, rfl, h1, ht, hq, hj, hlt, rfl, rfl⟩ | ⟨y, j, x, r, vs, ci, ws, rfl, h1, h2, hci, hq, hj, hlt, rfl, rfl⟩
    · exact put x _ _ h1 (by simp)
    · exact put x _ _ h1 (by simp)
  case arraylength =>
    rcases mm_len_inv h with ⟨x, r, t, vs, rfl, h1, ht, ⟨ty, hty⟩, rfl, e⟩ | ⟨r, rfl, rfl, e⟩ <;> exact same _ e
  case new idx =>
    cases h
    exact push _
  case newarray ty =>
    obtain ⟨n, r, rfl, hn, hn2, rfl, rfl⟩ := mm_nwa_inv h
    exact push _
  case anewarray idx =>
    obtain ⟨n, r, rfl, hn, hn2, rfl, rfl⟩ := mm_nwa_inv h
    exact push _
  all_goals exact nomatch (show (none : Option (List Value × mm_H)) = some _ from h)
/-- one turn of the machine, as its five kinds -/
theorem mm_ev_inv {X : List Int32} {n d mi pc : Nat} {L : mm_L} {st : List Value} {hp hp' : mm_H} {r : Option Value} (h : mm_ev X (n + 1) d mi pc L st hp = some (r, hp')) :
    ∃ i len a, mm_code mi pc = some (i, len, a) ∧
      ((∃ f, mm_ps i len a pc L st = some f ∧ mm_ev X n d mi f.1 f.2.1 f.2.2 hp = some (r, hp')) ∨
       (∃ g, mm_hs X i a st hp = some g ∧ mm_ev X n d mi (pc + len) L g.1 g.2 = some (r, hp')) ∨
       (∃ d' q v, d = d' + 1 ∧ mm_iv i = true ∧ mm_sp a.2.1 st = some q ∧ 9000 ≤ a.1 ∧ mm_pm a.1 d' q.1 = some v ∧ mm_ev X n d mi (pc + len) L (v.toList ++ q.2) hp = some (r, hp')) ∨
       (∃ d' q z, d = d' + 1 ∧ mm_iv i = true ∧ mm_sp a.2.1 st = some q ∧ a.1 < 9000 ∧ mm_rc i a.1 q.1 hp = true ∧ q.1.length ≤ mm_ml a.1 ∧ mm_ev X n d' a.1 0 (mm_L0 a.1 q.1) [] hp = some z ∧ mm_ev X n d mi (pc + len) L (z.1.toList ++ q.2) z.2 = some (r, hp')) ∨
       (mm_rv i (mm_rt mi) st = some r ∧ hp' = hp)) := by
  rw [mm_ev] at h
  split at h
  · cases h
  · rename_i i len a hc
    refine ⟨i, len, a, hc, ?_⟩
    split at h
    · rename_i f hf
      exact Or.inl ⟨f, hf, h⟩
    · split at h
      · rename_i g hg
        exact Or.inr (Or.inl ⟨g, hg, h⟩)
      · cases hiv : mm_iv i with
        | true =>
          rw [hiv] at h
          dsimp only [cond_true] at h
          split at h
          · cases h
          · rename_i d'
            split at h
            · cases h
            · rename_i q hq
              cases hb : Nat.ble 9000 a.1 with
              | true =>
                rw [hb] at h
                dsimp only [cond_true] at h
                split at h
                · rename_i v hv
                  exact Or.inr (Or.inr (Or.inl ⟨d', q, v, rfl, rfl, hq, Nat.le_of_ble_eq_true hb, hv, h⟩))
                · cases h
              | false =>
                rw [hb] at h
                dsimp only [cond_false] at h
                cases hr : mm_rc i a.1 q.1 hp && Nat.ble q.1.length (mm_ml a.1) with
                | true =>
                  rw [hr] at h
                  dsimp only [cond_true] at h
                  rw [Bool.and_eq_true] at hr
                  split at h
                  · rename_i z hz
                    refine Or.inr (Or.inr (Or.inr (Or.inl ⟨d', q, z, rfl, rfl, hq, ?_, hr.1, Nat.le_of_ble_eq_true hr.2, hz, h⟩)))
                    rcases Nat.lt_or_ge a.1 9000 with g | g
                    · exact g
                    · rw [Nat.ble_eq_true_of_le g] at hb
                      cases hb
                  · cases h
                | false =>
                  rw [hr] at h
                  cases h
        | false =>
          rw [hiv] at h
          dsimp only [cond_false] at h
          split at h
          · rename_i v hv
            cases h
            exact Or.inr (Or.inr (Or.inr (Or.inr ⟨hv, rfl⟩)))
          · cases h
theorem mm_ev_mono {X : List Int32} : ∀ (n d mi pc : Nat) (L : mm_L) (st : List Value) (hp hp' : mm_H) (r : Option Value), mm_ev X n d mi pc L st hp = some (r, hp') → hp.length ≤ hp'.length ∧ mm_sz hp ≤ mm_sz hp' := by
  intro n
  induction n with
  | zero => intro d mi pc L st hp hp' r h; cases h
  | succ n ih =>
    intro d mi pc L st hp hp' r h
    obtain ⟨i, len, a, -, h | h | h | h | h⟩ := mm_ev_inv h
    · obtain ⟨f, -, h2⟩ := h
      exact ih _ _ _ _ _ _ _ _ h2
    · obtain ⟨g, h1, h2⟩ := h
      obtain ⟨a1, a2⟩ := mm_hs_mono h1
      obtain ⟨b1, b2⟩ := ih _ _ _ _ _ _ _ _ h2
      exact ⟨Nat.le_trans a1 b1, Nat.le_trans a2 b2⟩
    · obtain ⟨d', q, v, -, -, -, -, -, h2⟩ := h
      exact ih _ _ _ _ _ _ _ _ h2
    · obtain ⟨d', q, z, -, -, -, -, -, -, h1, h2⟩ := h
      obtain ⟨a1, a2⟩ := ih _ _ _ _ _ _ _ _ h1
      obtain ⟨b1, b2⟩ := ih _ _ _ _ _ _ _ _ h2
      exact ⟨Nat.le_trans a1 b1, Nat.le_trans a2 b2⟩
    · rw [h.2]
      exact ⟨Nat.le_refl _, Nat.le_refl _⟩
theorem mm_ps_len {i : Instr} {len : Nat} {a : mm_A} {pc pc' : Nat} {L L' : mm_L} {st st' : List Value} (h : mm_ps i len a pc L st = some (pc', L', st')) : L'.length = L.length := by
  cases i
  case iconst n => cases h; rfl
  case bipush n => cases h; rfl
  case sipush n => cases h; rfl
  case aconst_null => cases h; rfl
  case ldc idx => cases h; rfl
  case ldc_w idx => cases h; rfl
  case ldc2_w idx => cases h; rfl
  case goto off => cases h; rfl
  case land => obtain ⟨x, y, r, _, _, e, _⟩ := mm_l2_inv h; rw [e]
  case lor => obtain ⟨x, y, r, _, _, e, _⟩ := mm_l2_inv h; rw [e]
  case lxor => obtain ⟨x, y, r, _, _, e, _⟩ := mm_l2_inv h; rw [e]
  case lshl => obtain ⟨x, y, r, _, _, e, _⟩ := mm_ls_inv h; rw [e]
  case lshr => obtain ⟨x, y, r, _, _, e, _⟩ := mm_ls_inv h; rw [e]
  case i2l => obtain ⟨x, r, _, _, e, _⟩ := mm_il_inv h; rw [e]
  case l2i => obtain ⟨x, r, _, _, e, _⟩ := mm_li_inv h; rw [e]
  case iload j => obtain ⟨x, _, _, e, _⟩ := mm_ldi_inv h; rw [e]
  case iload_n j => obtain ⟨x, _, _, e, _⟩ := mm_ldi_inv h; rw [e]
  case aload j => obtain ⟨v, _, _, _, e, _⟩ := mm_lda_inv h; rw [e]
  case aload_n j => obtain ⟨v, _, _, _, e, _⟩ := mm_lda_inv h; rw [e]
  case istore j => obtain ⟨x, r, _, _, _, e, _⟩ := mm_sti_inv h; rw [e, List.length_set]
  case istore_n j => obtain ⟨x, r, _, _, _, e, _⟩ := mm_sti_inv h; rw [e, List.length_set]
  case astore j => obtain ⟨v, r, _, _, _, _, e, _⟩ := mm_sta_inv h; rw [e, List.length_set]
  case astore_n j => obtain ⟨v, r, _, _, _, _, e, _⟩ := mm_sta_inv h; rw [e, List.length_set]
  case iinc j n => obtain ⟨x, _, _, e, _⟩ := mm_inc_inv h; rw [e, List.length_set]
  case iadd => obtain ⟨x, y, r, _, _, e, _⟩ := mm_i2_inv h; rw [e]
  case isub => obtain ⟨x, y, r, _, _, e, _⟩ := mm_i2_inv h; rw [e]
  case imul => obtain ⟨x, y, r, _, _, e, _⟩ := mm_i2_inv h; rw [e]
  case iand => obtain ⟨x, y, r, _, _, e, _⟩ := mm_i2_inv h; rw [e]
  case ior => obtain ⟨x, y, r, _, _, e, _⟩ := mm_i2_inv h; rw [e]
  case ixor => obtain ⟨x, y, r, _, _, e, _⟩ := mm_i2_inv h; rw [e]
  case ishl => obtain ⟨x, y, r, _, _, e, _⟩ := mm_i2_inv h; rw [e]
  case ishr => obtain ⟨x, y, r, _, _, e, _⟩ := mm_i2_inv h; rw [e]
  case idiv => obtain ⟨x, y, r, _, _, _, e, _⟩ := mm_dv_inv h; rw [e]
  case irem => obtain ⟨x, y, r, _, _, _, e, _⟩ := mm_dv_inv h; rw [e]
  case ineg => obtain ⟨x, r, _, _, e, _⟩ := mm_i1_inv h; rw [e]
  case i2c => obtain ⟨x, r, _, _, e, _⟩ := mm_i1_inv h; rw [e]
  case dup => obtain ⟨v, r, _, _, _, e, _⟩ := mm_dup_inv h; rw [e]
  case pop => obtain ⟨v, r, _, _, _, e, _⟩ := mm_pop_inv h; rw [e]
  case dup_x1 => obtain ⟨v, w, r, _, _, _, _, e, _⟩ := mm_dx1_inv h; rw [e]
  case dup_x2 => obtain ⟨v, w, z, r, _, _, _, _, _, e, _⟩ := mm_dx2_inv h; rw [e]
  case dup2 => obtain ⟨v, w, r, _, _, _, _, e, _⟩ := mm_du2_inv h; rw [e]
  case ifCond cd off => obtain ⟨x, r, _, _, e, _⟩ := mm_if_inv h; rw [e]
  case if_icmp cd off => obtain ⟨x, y, r, _, _, e, _⟩ := mm_ic_inv h; rw [e]
  case ifnull off => rcases mm_nl_inv h with ⟨r, _, _, e, _⟩ | ⟨x, r, _, _, e, _⟩ <;> rw [e]
  case ifnonnull off => rcases mm_nl_inv h with ⟨r, _, _, e, _⟩ | ⟨x, r, _, _, e, _⟩ <;> rw [e]
  case tableswitch dflt lo hi offs => obtain ⟨x, r, off, _, _, _, e, _⟩ := mm_sw_inv h; rw [e]
  all_goals exact nomatch (show (none : Option mm_F) = some _ from h)
