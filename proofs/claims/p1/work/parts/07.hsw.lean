section MMH
variable {p : Program} {l : Launch} {e : Env} {R : Room} {s : State} {m : MethodId} {args : Array Value} {below : List Frame} {meth : Method} {c : Code} {H : Heap} {locs : List Loc} {cells slots : Nat} {Q : State → Prop}
variable {cc : ByteArray} {pc : Nat} {ls : Array Slot} {D : va_G} {dA : Nat → ClassId} {h0 : Heap} {ad : Nat → Nat} {X : List Int32} {Ts : List Cond} {own : String} {n0 s0 : Nat}
theorem mm_locs {x k : Nat} (h : ∀ q ∈ locs, h0.size ≤ q.base) : ∀ q ∈ locs ++ [(⟨h0.size + x, k⟩ : Loc)], h0.size ≤ q.base := by
  intro q hq
  rcases List.mem_append.mp hq with h1 | h1
  · exact h q h1
  · rw [List.mem_singleton.mp h1]
    exact Nat.le_add_right _ _
set_option maxHeartbeats 4000000 in
theorem mm_hs_W (hx : p.tables.exec = Jvm.exec) (hb : c.code = cc) (hown : s.vm.findClass own = some m.cls) (hts : ∀ w ∈ Ts, w.before args s = true) (hTK : mm_TK Ts) (hE : mm_Ev D dA h0 ad X s)
    {i : Instr} {len : Nat} {a : mm_A} {st st' : List Value} {hp hp' : mm_H} (hd : decode cc pc = .ok (i, len)) (hk : mm_pk i len a pc = true) (hh : mm_hk own args s meth.name i a)
    (hrp : mm_rp D dA h0 ad hp H) (hlo : ∀ q ∈ locs, h0.size ≤ q.base) (hcl : cells + n0 = hp.length) (hsl : slots + s0 = mm_sz hp)
    (h : mm_hs X i a st hp = some (st', hp')) (hR1 : hp'.length ≤ n0 + R.cells) (hR2 : mm_sz hp' ≤ s0 + R.slots)
    (k : ∀ (H' : Heap) (locs' : List Loc) (cells' slots' : Nat), mm_rp D dA h0 ad hp' H' → (∀ q ∈ locs', h0.size ≤ q.base) → cells' + n0 = hp'.length → slots' + s0 = mm_sz hp' → W p l e R s m args below meth c H' locs' cells' slots' Q (F0 m (pc + len) ls (st'.map (mm_tr h0.size ad)))) :
    W p l e R s m args below meth c H locs cells slots Q (F0 m pc ls (st.map (mm_tr h0.size ad))) := by
  cases i
  case getfield idx =>
    cases mm_b1 (n := 3) hk
    obtain ⟨x, r, vs, v, rfl, h1, h2, rfl, rfl⟩ := mm_get_inv h
    obtain ⟨q, hq, hkq, hlk⟩ := hh
    obtain ⟨-, hlen, cell, q1, q2, q3, q4⟩ := mm_cl_of (hrp.2.2 x _ h1) hq
    obtain ⟨hS, hfc, kC, hkC, hkind⟩ := hE.1.1 _ _ hq
    obtain ⟨cf, kf, fi, f, hi, hsf⟩ := hS _ hkq
    have hst := (u_facts hfc hkC (u_lays hts (hTK _ _ hq).1 hkq) hi).1
    have hv : cell.slots[f.slot]? = some (mm_tr h0.size ad v) := by rw [hsf, q4 _ hkq, mm_V_at h2]
    rcases hlk with hlk | ⟨host, hlk⟩
    · exact W.getf hx hb hown hlk hi hst q1 (by rw [q3]; exact fun h => by cases h) hv rfl rfl hd (k H locs cells slots hrp hlo hcl hsl)
    · exact va_Wgetf hx hb hown hlk hi hst q1 (by rw [q3]; exact fun h => by cases h) hv rfl rfl hd (k H locs cells slots hrp hlo hcl hsl)
  case putfield idx =>
    cases mm_b1 (n := 3) hk
    obtain ⟨v, x, r, vs, rfl, h1, hkl, hfv, er, rfl⟩ := mm_put_inv h
    subst er
    obtain ⟨q, hq, hkq, hlk⟩ := hh
    obtain ⟨hlt, hlen, cell, q1, q2, q3, q4⟩ := mm_cl_of (hrp.2.2 x _ h1) hq
    obtain ⟨hS, hfc, kC, hkC, hkind⟩ := hE.1.1 _ _ hq
    obtain ⟨cf, kf, fi, f, hi, hsf⟩ := hS _ hkq
    obtain ⟨hin, hty, hnm, -, -⟩ := hTK _ _ hq
    have hap := va_apart (own := own) hts hin (mm_ft a.1) hty hnm hE.1 hq
    have hst := (u_facts hfc hkC (u_lays hts hin hkq) hi).1
    obtain ⟨f1, f2⟩ := mm_fv_ok (B := h0.size) (ad := ad) hfv
    have hlay := hts _ (hin _ (u_in_lay hkq))
    unfold u_lay at hlay
    have fin : ∀ H' : Heap, H'[h0.size + x]? = some (cell.setSlot f.slot (mm_tr h0.size ad v)) → H'.size = H.size → (∀ q, q ≠ h0.size + x → H'[q]? = H[q]?) → W p l e R s m args below meth c H' (locs ++ [⟨h0.size + x, f.slot⟩]) cells slots Q (F0 m (pc + 3) ls (st'.map (mm_tr h0.size ad))) := by
      intro H' e1 e2 e3
      rw [hsf] at e1
      refine k H' _ cells slots (hrp.set h1 e2 e3 (Or.inl ⟨hlt, q, hq, by simpa using hlen, t_OB.to (V := updV (vp_V (vs.map (mm_tr h0.size ad))) a.2.1 (mm_tr h0.size ad v)) ⟨_, e1, q2, q3, t_set q4 hap hkq _⟩ (fun j _ => mm_V_set _ _ hkl v j)⟩)) (mm_locs hlo) (by simpa using hcl) ?_
      rw [mm_sz_set h1 (by simp)]
      exact hsl
    rcases hlk with ⟨hf, hlk⟩ | ⟨hf, hmn, hdecl, hlk⟩
    · rw [if_neg (by rw [hf]; decide)] at hlay
      have h6 := u_store hfc hkC hkind hlay hi (hty _ hkq) f1 f2
      rcases hlk with hlk | ⟨host, hlk⟩
      · exact W.putK hx hb (f := f) ⟨hown, hlk, ⟨_, _, _, hi⟩, hst⟩ (by rw [q2]; exact h6) q1 q3 (by rw [hsf]; exact k2_hasslot (q4 _ hkq)) rfl rfl hd fin
      · exact va_WputK hx hb (f := f) hown hlk hi hst (by rw [q2]; exact h6) q1 q3 (by rw [hsf]; exact k2_hasslot (q4 _ hkq)) rfl rfl hd fin
    · rw [if_pos hf] at hlay
      have hcf : m.cls = cf := by
        obtain ⟨_, _, c', _, _, _, -, -, hf', -, -, -, hown2, -⟩ := Cond.laysFinal_spec hlay
        have e1 : c' = cf := by have := hi.symm.trans hf'; simp at this; exact this.1.symm
        rw [hdecl] at hown2
        rw [← e1]; exact Option.some.inj (hown.symm.trans hown2)
      have h6 := u_fits hfc hkC hkind (Or.inr hlay) hi (hty _ hkq) f1 f2
      exact W.putFinK hx hb hown hlk hi hst hcf hmn (by rw [q2]; exact h6) q1 q3 (by rw [hsf]; exact k2_hasslot (q4 _ hkq)) rfl rfl hd fin
  case iaload =>
    cases mm_b1 (n := 1) hk
    rcases mm_ald_inv h with ⟨j, x, r, vs, v, rfl, h1, hj, h2, rfl, rfl⟩ | ⟨j, r, v, rfl, -, hj, h2, rfl, rfl⟩
    · have hc := mm_ar_of (hrp.2.2 x _ h1) (by decide)
      have hlt : j.toNatClampNeg < vs.length := (List.getElem?_eq_some_iff.mp h2).1
      exact W.iald hx hb hc ((hE.2.1 1000 _ mm_at_i).1 _ _) (fun q => by cases q) (by rw [arrV_size]; exact fun q => q.elim (mm_nn hj) (fun z => absurd hlt (by omega))) (by rw [arrV_read _ _ hlt, mm_V_at h2]) rfl rfl hd (k H locs cells slots hrp hlo hcl hsl)
    · obtain ⟨hb1, scr, g1, g2, g3, g4, g5⟩ := hE.2.2
      have hlt : j.toNatClampNeg < X.length := (List.getElem?_eq_some_iff.mp h2).1
      exact W.iald hx hb (by rw [hrp.2.1 _ hb1]; exact g1) g2 g3 (by rw [g4]; exact fun q => q.elim (mm_nn hj) (fun z => absurd hlt (by omega))) (g5 _ _ h2) rfl rfl hd (k H locs cells slots hrp hlo hcl hsl)
  case caload =>
    cases mm_b1 (n := 1) hk
    rcases mm_ald_inv h with ⟨j, x, r, vs, v, rfl, h1, hj, h2, rfl, rfl⟩ | ⟨j, r, v, rfl, h9, hj, h2, rfl, rfl⟩
    · have hc := mm_ar_of (hrp.2.2 x _ h1) (by decide)
      have hlt : j.toNatClampNeg < vs.length := (List.getElem?_eq_some_iff.mp h2).1
      exact W.cald hx hb hc ((hE.2.1 1001 _ mm_at_c).1 _ _) (fun q => by cases q) (by rw [arrV_size]; exact fun q => q.elim (mm_nn hj) (fun z => absurd hlt (by omega))) (by rw [arrV_read _ _ hlt, mm_V_at h2]) rfl rfl hd (k H locs cells slots hrp hlo hcl hsl)
    · exact absurd h9 (by decide)
  case baload =>
    cases mm_b1 (n := 1) hk
    rcases mm_ald_inv h with ⟨j, x, r, vs, v, rfl, h1, hj, h2, rfl, rfl⟩ | ⟨j, r, v, rfl, h9, hj, h2, rfl, rfl⟩
    · have hc := mm_ar_of (hrp.2.2 x _ h1) (by decide)
      have hlt : j.toNatClampNeg < vs.length := (List.getElem?_eq_some_iff.mp h2).1
      exact W.zald hx hb hc ((hE.2.1 1002 _ mm_at_z).1 _ _) (fun q => by cases q) (by rw [arrV_size]; exact fun q => q.elim (mm_nn hj) (fun z => absurd hlt (by omega))) (by rw [arrV_read _ _ hlt, mm_V_at h2]) rfl rfl hd (k H locs cells slots hrp hlo hcl hsl)
    · exact absurd h9 (by decide)
  case laload =>
    cases mm_b1 (n := 1) hk
    rcases mm_ald_inv h with ⟨j, x, r, vs, v, rfl, h1, hj, h2, rfl, rfl⟩ | ⟨j, r, v, rfl, h9, hj, h2, rfl, rfl⟩
    · have hc := mm_ar_of (hrp.2.2 x _ h1) (by decide)
      have hlt : j.toNatClampNeg < vs.length := (List.getElem?_eq_some_iff.mp h2).1
      exact W.lald hx hb hc ((hE.2.1 1004 _ mm_at_l).1 _ _) (fun q => by cases q) (by rw [arrV_size]; exact fun q => q.elim (mm_nn hj) (fun z => absurd hlt (by omega))) (by rw [arrV_read _ _ hlt, mm_V_at h2]) rfl rfl hd (k H locs cells slots hrp hlo hcl hsl)
    · exact absurd h9 (by decide)
  case lastore =>
    cases mm_b1 (n := 1) hk
    obtain ⟨y, j, x, r, vs, rfl, h1, hj, hlt, rfl, rfl⟩ := mm_las_inv h
    have hc := mm_ar_of (hrp.2.2 x _ h1) (by decide)
    refine W.last hx hb hc ((hE.2.1 1004 _ mm_at_l).1 _ _) (fun q => by cases q) (by rw [arrV_size]; exact fun q => q.elim (mm_nn hj) (fun z => absurd hlt (by omega))) rfl rfl hd fun H' e1 e2 e3 => ?_
    refine k H' _ cells slots (hrp.set h1 e2 e3 (Or.inr ⟨Nat.le_of_ble_eq_true rfl, ?_⟩)) (mm_locs hlo) (by simpa using hcl) (by rw [mm_sz_set h1 (by simp)]; exact hsl)
    rw [e1]
    exact congrArg some (mm_arr_set hlt (.long y))
  case aaload =>
    cases mm_b1 (n := 1) hk
    obtain ⟨j, x, r, t, vs, v, rfl, h1, ht, hq, hj, h2, rfl, rfl⟩ := mm_aal_inv h
    obtain ⟨C, hC⟩ := mm_isq_of hq
    have hc := mm_ar_of (hrp.2.2 x _ h1) ht
    have hlt : j.toNatClampNeg < vs.length := (List.getElem?_eq_some_iff.mp h2).1
    exact W.aald (ty := .object C) hx hb hc ((hE.2.1 t _ hC).1 _ _) rfl (fun q => by cases q) (by rw [arrV_size]; exact fun q => q.elim (mm_nn hj) (fun z => absurd hlt (by omega))) (by rw [arrV_read _ _ hlt, mm_V_at h2]) rfl rfl hd (k H locs cells slots hrp hlo hcl hsl)
  case iastore =>
    cases mm_b1 (n := 1) hk
    obtain ⟨y, j, x, r, vs, rfl, h1, hj, hlt, hfv, rfl, rfl⟩ := mm_ast_inv h
    have hc := mm_ar_of (hrp.2.2 x _ h1) (by decide)
    refine W.iast hx hb hc ((hE.2.1 1000 _ mm_at_i).1 _ _) (fun q => by cases q) (by rw [arrV_size]; exact fun q => q.elim (mm_nn hj) (fun z => absurd hlt (by omega))) rfl rfl hd fun H' e1 e2 e3 => ?_
    refine k H' _ cells slots (hrp.set h1 e2 e3 (Or.inr ⟨Nat.le_of_ble_eq_true rfl, ?_⟩)) (mm_locs hlo) (by simpa using hcl) (by rw [mm_sz_set h1 (by simp)]; exact hsl)
    rw [e1]
    exact congrArg some (mm_arr_set hlt (.int y))
  case castore =>
    cases mm_b1 (n := 1) hk
    obtain ⟨y, j, x, r, vs, rfl, h1, hj, hlt, hfv, rfl, rfl⟩ := mm_ast_inv h
    have hc := mm_ar_of (hrp.2.2 x _ h1) (by decide)
    refine W.cast hx hb hc ((hE.2.1 1001 _ mm_at_c).1 _ _) (fun q => by cases q) (by rw [arrV_size]; exact fun q => q.elim (mm_nn hj) (fun z => absurd hlt (by omega))) rfl rfl hd fun H' e1 e2 e3 => ?_
    refine k H' _ cells slots (hrp.set h1 e2 e3 (Or.inr ⟨Nat.le_of_ble_eq_true rfl, ?_⟩)) (mm_locs hlo) (by simpa using hcl) (by rw [mm_sz_set h1 (by simp)]; exact hsl)
    rw [e1, show narrow .char (.int y) = .int y from (mm_fv_ok (B := h0.size) (ad := ad) hfv).1]
    exact congrArg some (mm_arr_set hlt (.int y))
  case bastore =>
    cases mm_b1 (n := 1) hk
    obtain ⟨y, j, x, r, vs, rfl, h1, hj, hlt, hfv, rfl, rfl⟩ := mm_ast_inv h
    have hc := mm_ar_of (hrp.2.2 x _ h1) (by decide)
    refine W.zast hx hb hc ((hE.2.1 1002 _ mm_at_z).1 _ _) (fun q => by cases q) (by rw [arrV_size]; exact fun q => q.elim (mm_nn hj) (fun z => absurd hlt (by omega))) rfl rfl hd fun H' e1 e2 e3 => ?_
    refine k H' _ cells slots (hrp.set h1 e2 e3 (Or.inr ⟨Nat.le_of_ble_eq_true rfl, ?_⟩)) (mm_locs hlo) (by simpa using hcl) (by rw [mm_sz_set h1 (by simp)]; exact hsl)
    rw [e1, show narrow .boolean (.int y) = .int y from (mm_fv_ok (B := h0.size) (ad := ad) hfv).1]
    exact congrArg some (mm_arr_set hlt (.int y))
  case aastore =>
    cases mm_b1 (n := 1) hk
    rcases mm_aas_inv h with ⟨j, x, r, t, vs, rfl, h1, ht, hq, hj, hlt, rfl, rfl⟩ | ⟨y, j, x, r, vs, ci, ws, rfl, h1, h2, hci, hq, hj, hlt, rfl, rfl⟩
    · obtain ⟨C, hC⟩ := mm_isq_of hq
      have hc := mm_ar_of (hrp.2.2 x _ h1) ht
      refine va_WaastN (C := C) hx hb hc ((hE.2.1 t _ hC).1 _ _) (fun q => by cases q) (by rw [arrV_size]; exact fun q => q.elim (mm_nn hj) (fun z => absurd hlt (by omega))) rfl rfl hd fun H' e1 e2 e3 => ?_
      refine k H' _ cells slots (hrp.set h1 e2 e3 (Or.inr ⟨ht, ?_⟩)) (mm_locs hlo) (by simpa using hcl) (by rw [mm_sz_set h1 (by simp)]; exact hsl)
      rw [e1]
      exact congrArg some (mm_arr_set hlt .null)
    · obtain ⟨C, hC⟩ := mm_isq_of hq
      have hc := mm_ar_of (hrp.2.2 x _ h1) (by omega)
      rcases hrp.2.2 y _ h2 with ⟨-, q, hqc, -, cellV, g1, g2, g3, -⟩ | ⟨hbad, -⟩
      · obtain rfl : C = q.1 := mm_at_cl hqc hC
        obtain ⟨kA, comp, k1, k2, k3, -⟩ := (hE.2.1 _ _ hC).2.1
        have hcls := (hE.1.1 _ _ hqc).2
        have hcomp : comp = D.1 ci := Option.some.inj (k3.symm.trans hcls.1)
        subst hcomp
        obtain ⟨kC, hkC, -⟩ := hcls.2
        refine W.aast hx hb hc (fun q h => by cases h) (fun h => by cases h) k1 k2 rfl hkC ⟨mm_nn hj, by rw [arrV_size]; exact hlt⟩ g1 (fun q h => by rw [g3] at h; cases h) (by rw [g2]; exact hkC) (by rw [g2]; exact va_assign hcls) rfl rfl hd fun H' e1 e2 e3 => ?_
        refine k H' _ cells slots (hrp.set h1 e2 e3 (Or.inr ⟨by show 1000 ≤ 2000 + ci; omega, ?_⟩)) (mm_locs hlo) (by simpa using hcl) (by rw [mm_sz_set h1 (by simp)]; exact hsl)
        rw [e1]
        exact congrArg some (mm_arr_set hlt (.ref y))
      · exact absurd (show 1000 ≤ ci from hbad) (by omega)
  case arraylength =>
    cases mm_b1 (n := 1) hk
    rcases mm_len_inv h with ⟨x, r, t, vs, rfl, h1, ht, ⟨ty, hty⟩, rfl, rfl⟩ | ⟨r, rfl, rfl, rfl⟩
    · have hc := mm_ar_of (hrp.2.2 x _ h1) ht
      exact W.alen (n := Int32.ofNat vs.length) hx hb hc ((hE.2.1 t _ hty).1 _ _) (by rw [arrV_size]) rfl rfl hd (k H locs cells slots hrp hlo hcl hsl)
    · obtain ⟨hb1, scr, g1, g2, g3, g4, g5⟩ := hE.2.2
      exact W.alen (n := Int32.ofNat X.length) hx hb (by rw [hrp.2.1 _ hb1]; exact g1) g2 (by rw [g4]) rfl rfl hd (k H locs cells slots hrp hlo hcl hsl)
  case new idx =>
    cases mm_b1 (n := 3) hk
    cases h
    obtain ⟨q, hq, hlk⟩ := hh
    obtain ⟨hin, hty, hnm, hins, hini⟩ := hTK _ _ hq
    obtain ⟨d1, d2⟩ := mm_df_of (B := h0.size) (ad := ad) hq
    have hKn := hE.1.1 _ _ hq
    have hlt : a.1 < 1000 := Nat.lt_of_lt_of_le (List.getElem?_eq_some_iff.mp hq).1 mm_cl_lt
    rw [List.length_append] at hR1
    rw [mm_sz_push] at hR2
    simp only [List.length_singleton] at hR1
    dsimp only at hR2
    refine W.newcK hx hb hown hlk (hts _ hins) (hts _ hini) rfl hd (by omega) (by omega) hKn.2.1 hrp.1 fun H' kC hkC e1 z1 o1 => ?_
    rw [← hrp.1] at e1 z1 o1
    refine k H' locs (cells + 1) (slots + q.2.2) (hrp.push z1 o1 (Or.inl ⟨hlt, q, hq, d1, (u_born (mm_ft a.1) hts hin hKn hkC e1 hty).to d2⟩)) hlo (by rw [List.length_append]; simp; omega) (by rw [mm_sz_push]; dsimp only; omega)
  case newarray ty =>
    cases mm_b1 (n := 2) hk
    obtain ⟨n, r, rfl, hn, hn2, rfl, rfl⟩ := mm_nwa_inv h
    obtain ⟨hty, harr⟩ := hh
    rw [List.length_append] at hR1
    rw [mm_sz_push] at hR2
    simp only [List.length_singleton] at hR1
    simp only [List.length_replicate] at hR2
    have key : ∀ (ty0 : FieldType), newarray.typeOf ty = ty0 → componentBytes ty0 ≤ 8 → defaultValue ty0 = (bif a.1 == 1004 then .long 0 else .int 0) → mm_tr h0.size ad (bif a.1 == 1004 then .long 0 else .int 0) = (bif a.1 == 1004 then .long 0 else .int 0) → 1000 ≤ a.1 → (∀ cA, s.vm.findClass ("[" ++ ty0.toString) = some cA → cA = dA a.1) → W p l e R s m args below meth c H locs cells slots Q (F0 m pc ls ((Value.int n :: r).map (mm_tr h0.size ad))) := by
      intro ty0 e0 hcb hdf htr ha hcA
      subst e0
      refine va_newaK hx hb harr rfl hd rfl (mm_nn hn) rfl (Nat.le_trans (Nat.mul_le_mul hn2 hcb) (by decide)) (by omega) (by omega) hrp.1 fun H' cA e1 z1 o1 _ hnm => ?_
      rw [← hrp.1] at e1 z1 o1
      obtain rfl := hcA cA hnm
      refine k H' locs (cells + 1) (slots + n.toNatClampNeg) (hrp.push z1 o1 (Or.inr ⟨ha, ?_⟩)) hlo (by rw [List.length_append]; simp; omega) (by rw [mm_sz_push]; simp only [List.length_replicate]; omega)
      rw [e1, hdf]
      exact congrArg some (mm_rep_V htr).symm
    rcases hty with ⟨rfl, ha⟩ | ⟨rfl, ha⟩ | ⟨rfl, ha⟩ | ⟨rfl, ha⟩
    · exact key .int rfl (by decide) (by rw [ha]; rfl) (by rw [ha]; rfl) (by omega) (fun cA hc => Option.some.inj (hc.symm.trans (ha ▸ (hE.2.1 1000 _ mm_at_i).2.1)))
    · exact key .char rfl (by decide) (by rw [ha]; rfl) (by rw [ha]; rfl) (by omega) (fun cA hc => Option.some.inj (hc.symm.trans (ha ▸ (hE.2.1 1001 _ mm_at_c).2.1)))
    · exact key .boolean rfl (by decide) (by rw [ha]; rfl) (by rw [ha]; rfl) (by omega) (fun cA hc => Option.some.inj (hc.symm.trans (ha ▸ (hE.2.1 1002 _ mm_at_z).2.1)))
    · exact key .long rfl (by decide) (by rw [ha]; rfl) (by rw [ha]; rfl) (by omega) (fun cA hc => Option.some.inj (hc.symm.trans (ha ▸ (hE.2.1 1004 _ mm_at_l).2.1)))
  case anewarray idx =>
    cases mm_b1 (n := 3) hk
    obtain ⟨n, r, rfl, hn, hn2, rfl, rfl⟩ := mm_nwa_inv h
    obtain ⟨ha, C, hC, hlk⟩ := hh
    have hov := va_AO.use (A := args) ((hE.2.1 _ _ hC).2.2 C rfl)
    rw [List.length_append] at hR1
    rw [mm_sz_push] at hR2
    simp only [List.length_singleton] at hR1
    simp only [List.length_replicate] at hR2
    refine W.anew hx hb hown hlk hov rfl hd rfl (mm_nn hn) (by omega) (by omega) (by omega) fun cA kA comp f1 f2 f3 f4 => ?_
    obtain ⟨_, _, _, _, _, g5⟩ := (hE.2.1 _ _ hC).2.1
    obtain rfl : cA = dA a.1 := Option.some.inj (f1.symm.trans g5)
    have z1 : (H.push ({ cls := dA a.1, slots := Array.replicate n.toNatClampNeg .null, vm := .none } : Cell)).size = H.size + 1 := Array.size_push _
    have e1 : (H.push ({ cls := dA a.1, slots := Array.replicate n.toNatClampNeg .null, vm := .none } : Cell))[H.size]? = some (arrV (dA a.1) n.toNatClampNeg (fun _ => .null)) := by rw [Array.getElem?_push_size, ← arrV_new]
    have o1 : ∀ q : Nat, q < H.size → (H.push ({ cls := dA a.1, slots := Array.replicate n.toNatClampNeg .null, vm := .none } : Cell))[q]? = H[q]? := fun q hq => by rw [Array.getElem?_push, if_neg (Nat.ne_of_lt hq)]
    have kk := k _ locs (cells + 1) (slots + n.toNatClampNeg) (hrp.push (c := (a.1, List.replicate n.toNatClampNeg .null)) z1 o1 (Or.inr ⟨ha, by rw [e1]; exact congrArg some (mm_rep_V rfl).symm⟩)) hlo (by rw [List.length_append]; simp; omega) (by rw [mm_sz_push]; simp only [List.length_replicate]; omega)
    rw [hrp.1]
    exact kk
  all_goals exact nomatch (show (none : Option (List Value × mm_H)) = some _ from h)
end MMH
