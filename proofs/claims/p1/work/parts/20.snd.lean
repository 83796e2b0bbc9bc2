section MMS
variable {p : Program} {l : Launch} {e : Env} {R : Room} {s : State} {m : MethodId} {args : Array Value} {below : List Frame} {meth : Method} {c : Code} {H : Heap} {locs : List Loc} {cells slots : Nat} {Q : State → Prop}
theorem mm_call {mc ms pc : Nat} {ls : Array Slot} {st0 rest : List Value} {Qa : State → Outcome → State → Prop} {free : Addr → Prop} (hr : va_Run p l e R s m args below meth c H locs cells slots mc ms (F0 m pc ls st0) rest Qa free)
    (kk : ∀ (v : Option Value) (st₀ t : State) (L : List Loc), (∀ q ∈ L, free q.base) → Qa st₀ (.returned v) t → W p l e R s m args below meth c t.heap (locs ++ L) (cells + mc) (slots + ms) Q (F0 m (pc + 3) ls (v.toList ++ rest))) : W p l e R s m args below meth c H locs cells slots Q (F0 m pc ls st0) := by
  intro T hT X
  obtain ⟨v, st₀, t, T', L, h0, X', hL, e1, e2, hq, st⟩ := hr T hT X
  obtain ⟨t2, a1, b1⟩ := kk v st₀ t L hL hq T' e1 X'
  exact ⟨t2, st t2 a1, b1⟩
end MMS
theorem mm_good_ws {k : Nat} (hc : Cond.code (mm_y k) (mm_by k) (mm_ml k) (mm_rt k) ∈ mm_gd) : GoodIn mm_gd (mm_ws k) := by
  intro w hw
  rcases List.mem_cons.mp hw with rfl | hw
  · exact ⟨hc, mm_gd_good _ hc⟩
  · exact ⟨hw, mm_gd_good _ hw⟩
theorem mm_hk_of {D : va_G} {dA : Nat → ClassId} {h0 : Heap} {ad : Nat → Nat} {X : List Int32} {s : State} {args : Array Value} {mi : Nat} {mn : String} {i : Instr} {a : mm_A} (hmn : (mm_y mi).name = "<init>" → mn = "<init>") (hts : ∀ w ∈ mm_gd, w.before args s = true) (hE : mm_Es D dA h0 ad X s) (h : mm_stk mi i a) : mm_hk (mm_y mi).cls args s mn i a := by
  have nst : ∀ w ∈ mm_nw, w.before args s = true := fun w hw => va_Nw.use (mm_nw_tab hw) (hE.2.1 w hw)
  cases i
  case getfield idx =>
    obtain ⟨q, h1, h2, h3 | ⟨host, h3⟩⟩ := h
    · exact ⟨q, h1, h2, Or.inl (hts _ h3)⟩
    · exact ⟨q, h1, h2, Or.inr ⟨host, nst _ h3⟩⟩
  case putfield idx =>
    obtain ⟨q, h1, h2, ⟨h3, h4 | ⟨host, h4⟩⟩ | ⟨h3, h4, h5, h6⟩⟩ := h
    · exact ⟨q, h1, h2, Or.inl ⟨h3, Or.inl (hts _ h4)⟩⟩
    · exact ⟨q, h1, h2, Or.inl ⟨h3, Or.inr ⟨host, nst _ h4⟩⟩⟩
    · exact ⟨q, h1, h2, Or.inr ⟨h3, hmn h4, h5, hts _ h6⟩⟩
  case new idx =>
    obtain ⟨q, h1, h2⟩ := h
    exact ⟨q, h1, hts _ h2⟩
  case newarray ty =>
    exact ⟨h.1, hts _ h.2⟩
  case anewarray idx =>
    obtain ⟨h1, C, h2, h3⟩ := h
    exact ⟨h1, C, h2, hts _ h3⟩
  all_goals exact trivial
theorem mm_tkN : ∀ ci, ci < 11 → ∀ q, mm_cl[ci]? = some q → (u_ws q.1 q.2.1 q.2.2).all (fun w => decide (w ∈ lw_tbl) && goodWord w) = true ∧ (∀ k, k < q.2.2 → parseFieldDescriptor (q.2.1 k).2.2.1 = some (mm_ft ci k)) ∧ (∀ a, a < q.2.2 → ∀ b, b < q.2.2 → a ≠ b → (q.2.1 a).2.1 ≠ (q.2.1 b).2.1) ∧ Cond.instantiable q.1 q.2.2 ∈ lw_tbl ∧ Cond.initialized q.1 ∈ lw_tbl := by
  intro ci hci q hq
  match ci, hci, hq with
  | 0, _, hq => cases hq; exact ⟨by decide +kernel, by decide +kernel, by decide +kernel, by decide +kernel, by decide +kernel⟩
  | 1, _, hq => cases hq; exact ⟨by decide +kernel, by decide +kernel, by decide +kernel, by decide +kernel, by decide +kernel⟩
  | 2, _, hq => cases hq; exact ⟨by decide +kernel, by decide +kernel, by decide +kernel, by decide +kernel, by decide +kernel⟩
  | 3, _, hq => cases hq; exact ⟨by decide +kernel, by decide +kernel, by decide +kernel, by decide +kernel, by decide +kernel⟩
  | 4, _, hq => cases hq; exact ⟨by decide +kernel, by decide +kernel, by decide +kernel, by decide +kernel, by decide +kernel⟩
  | 5, _, hq => cases hq; exact ⟨by decide +kernel, by decide +kernel, by decide +kernel, by decide +kernel, by decide +kernel⟩
  | 6, _, hq => cases hq; exact ⟨by decide +kernel, by decide +kernel, by decide +kernel, by decide +kernel, by decide +kernel⟩
  | 7, _, hq => cases hq; exact ⟨by decide +kernel, by decide +kernel, by decide +kernel, by decide +kernel, by decide +kernel⟩
  | 8, _, hq => cases hq; exact ⟨by decide +kernel, by decide +kernel, by decide +kernel, by decide +kernel, by decide +kernel⟩
  | 9, _, hq => cases hq; exact ⟨by decide +kernel, by decide +kernel, by decide +kernel, by decide +kernel, by decide +kernel⟩
  | 10, _, hq => cases hq; exact ⟨by decide +kernel, by decide +kernel, by decide +kernel, by decide +kernel, by decide +kernel⟩
theorem mm_tk : mm_TK mm_gd := by
  intro ci q hq
  obtain ⟨h1, h2, h3, h4, h5⟩ := mm_tkN ci (List.getElem?_eq_some_iff.mp hq).1 q hq
  refine ⟨fun w hw => ?_, h2, h3, List.mem_filter.mpr ⟨h4, rfl⟩, List.mem_filter.mpr ⟨h5, rfl⟩⟩
  have h6 := List.all_eq_true.mp h1 w hw
  simp only [Bool.and_eq_true, decide_eq_true_eq] at h6
  exact List.mem_filter.mpr ⟨h6.1, h6.2⟩
set_option maxHeartbeats 8000000 in
theorem mm_snd {l : Launch} {D : va_G} {dA : Nat → ClassId} {h0 : Heap} {ad : Nat → Nat} {X : List Int32} : ∀ n, mm_Snd l D dA h0 ad X n := by
  intro n
  induction n with
  | zero => intro d mi pc L st hp hp' r h; cases h
  | succ n ih =>
    intro d mi pc L st hp hp' r h p e R s m args below meth c H locs cells slots Q ls n0 s0 C hrp hlr hls hlo hcl hsl hR1 hR2 hret
    obtain ⟨hx, hb, hml, hown, hts, hE, hmn, hfr, hlc⟩ := id C
    obtain ⟨i, len, a, hco, h⟩ := mm_ev_inv h
    obtain ⟨hd, hpk, hstk⟩ := mm_tab hco
    rcases h with ⟨f, h1, h2⟩ | ⟨g, h1, h2⟩ | ⟨d', q, v, rfl, hiv, hsp, ha, hpm, h2⟩ | ⟨d', q, z, rfl, hiv, hsp, ha, hrc, hln, h1, h2⟩ | ⟨h1, h2⟩
    · obtain ⟨pc', L', st'⟩ := f
      have hsz : L'.length = L.length := mm_ps_len h1
      refine mm_ps_W hx hb hown hd hpk hlr ?_ ?_ ?_ h1 (fun ls' hlr' => ih d mi pc' L' st' hp hp' r h2 p e R s m args below meth c H locs cells slots Q ls' n0 s0 C hrp hlr' (by rw [hlr'.1, hsz, ← hlr.1]; exact hls) hlo hcl hsl hR1 hR2 hret)
      · rintro idx rfl
        exact hts _ hstk
      · rintro idx rfl
        exact hts _ hstk
      · rintro idx rfl
        obtain ⟨g1, g2⟩ := hstk
        exact ⟨fun q => hts _ (g1 q), fun q => mm_Sx.ref hE.2.2 (g2 q)⟩
    · obtain ⟨st', hp1⟩ := g
      obtain ⟨m1, m2⟩ := mm_ev_mono _ _ _ _ _ _ _ _ _ h2
      exact mm_hs_W hx hb hown hts mm_tk hE.1 hd hpk (mm_hk_of hmn hts hE hstk) hrp hlo hcl hsl h1 (by dsimp only at m1; omega) (by dsimp only at m2; omega) (fun H' locs' cells' slots' hrp' hlo' hcl' hsl' => ih d mi (pc + len) L st' hp1 hp' r h2 p e R s m args below meth c H' locs' cells' slots' Q ls n0 s0 C hrp' hlr hls hlo' hcl' hsl' hR1 hR2 hret)
    · obtain ⟨e1, e2, e3, e4⟩ := mm_sp_inv hsp
      obtain ⟨m1, m2⟩ := mm_ev_mono _ _ _ _ _ _ _ _ _ h2
      exact mm_pm_W (d := d') hx hb hml hown hts hE hd hpk hiv hstk ha e1 e3 hpm hls hrp (by omega) (by omega) hfr hlc (ih (d' + 1) mi (pc + len) L _ hp hp' r h2 p e R s m args below meth c H locs cells slots Q ls n0 s0 C hrp hlr hls hlo hcl hsl hR1 hR2 hret)
    · obtain ⟨z1, hp1⟩ := z
      obtain ⟨e1, e2, e3, e4⟩ := mm_sp_inv hsp
      obtain ⟨m1, m2⟩ := mm_ev_mono _ _ _ _ _ _ _ _ _ h1
      obtain ⟨m3, m4⟩ := mm_ev_mono _ _ _ _ _ _ _ _ _ h2
      dsimp only at m3 m4
      have S : CallFix p m c (mm_by mi) (mm_ml mi) s args mm_gd (mm_y mi).cls := ⟨hx, hb, hml, hown, hts⟩
      have nst : ∀ w ∈ mm_nw, va_Nw w s := hE.2.1
      have hpre : ∀ U : State, U.heap = H → s.WarmedH U.vm → mm_Pc D dA h0 ad X q.1 hp (q.1.map (mm_tr h0.size ad)).toArray U := fun U hU hW => ⟨rfl, by rw [hU]; exact hrp, hE.warm hW⟩
      have hroom : (((q.2.map (mm_tr h0.size ad)).map fun v => v.category).sum) ≤ 8 := by rw [mm_cats]; exact e3
      have go : ∀ (mk : va_Run p l e R s m args below meth c H locs cells slots (hp1.length - hp.length) (mm_sz hp1 - mm_sz hp) (F0 m pc ls (st.map (mm_tr h0.size ad))) (q.2.map (mm_tr h0.size ad)) (mm_Qc D dA h0 ad z1 hp1 (q.1.map (mm_tr h0.size ad)).toArray) (fun q => h0.size ≤ q)), len = 3 → W p l e R s m args below meth c H locs cells slots Q (F0 m pc ls (st.map (mm_tr h0.size ad))) := by
        intro mk hlen
        subst hlen
        refine mm_call mk (fun v st₀ t L2 hL hq => ?_)
        obtain ⟨hv, hrp1⟩ := hq
        obtain rfl : v = z1.map (mm_tr h0.size ad) := Outcome.returned.inj hv
        have k := ih (d' + 1) mi (pc + 3) L (z1.toList ++ q.2) hp1 hp' r h2 p e R s m args below meth c t.heap (locs ++ L2) (cells + (hp1.length - hp.length)) (slots + (mm_sz hp1 - mm_sz hp)) Q ls n0 s0 C hrp1 hlr hls (fun x hx => (List.mem_append.mp hx).elim (hlo x) (hL x)) (by omega) (by omega) hR1 hR2 hret
        have e : (z1.toList ++ q.2).map (mm_tr h0.size ad) = (z1.map (mm_tr h0.size ad)).toList ++ q.2.map (mm_tr h0.size ad) := by
          cases z1 <;> simp
        rw [e] at k
        exact k
      have est : st.map (mm_tr h0.size ad) = (q.1.map (mm_tr h0.size ad)).reverse ++ q.2.map (mm_tr h0.size ad) := by
        rw [e1, List.map_append, List.map_reverse]
      cases i
      case invokestatic idx =>
        obtain ⟨hl, ⟨g1, g2, g3, g4, g5⟩, hna, hst⟩ := hstk.1 ha
        rw [← hna] at g4
        have hM := mm_met ih g1 h1 e4 hln
        have hnm : (q.1.map (mm_tr h0.size ad)).length = a.2.1 := by rw [List.length_map]; exact e2
        refine go ?_ (mm_b1 (n := 3) hpk)
        rcases hl with hl | ⟨host, hl⟩
        · exact va_runS S hM ⟨callB_of a.2.1 hts (mm_good_ws g2) rfl rfl rfl (hts _ g3) (hts _ hl) g4 ⟨by show d' + 1 ≤ R.frames; omega, by show 8 + (mm_ml a.1 + 11) + 64 * d' ≤ R.locals; omega⟩, hts _ hst⟩ ⟨mm_blind, hpre⟩ rfl hnm hls est (lv_room hroom) (by rw [hd, mm_b1 (n := 3) hpk]) ⟨by omega, by omega⟩
        · exact va_runSN S hM ⟨va_cnB a.2.1 hts (mm_good_ws g2) rfl rfl rfl (nst _ hl) (hts _ g3) g4 ⟨by show d' + 1 ≤ R.frames; omega, by show 8 + (mm_ml a.1 + 11) + 64 * d' ≤ R.locals; omega⟩, hts _ hst, trivial⟩ ⟨mm_blind, hpre⟩ rfl hnm hls est (lv_room hroom) (by rw [hd, mm_b1 (n := 3) hpk]) ⟨by omega, by omega⟩
      case invokespecial idx =>
        obtain ⟨hl, ⟨g1, g2, g3, g4, g5⟩, hna, hin, hnm1, hrt⟩ := hstk.1 ha
        rw [show mm_na a.1 = a.2.1 - 1 by omega] at g4
        have hM := mm_met ih g1 h1 e4 hln
        obtain ⟨x, as, hq⟩ : ∃ x as, q.1 = .ref x :: as := by
          cases hq : q.1 with
          | nil => rw [hq] at hrc; exact nomatch (show false = true from hrc)
          | cons v as =>
            rw [hq] at hrc
            cases v with
            | ref x => exact ⟨x, as, rfl⟩
            | _ => exact nomatch (show false = true from hrc)
        have hw : mm_ws a.1 = Cond.code (mm_y a.1) (mm_by a.1) (mm_ml a.1) none :: mm_gd := by rw [← hrt]; rfl
        rw [hq] at go est hpre hM e2
        have hnm : (as.map (mm_tr h0.size ad)).length = a.2.1 - 1 := by rw [List.length_map]; simp at e2; omega
        have est2 : st.map (mm_tr h0.size ad) = (as.map (mm_tr h0.size ad)).reverse ++ .ref (h0.size + x) :: q.2.map (mm_tr h0.size ad) := by
          rw [est]; simp [mm_tr]
        refine go ?_ (mm_b1 (n := 3) hpk)
        rcases hl with hl | ⟨host, hl⟩
        · exact va_runI S hM ⟨callB_of (a.2.1 - 1) hts (mm_good_ws g2) hw rfl rfl (hts _ g3) (hts _ hl) g4 ⟨by show d' + 1 ≤ R.frames; omega, by show 8 + (mm_ml a.1 + 11) + 64 * d' ≤ R.locals; omega⟩, hnm1, hts _ hin⟩ ⟨mm_blind, hpre⟩ rfl hnm hls est2 (lv_room hroom) (by rw [hd, mm_b1 (n := 3) hpk]) ⟨by omega, by omega⟩
        · exact va_runIN S hM ⟨va_cnB (a.2.1 - 1) hts (mm_good_ws g2) hw rfl rfl (nst _ hl) (hts _ g3) g4 ⟨by show d' + 1 ≤ R.frames; omega, by show 8 + (mm_ml a.1 + 11) + 64 * d' ≤ R.locals; omega⟩, hnm1, hts _ hin⟩ ⟨mm_blind, hpre⟩ rfl hnm hls est2 (lv_room hroom) (by rw [hd, mm_b1 (n := 3) hpk]) ⟨by omega, by omega⟩
      case invokevirtual idx =>
        obtain ⟨hl, ⟨g1, g2, g3, g4, g5⟩, hna, hin, hse, qc, hqc, hqn⟩ := hstk.1 ha
        rw [show mm_na a.1 = a.2.1 - 1 by omega] at g4
        have hM := mm_met ih g1 h1 e4 hln
        obtain ⟨x, as, vs, hq, hxc⟩ : ∃ x as vs, q.1 = .ref x :: as ∧ hp[x]? = some (mm_mc a.1, vs) := by
          cases hq : q.1 with
          | nil => rw [hq] at hrc; exact nomatch (show false = true from hrc)
          | cons v as =>
            rw [hq] at hrc
            cases v with
            | ref x =>
              have hrc2 : (match hp[x]? with | some c => c.1 == mm_mc a.1 | none => false) = true := hrc
              split at hrc2
              · rename_i cx hcx
                exact ⟨x, as, cx.2, rfl, by rw [hcx, ← mm_b1 hrc2]⟩
              · cases hrc2
            | _ => exact nomatch (show false = true from hrc)
        obtain ⟨-, -, cellB, q1, q2, q3, -⟩ := mm_cl_of (hrp.2.2 x _ hxc) hqc
        have hrecv : ∃ cellB : Cell, H[h0.size + x]? = some cellB ∧ cellB.vm.isStatics = false ∧ s.vm.findClass (mm_y a.1).cls = some cellB.cls := ⟨cellB, q1, by rw [q3]; rfl, by rw [q2, ← hqn]; exact (hE.1.1.1 _ _ hqc).2.1⟩
        rw [hq] at go est hpre hM e2
        have hnm : (as.map (mm_tr h0.size ad)).length = a.2.1 - 1 := by rw [List.length_map]; simp at e2; omega
        have est2 : st.map (mm_tr h0.size ad) = (as.map (mm_tr h0.size ad)).reverse ++ .ref (h0.size + x) :: q.2.map (mm_tr h0.size ad) := by
          rw [est]; simp [mm_tr]
        refine go ?_ (mm_b1 (n := 3) hpk)
        rcases hl with hl | ⟨host, hl⟩
        · exact va_runV (C := (mm_y a.1).cls) S hM ⟨callB_of (a.2.1 - 1) hts (mm_good_ws g2) rfl rfl rfl (hts _ g3) (hts _ hl) g4 ⟨by show d' + 1 ≤ R.frames; omega, by show 8 + (mm_ml a.1 + 11) + 64 * d' ≤ R.locals; omega⟩, hts _ hin, hts _ hse⟩ ⟨mm_blind, hrecv, hpre⟩ rfl hnm hls est2 (lv_room hroom) (by rw [hd, mm_b1 (n := 3) hpk]) ⟨by omega, by omega⟩
        · exact va_runVN (C := (mm_y a.1).cls) S hM ⟨va_cnB (a.2.1 - 1) hts (mm_good_ws g2) rfl rfl rfl (nst _ hl) (hts _ g3) g4 ⟨by show d' + 1 ≤ R.frames; omega, by show 8 + (mm_ml a.1 + 11) + 64 * d' ≤ R.locals; omega⟩, hts _ hin, hts _ hse⟩ ⟨mm_blind, hrecv, hpre⟩ rfl hnm hls est2 (lv_room hroom) (by rw [hd, mm_b1 (n := 3) hpk]) ⟨by omega, by omega⟩
      all_goals exact nomatch (show false = true from hiv)
    · subst h2
      refine hret H locs cells slots pc ls i st hrp hlo hcl hsl ?_ h1
      rcases mm_rv_inv h1 with ⟨_, _, rfl, _⟩ | ⟨_, _, rfl, _⟩ | ⟨rfl, _⟩
      · rw [hd, mm_b1 (n := 1) hpk]
      · rw [hd, mm_b1 (n := 1) hpk]
      · rw [hd, mm_b1 (n := 1) hpk]
