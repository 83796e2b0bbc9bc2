/-! THE REFERENCE PUTS FORMS: trees -/
theorem pk_ne {x y : Int32} {A B : Prop} (a b : Nat) (f : a = b → A) (g : a ≠ b → B) (hx : x = nI a := by rfl) (hy : y = nI b := by rfl) (ha : a < 2 ^ 31 := by omega) (hb : b < 2 ^ 31 := by omega) : (¬ x = y → B) ∧ (x = y → A) := (pk_eq a b f g hx hy ha hb).symm
theorem mt_jn_two : ∀ {l m : List (List Nat)}, l ≠ [] → m ≠ [] → mt_jn (l ++ m) = mt_jn l ++ 44 :: mt_jn m
  | [], m, h, _ => absurd rfl h
  | [a], [], _, h => absurd rfl h
  | [a], b :: m, _, _ => rfl
  | a :: b :: l, m, _, h => by
    show a ++ 44 :: mt_jn ((b :: l) ++ m) = (a ++ 44 :: mt_jn (b :: l)) ++ _
    rw [mt_jn_two (l := b :: l) (by simp) h]
    simp
theorem mt_jn_mid (zs ys : List (List Nat)) (y : List Nat) : ∃ tl, mt_jn (zs ++ y :: ys) = mt_jn zs ++ ((if zs = [] then [] else [44]) ++ (y ++ tl)) := by
  cases ys with
  | nil => exact ⟨[], by rw [mt_jn_snoc]; simp⟩
  | cons a ys =>
    refine ⟨44 :: mt_jn (a :: ys), ?_⟩
    rw [show zs ++ y :: a :: ys = (zs ++ [y]) ++ (a :: ys) by simp, mt_jn_two (by simp) (by simp), mt_jn_snoc]
    simp
theorem mt_rok_tk : ∀ (t : mT) (l : Nat), mt_al t → ∀ u ∈ mt_tk t l, mt_rok u := by
  intro t
  induction t using mt_ind with
  | hs s =>
    intro l h u hu
    rw [mt_tk_leaf, List.mem_singleton] at hu
    subst hu
    rcases s with _ | n | s
    · exact ⟨fun h => absurd (show (0 : Nat) = 1 from h) (by decide), fun c hc => nomatch hc⟩
    · exact ⟨fun _ => h, fun c hc => nomatch hc⟩
    · exact ⟨fun h => absurd (show (2 : Nat) = 1 from h) (by decide), fun c hc => Nat.lt_of_le_of_lt (h.2 c hc).2.1 (by decide)⟩
  | hl t ht ih =>
    intro l h u hu
    rw [mt_tk_list ht] at hu
    rcases List.mem_cons.mp hu with rfl | hu
    · exact ⟨fun h => absurd (show (3 : Nat) = 1 from h) (by decide), fun c hc => nomatch hc⟩
    · simp only [mt_tks, List.mem_flatten, List.mem_map] at hu
      obtain ⟨_, ⟨x, hx, rfl⟩, hu⟩ := hu
      exact ih x hx (l + 1) ((mt_al_list ht).mp h x hx) u hu
theorem mt_dp_el {t x : mT} (ht : mt_isL t = true) (hx : x ∈ mt_els t) : mt_dp x + 1 ≤ mt_dp t := by
  have h5 : 1 ≤ mt_dp t := by rw [mt_dp_list ht]; omega
  have h4 := (mt_dp_le ht (n := mt_dp t - 1)).mp (by omega) x hx
  omega
theorem mt_ro_st (s : mSc) (l : Nat) : mt_ro (mt_st s l) = mt_sf s := by
  rcases s with _ | n | s <;> rfl
section FT
variable {X : List Int32} {d : Nat} {Q : Option Value → mS → Prop} {P : List Nat → mS → Prop} {A B : Nat → Prop} {s : Nat} {ts : List mTk}
theorem t185_x (hP : oP X P A) (hAB : ∀ p, B p → ¬ A p) {r0 : Nat} {u0 : mTk} (h0 : ts[r0]? = some u0) {sp : Nat} {TG : List Nat} (hTG : TG.length + 1000 < 2 ^ 30) {i2 : Int32} (hsp : sp ≤ ts.length) :
    ∀ (x : mT) (l : Nat) (pre rest : List mTk) (c : Nat) (b : Bool) (w v : List Nat) (σ : mS), ts = pre ++ (mt_tk x l ++ rest) → r0 ≤ pre.length → pre.length + (mt_tk x l).length ≤ sp → mt_al x → l + mt_dp x ≤ 100 → u0.2.1 ≤ l → c ≤ 200 →
    (b = true ↔ r0 < pre.length ∧ ∀ v, ts[pre.length - 1]? = some v → ¬ (v.1 = 3 ∧ v.2.1 < l)) →
    TG = w ++ (List.replicate c 93 ++ ((if b then [44] else []) ++ (mt_fm x ++ v))) → mSlot σ B s ts → P w σ →
    (∀ o p σ', mt_fm x = o ++ List.replicate p 93 → p ≤ mt_dp x → oK A σ σ' → P (w ++ (List.replicate c 93 ++ ((if b then [44] else []) ++ o))) σ' → mM X (d + 4) 185 17 [some (.ref 86), some (.int (nI (mb s + r0))), some (.int i2), some (.int (nI (mb s + sp))), some (.int (nI (l + p))), some (.int (nI (mb s + (pre.length + (mt_tk x l).length))))] [] σ' Q) →
    (∀ σ', oK A σ σ' → P TG σ' → Q none σ') →
    mM X (d + 4) 185 17 [some (.ref 86), some (.int (nI (mb s + r0))), some (.int i2), some (.int (nI (mb s + sp))), some (.int (nI (l + c))), some (.int (nI (mb s + pre.length)))] [] σ Q := by
  intro x
  induction x using mt_ind with
  | hs sc =>
    intro l pre rest c b w v σ et hr hs' hal hdp hl hc hb hT S h HN HF
    have hlt := S.lt
    have hu : ts[pre.length]? = some (mt_st sc l) := by rw [et, mt_tk_leaf]; simp
    have hwl := pre_le hT
    rw [mt_tk_leaf] at hs' HN
    simp only [List.length_cons, List.length_nil] at hs' HN
    have hkk : (mt_st sc l).1 ≠ 3 := by rcases sc with _ | n | s <;> simp [mt_st, mt_k]
    refine u185_17 (pk_le (mb s + sp) (mb s + pre.length) (fun g => absurd g (by omega)) (fun _ => ⟨fun h43 => ?_, fun h43 => ?_⟩))
    · rw [show l + c = u0.2.1 + (l - u0.2.1 + c) by omega]
      have : P TG σ := by rw [hT]; exact hP.2.1 w _ σ h h43
      exact t185_dead hP hAB h0 _ σ (by omega) S this h43 HF
    · refine t185_row hP hAB hu (mt_rok_tk (.leaf sc) l hal _ (by rw [mt_tk_leaf]; exact List.mem_singleton.mpr rfl)) hr hb c w σ (by show l + c < _; omega) ?_ S h (fun σ1 K1 h1 => ?_)
      · have : TG.length = w.length + (c + ((if b then [44] else []) ++ (mt_fm (.leaf sc) ++ v)).length) := by rw [hT]; simp
        omega
      · rw [mt_ro_st] at h1
        have := HN (mt_sf sc) 0 σ1 (by rw [mt_fm_leaf]; simp) (by omega) K1 h1
        rw [if_neg hkk]; exact this
  | hl x hx ih =>
    intro l pre rest c b w v σ et hr hs' hal hdp hl hc hb hT S h HN HF
    have hlt := S.lt
    have ek := mt_tk_list hx l
    have hu : ts[pre.length]? = some (3, l, 0, []) := by rw [et, ek]; simp
    have hwl := pre_le hT
    have hcl : TG.length = w.length + (c + ((if b then [44] else []) ++ (mt_fm x ++ v)).length) := by rw [hT]; simp
    have hpos := mt_tk_pos x l
    refine u185_17 (pk_le (mb s + sp) (mb s + pre.length) (fun g => absurd g (by omega)) (fun _ => ⟨fun h43 => ?_, fun h43 => ?_⟩))
    · rw [show l + c = u0.2.1 + (l - u0.2.1 + c) by omega]
      have : P TG σ := by rw [hT]; exact hP.2.1 w _ σ h h43
      exact t185_dead hP hAB h0 _ σ (by omega) S this h43 HF
    · refine t185_row hP hAB hu (mt_rok_tk x l hal _ (by rw [ek]; exact List.mem_cons_self)) hr hb c w σ (by show l + c < _; omega) (by omega) S h (fun σ1 K1 h1 => ?_)
      have S1 := K1.slot S hAB
      have ero : mt_ro (3, l, 0, []) = [91] := rfl
      rw [ero] at h1
      -- the elements
      have kids : ∀ (ys zs : List mT) (E : List Nat) (p : Nat) (σ2 : mS), mt_els x = zs ++ ys → mt_jn (zs.map mt_fm) = E ++ List.replicate p 93 → p + 1 ≤ mt_dp x → (zs = [] → p = 0) → oK A σ σ2 → P (w ++ (List.replicate c 93 ++ ((if b then [44] else []) ++ (91 :: E)))) σ2 → mM X (d + 4) 185 17 [some (.ref 86), some (.int (nI (mb s + r0))), some (.int i2), some (.int (nI (mb s + sp))), some (.int (nI (l + 1 + p))), some (.int (nI (mb s + (pre.length + 1 + (mt_tks zs (l + 1)).length))))] [] σ2 Q := by
        intro ys
        induction ys with
        | nil =>
          intro zs E p σ2 ez ej hpd hz0 K2 h2
          rw [List.append_nil] at ez
          have := HN (91 :: E) (p + 1) σ2 ?_ hpd K2 h2
          · rw [ek, ez, List.length_cons] at this
            rw [show l + 1 + p = l + (p + 1) by omega, show pre.length + 1 + (mt_tks zs (l + 1)).length = pre.length + ((mt_tks zs (l + 1)).length + 1) by omega]; exact this
          · rw [mt_fm_list hx, ez, ej, rep_app p 1]; simp
        | cons y ys ihy =>
          intro zs E p σ2 ez ej hpd hz0 K2 h2
          have hym : y ∈ mt_els x := by rw [ez]; simp
          have hyd := mt_dp_el hx hym
          obtain ⟨tl, etl⟩ := mt_jn_mid (zs.map mt_fm) (ys.map mt_fm) (mt_fm y)
          have ef : mt_fm x = 91 :: (E ++ (List.replicate p 93 ++ ((if zs.isEmpty = false then [44] else []) ++ (mt_fm y ++ (tl ++ [93]))))) := by
            rw [mt_fm_list hx, ez, List.map_append, List.map_cons, etl, ej]
            cases zs <;> simp
          have epre : ts = (pre ++ ((3, l, 0, []) :: mt_tks zs (l + 1))) ++ (mt_tk y (l + 1) ++ (mt_tks ys (l + 1) ++ rest)) := by
            rw [et, ek, ez, mt_tks_app, mt_tks_cons]; simp
          have elen : (pre ++ ((3, l, (0 : Int32), ([] : List Nat)) :: mt_tks zs (l + 1))).length = pre.length + 1 + (mt_tks zs (l + 1)).length := by
            simp; omega
          have hlen2 : (mt_tk x l).length = 1 + (mt_tks zs (l + 1)).length + ((mt_tk y (l + 1)).length + (mt_tks ys (l + 1)).length) := by
            rw [ek, ez, mt_tks_app, mt_tks_cons]; simp; omega
          have := ih y hym (l + 1) (pre ++ ((3, l, 0, []) :: mt_tks zs (l + 1))) (mt_tks ys (l + 1) ++ rest) p (!zs.isEmpty) (w ++ (List.replicate c 93 ++ ((if b then [44] else []) ++ (91 :: E)))) (tl ++ ([93] ++ v)) σ2 epre (by rw [elen]; omega) (by rw [elen]; omega) ((mt_al_list hx).mp hal y hym) (by omega) (by omega) (by omega) ?_ ?_ (K2.slot S hAB) h2 ?_ (fun σ3 K3 h3 => HF σ3 (K2.tr K3) h3)
          · rw [elen] at this; exact this
          · rw [elen]
            cases zs with
            | nil =>
              rw [mt_tks_nil]
              simp only [List.isEmpty_nil, Bool.not_true, Bool.false_eq_true, List.length_nil, false_iff]
              rintro ⟨_, g⟩
              refine g (3, l, 0, []) ?_ ⟨rfl, Nat.lt_succ_self l⟩
              rw [show pre.length + 1 + 0 - 1 = pre.length by omega]; exact hu
            | cons z zs =>
              simp only [List.isEmpty_cons, Bool.not_false, true_iff]
              refine ⟨by omega, fun v' hv' => ?_⟩
              have hzl : 1 ≤ (mt_tks (z :: zs) (l + 1)).length := by
                rw [mt_tks_cons, List.length_append]
                have := mt_tk_pos z (l + 1)
                omega
              have hmem : v' ∈ mt_tks (z :: zs) (l + 1) := by
                rw [epre, List.getElem?_append_left (by rw [elen]; omega), List.getElem?_append_right (by omega)] at hv'
                rw [show pre.length + 1 + (mt_tks (z :: zs) (l + 1)).length - 1 - pre.length = ((mt_tks (z :: zs) (l + 1)).length - 1) + 1 by omega, List.getElem?_cons_succ] at hv'
                exact List.mem_of_getElem? hv'
              have := mt_tks_deep (z :: zs) (l + 1) v' hmem
              omega
          · rw [hT, ef]
            cases zs <;> simp
          · intro o q σ3 eo hq K3 h3
            have hd3 : mt_jn ((zs ++ [y]).map mt_fm) = (E ++ (List.replicate p 93 ++ ((if zs.isEmpty = false then [44] else []) ++ o))) ++ List.replicate q 93 := by
              rw [List.map_append, List.map_cons, List.map_nil, mt_jn_snoc, ej, eo]
              cases zs <;> simp
            have := ihy (zs ++ [y]) (E ++ (List.replicate p 93 ++ ((if zs.isEmpty = false then [44] else []) ++ o))) q σ3 (by rw [ez]; simp) hd3 (by omega) (fun g => absurd g (by simp)) (K2.tr K3) ?_
            · rw [mt_tks_app, mt_tks_one, List.length_append] at this
              rw [elen, show pre.length + 1 + (mt_tks zs (l + 1)).length + (mt_tk y (l + 1)).length = pre.length + 1 + ((mt_tks zs (l + 1)).length + (mt_tk y (l + 1)).length) by omega]
              exact this
            · cases zs <;> simpa using h3
      have hd1 : 1 ≤ mt_dp x := by rw [mt_dp_list hx]; omega
      have := kids (mt_els x) [] [] 0 σ1 rfl rfl (by omega) (fun _ => rfl) K1 h1
      rw [mt_tks_nil] at this
      exact this
/-- putForm -/
theorem t185 (hP : oP X P A) (hAB : ∀ p, B p → ¬ A p) {pre rest : List mTk} {t : mT} {l i e : Nat} {w : List Nat} {σ : mS} (S : mSlot σ B s ts) (et : ts = pre ++ (mt_tk t l ++ rest)) (hc : mt_cl l rest) (hi : i = mb s + pre.length) (he : e = mb s + ts.length) (hal : mt_al t) (hdp : l + mt_dp t ≤ 100) (hw : w.length + (mt_fm t).length + 1000 < 2 ^ 30) (h : P w σ) (H : ∀ σ', oK A σ σ' → P (w ++ mt_fm t) σ' → Q none σ') : mM X (d + 4) 185 0 (mm_L0 185 [.ref 86, .int (nI i), .int (nI e)]) [] σ Q := by
  have hlt := S.lt
  obtain ⟨u, us, eu, _, el, _⟩ := mt_tk_ne t l
  have hu : ts[pre.length]? = some u := by rw [et, eu]; simp
  have hts : ts.length = pre.length + ((mt_tk t l).length + rest.length) := by rw [et]; simp
  refine u185_0 (t147 S et hc hi he ⟨_, rfl, ?_⟩)
  subst hi
  refine t145 S hu ⟨_, rfl, ?_⟩
  rw [el]
  have := t185_x (X := X) (d := d) (Q := Q) hP hAB hu (sp := pre.length + (mt_tk t l).length) (TG := w ++ mt_fm t) (by simp; omega) (i2 := nI e) (by omega) t l pre rest 0 false w [] σ et (Nat.le_refl _) (Nat.le_refl _) hal hdp (by omega) (by omega) ?_ (by simp) S h ?_ (fun σ' K h' => H σ' K h')
  · exact this
  · simp
  · intro o p σ1 eo hp K1 h1
    refine u185_17 ⟨fun _ => ?_, fun g => absurd (Int32.le_refl _) g⟩
    have := t185_217 (X := X) (d := d + 1) (Q := Q) hP hAB hu (i2 := nI e) (i3 := nI (mb s + (pre.length + (mt_tk t l).length))) (i5 := nI (mb s + (pre.length + (mt_tk t l).length))) p (w ++ o) σ1 (by omega) ?_ (K1.slot S hAB) (by simpa using h1) (fun σ2 K2 h2 => H σ2 (K1.tr K2) ?_)
    · rw [el] at this; exact this
    · have := congrArg List.length eo
      simp at this
      simp; omega
    · rw [eo]; simpa using h2
/-- putPlain -/
theorem t182 (hP : oP X P A) (hAB : ∀ p, B p → ¬ A p) {pre rest : List mTk} {t : mT} {l i e : Nat} {w : List Nat} {σ : mS} (S : mSlot σ B s ts) (et : ts = pre ++ (mt_tk t l ++ rest)) (hc : mt_cl l rest) (hi : i = mb s + pre.length) (he : e = mb s + ts.length) (hal : mt_al t) (hdp : l + mt_dp t ≤ 100) (hw : w.length + (mt_fm t).length + 1000 < 2 ^ 30) (h : P w σ) (H : ∀ σ', oK A σ σ' → P (w ++ mt_pl t) σ' → Q none σ') : mM X (d + 5) 182 0 (mm_L0 182 [.ref 86, .int (nI i), .int (nI e)]) [] σ Q := by
  obtain ⟨u, us, eu, ek, el, en, ex⟩ := mt_tk_ne t l
  have hu : ts[pre.length]? = some u := by rw [et, eu]; simp
  obtain ⟨hr, R⟩ := S.at hu
  have hk4 := R.1
  have hn64 := R.2.2.1
  subst hi
  refine u182_0 (t144 S hu ⟨_, rfl, pk_ne u.1 2 (fun e2 => ?_) (fun e2 => ?_)⟩)
  · obtain ⟨a, wt, hta, htx⟩ := R.w
    have hk2 : mt_k t = 2 := by rw [← ek]; exact e2
    have epl : mt_pl t = u.2.2.2 := by unfold mt_pl; rw [if_pos hk2, ex]
    rw [epl] at H
    have hrok := mt_rok_tk t l hal u (by rw [eu]; exact List.mem_cons_self)
    refine s152 hr wt ⟨_, rfl, s153 hr wt ⟨_, rfl, ?_⟩⟩
    exact t183 hP (txt := u.2.2.2) rfl hta hrok.2 (fun i hi => hAB _ (htx i hi).1) (by omega) (fun q hq => (htx q hq).2) h (fun σ1 K1 h1 => ⟨rfl, H σ1 K1 h1⟩)
  · have epl : mt_fm t = mt_pl t := mt_pl0 (fun g => e2 (by rw [ek]; exact g))
    rw [← epl] at H
    exact t185 hP hAB S et hc rfl he hal hdp hw h (fun σ1 K1 h1 => ⟨rfl, H σ1 K1 h1⟩)
end FT
