/-! THE CLASS NESTS RESULTS -/
theorem cT_nil {S : Nat → Prop} {hp : mm_H} {r : Nat} (h : hp[r]? = some (2, [.null, .null, .int 3, .int 0, .int 0, .int 1, .int 2])) : cT S hp (mt_mk []) r :=
  (cT_list (mt_isL_mk [])).mpr ⟨0, .null, by rw [h]; rfl, Or.inl ⟨rfl, by rw [mt_els_mk]⟩⟩
theorem mt_ok_mk {xs : List mT} : mt_ok (mt_mk xs) ↔ xs.length ≤ 8 ∧ ∀ x ∈ xs, mt_ok x ∧ mt_dp x < 3 := by
  unfold mt_ok
  rw [mt_dp_le (mt_isL_mk xs), mt_wd_list (mt_isL_mk xs), mt_els_mk]
  constructor
  · rintro ⟨a, b, c⟩
    exact ⟨b, fun x hx => ⟨⟨by have := a x hx; omega, c x hx⟩, by have := a x hx; omega⟩⟩
  · rintro ⟨b, c⟩
    exact ⟨fun x hx => by have := (c x hx).2; omega, b, fun x hx => (c x hx).1.2⟩
def aPr : List Nat → Nat
  | [] => 1
  | n :: l => n * aPr l
def aNs (rs : Nat → mT) : List Nat → Nat → mT
  | [], o => rs o
  | n :: lv, o => mt_mk ((List.range n).map (fun i => aNs rs lv (o + i * aPr lv)))
def aMl : List Nat → Nat
  | [] => 0
  | n :: l => if n = 0 then 0 else 1 + n * aMl l
def cH (c w : Nat) (hp hp' : mm_H) : Prop := hp'.length ≤ hp.length + c ∧ mm_sz hp' ≤ mm_sz hp + w
theorem cH.rf {hp : mm_H} : cH 0 0 hp hp := ⟨Nat.le_refl _, Nat.le_refl _⟩
theorem cH.tr {a b c w : Nat} {x y z : mm_H} (h : cH a b x y) (k : cH c w y z) : cH (a + c) (b + w) x z := ⟨by have := h.1; have := k.1; omega, by have := h.2; have := k.2; omega⟩
theorem cH.mono {a b c w : Nat} {x y : mm_H} (h : cH a b x y) (h1 : a ≤ c) (h2 : b ≤ w) : cH c w x y := ⟨by have := h.1; omega, by have := h.2; omega⟩
theorem cG.h {a : Nat} {x y : mm_H} (h : cG a x y) : cH a (26 * a) x y := h
def pvL (s n : Nat) (jc oc nj tk ph : Int32) (out : Value) : List Value := [.int (nI s), .ref (57 + 5 * s), .ref (58 + 5 * s), .ref (59 + 5 * s), .ref (60 + 5 * s), .int (nI n), .int jc, .int oc, .int nj, .int tk, .int ph, out]
theorem cPv.put {hp : mm_H} {s : Nat} {lv : List Nat} {jc oc nj tk ph : Int32} {out : Value} (h : cPv hp s lv jc oc nj tk ph out) (jc' oc' nj' tk' ph' : Int32) (out' : Value) : cPv (hp.set (56 + 5 * s) (5, pvL s lv.length jc' oc' nj' tk' ph' out')) s lv jc' oc' nj' tk' ph' out' ∧ cE (fun x => x = 56 + 5 * s) hp (hp.set (56 + 5 * s) (5, pvL s lv.length jc' oc' nj' tk' ph' out')) ∧ cG 0 hp (hp.set (56 + 5 * s) (5, pvL s lv.length jc' oc' nj' tk' ph' out')) := by
  obtain ⟨ls, a, b, c, e⟩ := h
  have l0 := (List.getElem?_eq_some_iff.mp a).1
  refine ⟨⟨ls, ?_, ?_, c, e⟩, cE.set rfl, ?_, ?_⟩
  · rw [List.getElem?_set_self l0]; rfl
  · rw [List.getElem?_set_ne (by omega)]; exact b
  · rw [List.length_set]; omega
  · rw [mm_sz_set (c' := (5, pvL s lv.length jc' oc' nj' tk' ph' out')) a rfl]; omega
theorem nV_pv1 {hp : mm_H} {s : Nat} {lv : List Nat} {jc oc nj tk ph : Int32} {out : Value} (h : cPv hp s lv jc oc nj tk ph out) : ∀ x, x < hp.length → x = 56 + 5 * s → nV hp x := fun x hx e => h.nV x hx (Or.inl e)
theorem cO.keepT {S W : Nat → Prop} {hp hp' : mm_H} {r m : Nat} {xs : List mT} (h : cO S hp r xs m) (E : cE W hp hp') (hr : ¬ W r) (hr1 : ¬ W (r + 1)) (hW : ∀ x, x < hp.length → W x → nV hp x) : cO S hp' r xs m := by
  obtain ⟨n, items, h1, h2, h3, h4, h5⟩ := h
  refine ⟨n, items, E.at h1 hr, E.at h2 hr1, h3, h4, fun j hj => ?_⟩
  obtain ⟨q, a, b, c⟩ := h5 j hj
  exact ⟨q, a, b, c.keepT E hW⟩
section CNE
variable {X : List Int32} {d : Nat} {hp : mm_H} {Q : Option Value → mm_H → Prop} {s : Nat} {lv : List Nat} {jc oc nj ph : Int32} {out : Value} {rl : List Value}
theorem k95 {tk : Nat} {v : Value} (P : cPv hp s lv jc oc nj (nI tk) ph out) (R : cRs hp s rl) (h : tk < 16) (hv : rl[tk]? = some v) (hn : mw_nr v) (H : ∀ hp', cE (fun x => x = 56 + 5 * s) hp hp' → cG 0 hp hp' → cPv hp' s lv jc oc nj (nI (tk + 1)) ph out → Q (some v) hp') : mm_R X (d + 1) 95 0 (mm_L0 95 [.ref (56 + 5 * s)]) [] hp Q := by
  obtain ⟨P', E, G⟩ := P.put jc oc nj (nI (tk + 1)) ph out
  obtain ⟨ls, a, b, c, e⟩ := id P
  obtain ⟨ls', a', b', c', e'⟩ := id P'
  have R' := E.at R.1 (by omega)
  refine w95_0 ⟨_, _, _, rfl, a, rfl, pk_lt tk 0 (fun g => absurd g (by omega)) (fun _ => ⟨_, _, _, rfl, a, rfl, pk_lt tk 16 (fun _ => ⟨_, _, _, rfl, a, rfl, _, _, rfl, a, Nat.le_of_ble_eq_true rfl, rfl, ?_⟩) (fun g => absurd h (by omega))⟩)⟩
  dsimp only
  rw [nI_1]
  show mw_gv 5 2 (.ref (56 + 5 * s)) (hp.set (56 + 5 * s) (5, pvL s lv.length jc oc nj (nI (tk + 1)) ph out)) _
  refine ⟨_, _, _, rfl, a', rfl, _, _, _, rfl, a', rfl, _, _, _, v, rfl, R', by omega, rfl, ?_⟩
  rw [show (1 : Int32) = nI 1 from rfl, pk_sub (by omega), show tk + 1 - 1 = tk by omega, nI_clamp (by omega)]
  exact ⟨nI_pos' (by omega), hv, hn, H _ E G P'⟩
theorem k9g {n : Nat} (h0 : 0 < n) (hn : n ≤ 16) (H : ∀ q, q = hp.length → Q (some (.ref q)) (hp ++ [(2, [.null, .ref (q + 1), .int 3, .int 0, .int 0, .int 1, .int 2]), (2002, List.replicate (min n 8) .null)])) : mm_R X (d + 2) 9 0 (mm_L0 9 [.int (nI n)]) [] hp Q := by
  by_cases h8 : n ≤ 8
  · rw [Nat.min_eq_left h8] at H
    exact k9 h0 h8 H
  · rw [Nat.min_eq_right (by omega)] at H
    refine w9_0 ?_
    rintro q hp2 rfl rfl
    have e1 : (if (8 : Int32) < nI n then (8 : Int32) else nI n) = nI 8 := if_pos (show nI 8 < nI n from nI_lt (by omega) (by omega))
    have e2 : (if (0 : Int32) < nI 8 then nI 8 else 0) = nI 8 := rfl
    rw [e1, e2]
    refine k3l rfl (by omega) (by omega) ⟨rfl, ⟨hp.length, _, rfl, c2_app0⟩, ?_⟩
    refine k10 c2_app0 ⟨rfl, ?_⟩
    rw [List.set_append_right _ _ (Nat.le_refl _)]
    simp only [Nat.sub_self, List.set_cons_zero]
    exact H hp.length rfl
theorem k94 (hs : s < 6) {S0 : Nat → Prop} {L : Nat} (hS0 : ∀ x, S0 x → x < L) {LV : List Nat} {rs : Nat → mT} (h4 : LV.length ≤ 4) (h16 : ∀ n ∈ LV, n ≤ 16) (hdp : ∀ i, mt_dp (rs i) ≤ 3) : ∀ (lv pre : List Nat) (tk : Nat) (hp : mm_H) (Q : Option Value → mm_H → Prop), LV = pre ++ lv → cPv hp s LV jc oc nj (nI tk) ph out → cRs hp s rl → (∀ i, tk ≤ i → i < tk + aPr lv → mt_ok (rs i) ∧ ∃ q : Nat, rl[i]? = some (.ref q) ∧ S0 q ∧ cT S0 hp (rs i) q) → tk + aPr lv ≤ 16 → S0 (60 + 5 * s) → cT S0 hp (mt_mk []) (60 + 5 * s) → L ≤ hp.length →
    (mt_ok (aNs rs lv tk) → ∀ hp' (q : Nat), cE (fun x => x = 56 + 5 * s) hp hp' → cH (2 * aMl lv) (15 * aMl lv) hp hp' → cPv hp' s LV jc oc nj (nI (tk + aPr lv)) ph out → cT (fun x => S0 x ∨ hp.length ≤ x) hp' (aNs rs lv tk) q → S0 q ∨ hp.length ≤ q → Q (some (.ref q)) hp') →
    (¬ mt_ok (aNs rs lv tk) → ∀ hp' tk', cE (fun x => x = 56 + 5 * s) hp hp' → cH (2 * aMl lv) (15 * aMl lv) hp hp' → cPv hp' s LV jc oc nj tk' ph out → Q (some .null) hp') →
    mm_R X (d + lv.length + 3) 94 0 (mm_L0 94 [.ref (56 + 5 * s), .int (nI pre.length)]) [] hp Q := by
  intro lv
  induction lv with
  | nil =>
    intro pre tk hp Q eL P R RS h16' e0 e1 hL H1 H0
    rw [List.append_nil] at eL
    subst eL
    obtain ⟨ls, a, b, c, e⟩ := id P
    have h16'' : tk + 1 ≤ 16 := h16'
    obtain ⟨ok, q, g1, g2, g3⟩ := RS tk (Nat.le_refl _) (show tk < tk + 1 by omega)
    refine w94_0 ⟨_, _, _, rfl, a, rfl, ⟨fun _ => ⟨⟨_, _, rfl, a⟩, k95 (d := d + 1) P R (by omega) g1 (Or.inr ⟨_, rfl⟩) (fun hp' E G P' => ?_)⟩, fun g => absurd (Int32.le_refl _) g⟩⟩
    exact ⟨_, rfl, Or.inr ⟨_, rfl⟩, H1 ok hp' q E G P' ((g3.keepT E (nV_pv1 P)).mono (fun x _ h => Or.inl h)) (Or.inl g2)⟩
  | cons n lv ih =>
    intro pre tk hp Q eL P R RS h16' e0 e1 hL H1 H0
    obtain ⟨ls, a, b, c, e⟩ := id P
    have hlen : LV.length = pre.length + (lv.length + 1) := by rw [eL]; simp
    have hn16 : n ≤ 16 := h16 n (by rw [eL]; simp)
    have eat : ∀ ls' : List Value, (LV.map mI ++ ls')[pre.length]? = some (.int (nI n)) := fun ls' => by
      rw [List.getElem?_append_left (by rw [List.length_map]; omega), List.getElem?_map, eL, List.getElem?_append_right (Nat.le_refl _), Nat.sub_self]; rfl
    have ai : ∀ (ls' : List Value) (hp' : mm_H) (K : Int32 → Prop), hp'[59 + 5 * s]? = some (1000, LV.map mI ++ ls') → K (nI n) → mw_ai 1000 (.ref (59 + 5 * s)) (nI pre.length) hp' K := fun ls' hp' K hx hK => ⟨_, _, _, rfl, hx, nI_pos' (by omega), by rw [nI_clamp (by omega)]; exact eat ls', hK⟩
    have eP : aPr (n :: lv) = n * aPr lv := rfl
    have eM : aMl (n :: lv) = if n = 0 then 0 else 1 + n * aMl lv := rfl
    have eN : aNs rs (n :: lv) tk = mt_mk ((List.range n).map (fun i => aNs rs lv (tk + i * aPr lv))) := rfl
    rw [eP] at h16' RS H1
    rw [eM] at H1 H0
    rw [eN] at H1 H0
    refine w94_0 ⟨_, _, _, rfl, a, rfl, pk_le LV.length pre.length (fun g => absurd g (by omega)) (fun _ => pk_lt pre.length 4 (fun _ => ?_) (fun g => absurd g (by omega)))⟩
    refine ⟨_, _, _, rfl, a, rfl, ai ls hp _ b (pk_ne n 0 (fun hn0 => ?_) (fun hn0 => ?_))⟩
    · subst hn0
      refine ⟨_, _, _, rfl, a, rfl, Or.inr ⟨_, rfl⟩, H1 (mt_ok_mk.mpr ⟨by simp, fun x hx => by simp at hx⟩) hp _ cE.rf cH.rf ?_ ?_ (Or.inl e0)⟩
      · rw [Nat.zero_mul]; exact P
      · exact e1.mono (fun x _ h => Or.inl h)
    · rw [if_neg hn0] at H1 H0
      refine ⟨_, _, _, rfl, a, rfl, ai ls hp _ b (k9g (d := d + lv.length + 1) (by omega) hn16 ?_)⟩
      rintro r rfl
      have E0 : ∀ W : Nat → Prop, cE W hp (hp ++ [((2 : Nat), [Value.null, .ref (hp.length + 1), .int 3, .int 0, .int 0, .int 1, .int 2]), ((2002 : Nat), List.replicate (min n 8) Value.null)]) := fun W => cE.app
      have G0 : cH 2 15 hp (hp ++ [((2 : Nat), [Value.null, .ref (hp.length + 1), .int 3, .int 0, .int 0, .int 1, .int 2]), ((2002 : Nat), List.replicate (min n 8) Value.null)]) := by
        refine ⟨by simp, ?_⟩
        rw [show ∀ a b : mm_C, hp ++ [a, b] = (hp ++ [a]) ++ [b] from fun a b => by simp, mm_sz_push, mm_sz_push, List.length_replicate]
        simp only [List.length_cons, List.length_nil]
        omega
      have O0 : cO (fun x => S0 x ∨ hp.length + 2 ≤ x) (hp ++ [((2 : Nat), [Value.null, .ref (hp.length + 1), .int 3, .int 0, .int 0, .int 1, .int 2]), ((2002 : Nat), List.replicate (min n 8) Value.null)]) hp.length [] (min n 8) := ⟨0, _, c2_app0, c2_app1, List.length_replicate, by omega, fun j h => absurd h (Nat.not_lt_zero _)⟩
      refine ⟨_, rfl, rfl, ?_⟩
      have loop : ∀ (m i : Nat) (hp2 : mm_H) (xs : List mT), i + m = n → cE (fun x => x = 56 + 5 * s) hp hp2 → cH (2 + 2 * (i * aMl lv)) (15 + 15 * (i * aMl lv)) hp hp2 → cPv hp2 s LV jc oc nj (nI (tk + i * aPr lv)) ph out → cO (fun x => S0 x ∨ hp.length + 2 ≤ x) hp2 hp.length xs (min n 8) → xs = (List.range i).map (fun i => aNs rs lv (tk + i * aPr lv)) → (∀ x ∈ xs, mt_ok x ∧ mt_dp x < 3) → hp.length + 2 ≤ hp2.length → mm_R X (d + (n :: lv).length + 3) 94 44 [some (.ref (56 + 5 * s)), some (.int (nI pre.length)), some (.ref hp.length), some (.int (nI i))] [] hp2 Q := by
        intro m
        induction m with
        | zero =>
          intro i hp2 xs him E2 G2 P2 O2 ex hx hl2
          have : i = n := by omega
          subst this
          obtain ⟨ls2, a2, b2, c2, e2⟩ := id P2
          have ox := O2.le
          have hxl : xs.length = i := by rw [ex]; simp
          refine w94_44 ⟨_, _, _, rfl, a2, rfl, ai ls2 hp2 _ b2 ⟨fun _ => ⟨rfl, Or.inr ⟨_, rfl⟩, ?_⟩, fun g => absurd (Int32.le_refl _) g⟩⟩
          refine H1 ?_ hp2 hp.length E2 (G2.mono (by omega) (by omega)) P2 ?_ (Or.inr (Nat.le_refl _))
          · rw [← ex]; exact mt_ok_mk.mpr ⟨by omega, hx⟩
          · rw [← ex]; exact O2.t.mono (fun x _ h => h.imp id (fun g => by omega))
        | succ m ihm =>
          intro i hp2 xs him E2 G2 P2 O2 ex hx hl2
          obtain ⟨ls2, a2, b2, c2, e2⟩ := id P2
          have hxl : xs.length = i := by rw [ex]; simp
          have hle : i * aPr lv + aPr lv ≤ n * aPr lv := by
            rw [← Nat.succ_mul]; exact Nat.mul_le_mul_right _ (by omega)
          have hlm : i * aMl lv + aMl lv ≤ n * aMl lv := by
            rw [← Nat.succ_mul]; exact Nat.mul_le_mul_right _ (by omega)
          have hmem : aNs rs lv (tk + i * aPr lv) ∈ (List.range n).map (fun i => aNs rs lv (tk + i * aPr lv)) := List.mem_map.mpr ⟨i, List.mem_range.mpr (by omega), rfl⟩
          have nv : ∀ x, x < hp.length → x = 56 + 5 * s → nV hp x := (nV_pv1 P)
          obtain ⟨no, io, z1, z2, _⟩ := id O2
          refine w94_44 ⟨_, _, _, rfl, a2, rfl, ai ls2 hp2 _ b2 (pk_le n i (fun g => absurd g (by omega)) (fun _ => ⟨rfl, ⟨_, _, rfl, a2⟩, ?_⟩))⟩
          rw [nI_1, show pre.length + 1 = (pre ++ [n]).length by simp]
          refine ih (pre ++ [n]) (tk + i * aPr lv) hp2 _ (by rw [eL]; simp) P2 ⟨E2.at R.1 (by omega), R.2⟩ ?_ (by omega) e0 (e1.keepT E2 nv) (by omega) ?_ ?_
          · intro j hj1 hj2
            obtain ⟨ok, q, g1, g2, g3⟩ := RS j (by omega) (by omega)
            exact ⟨ok, q, g1, g2, g3.keepT E2 nv⟩
          · intro ok hp3 q E3 G3 P3 T3 hq
            have O3 : cO (fun x => S0 x ∨ hp.length + 2 ≤ x) hp3 hp.length xs (min n 8) := O2.keepT E3 (tag_ne z1 a2 (by simp)) (tag_ne z2 a2 (by simp)) (nV_pv1 P2)
            obtain ⟨no3, io3, y1, y2, _⟩ := id O3
            have E23 := E2.tr E3
            have G23 := G2.tr G3
            have hd3 : mt_dp (aNs rs lv (tk + i * aPr lv)) ≤ 3 := ok.1
            refine ⟨_, rfl, ⟨_, _, rfl, y1⟩, rfl, k32 (d := d + lv.length + 2) O3 (T3.mono (fun x _ h => h.imp id (fun g => by omega))) (hq.imp id (fun g => by omega)) (fun h => h.elim (fun h => by have := hS0 _ h; omega) (fun h => by omega)) (by omega) (by have := mt_dp_mk3 (xs := xs) (fun x hx' => by have := (hx x hx').2; omega); omega) ?_ ?_⟩
            · intro g1 g2 hp4 E4 G4 O4
              refine ⟨_, rfl, fun _ => ?_, fun g => absurd g (by decide)⟩
              rw [nI_1]
              have E4' : cE (fun x => x = 56 + 5 * s) hp hp4 := E23.tr2 E4 (fun x hx h => by omega)
              have P4 := P3.keep E4 (by have := tag_ne a2 z1 (by simp); have := tag_ne a2 z2 (by simp); omega) (by have := tag_ne b2 z1 (by simp); have := tag_ne b2 z2 (by simp); omega)
              refine ihm (i + 1) hp4 _ (by omega) E4' ((G23.tr G4.h).mono (by rw [Nat.add_mul, Nat.one_mul]; omega) (by rw [Nat.add_mul, Nat.one_mul]; omega)) ?_ O4 ?_ ?_ (by have := E4.1; have := E3.1; omega)
              · rw [Nat.succ_mul, ← Nat.add_assoc]; exact P4
              · rw [List.range_succ, List.map_append, ← ex]; rfl
              · intro x hx'
                rcases List.mem_append.mp hx' with hx' | hx'
                · exact hx x hx'
                · rw [List.mem_singleton.mp hx']; exact ⟨ok, g2⟩
            · intro hno _
              refine ⟨_, rfl, fun g => absurd rfl g, fun _ => H0 ?_ hp3 _ E23 (G23.mono (by omega) (by omega)) P3⟩
              intro hok
              obtain ⟨u1, u2⟩ := mt_ok_mk.mp hok
              refine hno ⟨?_, (u2 _ hmem).2⟩
              rw [List.length_map, List.length_range] at u1
              omega
          · intro nok hp3 tk3 E3 G3 P3
            have O3 : cO (fun x => S0 x ∨ hp.length + 2 ≤ x) hp3 hp.length xs (min n 8) := O2.keepT E3 (tag_ne z1 a2 (by simp)) (tag_ne z2 a2 (by simp)) (nV_pv1 P2)
            obtain ⟨no3, io3, y1, y2, _⟩ := id O3
            refine ⟨_, rfl, ⟨_, _, rfl, y1⟩, rfl, k32n O3 ⟨_, rfl, fun g => absurd rfl g, fun _ => H0 ?_ hp3 _ (E2.tr E3) ((G2.tr G3).mono (by omega) (by omega)) P3⟩⟩
            intro hok
            exact nok ((mt_ok_mk.mp hok).2 _ hmem).1
      exact loop n 0 _ [] (by omega) (E0 _) (G0.mono (by omega) (by omega)) (by rw [Nat.zero_mul]; exact P.keep (E0 mN1) id id) O0 rfl (fun x hx => nomatch hx) (by simp)
end CNE
