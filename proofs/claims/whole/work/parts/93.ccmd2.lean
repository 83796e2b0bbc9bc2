/-! THE CLASS'S JOBS: a port's words, the command -/
def aTi (sy i : Nat) (ys : List mT) : List (Option Nat) := if ys = [] then [] else (if i = 0 then none else if sy = 2 then none else some 44) :: aJt sy ys
theorem aTi_cons (sy i : Nat) (x : mT) (ys : List mT) : aTi sy i (x :: ys) = ((if i = 0 then none else if sy = 2 then none else some 44) :: (mt_pl x).map some) ++ aTi sy (i + 1) ys := by
  unfold aTi
  rw [if_neg (by simp)]
  cases ys with
  | nil => simp [aJt]
  | cons y ys => simp [aJt]
theorem aEm_sn : ∀ (ts : List (Option Nat)) (ws ws' : List (List Nat)), (∃ vs w, ws = vs ++ [w]) → aEm ws ts = some ws' → ∃ vs w, ws' = vs ++ [w]
  | [], ws, ws', h, e => by cases e; exact h
  | t :: ts, ws, ws', h, e => by
    have e' : (aE1 ws t).bind (fun ws' => aEm ws' ts) = some ws' := e
    rw [Option.bind_eq_some_iff] at e'
    obtain ⟨w1, h1, h2⟩ := e'
    exact aEm_sn ts w1 ws' (aE1_sn h1) h2
section CD
variable {X : List Int32} {d : Nat} {hp : mm_H} {Q : Option Value → mm_H → Prop}
theorem k88_l {j s n q pf sy : Nat} {t : mT} (hg : mt_gd t) (hL : mt_isL t = true) (hsy : sy ≤ 4) (hsy2 : 2 ≤ sy) : ∀ (ys zs : List mT) (ws : List (List Nat)) (hp : mm_H) (o8 o9 : Option Value), mt_els t = zs ++ ys → cT cS hp t q → cJw hp j s n ws → (zs ≠ [] → ∃ vs w, ws = vs ++ [w]) →
    (∀ ws', aEm ws (aTi sy zs.length ys) = some ws' → ∀ hp', cE (wJ j) hp hp' → cG 0 hp hp' → cJw hp' j s n ws' → Q (some (.int 1)) hp') →
    (aEm ws (aTi sy zs.length ys) = none → ∀ hp' ws', cE (wJ j) hp hp' → cG 0 hp hp' → cJw hp' j s n ws' → Q (some (.int 0)) hp') →
    mm_R X (d + 3) 88 83 [some (.ref j), some (.int (nI pf)), some (.int (nI sy)), some (.ref q), some (.int 1), some (.int 0), some (.int (nI (mt_els t).length)), some (.int (nI zs.length)), o8, o9] [] hp Q := by
  obtain ⟨g1, g2, g3⟩ := (mt_gl_list hL).mp hg
  intro ys
  induction ys with
  | nil =>
    intro zs ws hp o8 o9 ez T J hw H1 H0
    have el : (mt_els t).length = zs.length := by rw [ez]; simp
    exact w88_83 (pk_le (mt_els t).length zs.length (fun _ => H1 ws rfl hp cE.rf cG.rf J) (fun g => absurd g (by omega)))
  | cons x ys ih =>
    intro zs ws hp o8 o9 ez T J hw H1 H0
    have el : (mt_els t).length = zs.length + (ys.length + 1) := by rw [ez]; simp
    have hxm : x ∈ mt_els t := by rw [ez]; simp
    have hex : (mt_els t)[zs.length]'(by omega) = x := by simp [ez]
    rw [aTi_cons, aEm_app] at H1 H0
    refine k88_83 (ta := 1) (jo := 0) (hd := [if zs.length = 0 then none else if sy = 2 then none else some 44]) hg (mt_gd_el hg hxm).1 T J (by omega) (by omega) hsy ?_ (Or.inr ⟨rfl, by omega, hex⟩) ?_ ?_
    · by_cases h0 : zs.length = 0
      · exact Or.inl ⟨h0, rfl, by rw [if_pos h0]⟩
      · have hne : zs ≠ [] := fun g => h0 (by rw [g]; rfl)
        by_cases h2 : sy = 2
        · exact Or.inr (Or.inr (Or.inl ⟨h0, h2, by rw [if_neg h0, if_pos h2]⟩))
        · exact Or.inr (Or.inr (Or.inr ⟨h0, h2, by rw [if_neg h0, if_neg h2], hw hne⟩))
    · intro ws1 e1 hp1 o8' o9' E1 G1 J1
      have e1' : aEm ws ((if zs.length = 0 then none else if sy = 2 then none else some 44) :: (mt_pl x).map some) = some ws1 := e1
      rw [e1', Option.bind_some] at H1 H0
      have := ih (zs ++ [x]) ws1 hp1 o8' o9' (by rw [ez]; simp) (T.keepT E1 J.nV) J1 (fun _ => ?_) (fun ws2 e2 hp2 E2 G2 J2 => H1 ws2 (by simpa using e2) hp2 (E1.tr E2) (G1.tr G2) J2) (fun e2 hp2 ws2 E2 G2 J2 => H0 (by simpa using e2) hp2 ws2 (E1.tr E2) (G1.tr G2) J2)
      · rw [List.length_append] at this; exact this
      · have e1'' : (aE1 ws (if zs.length = 0 then none else if sy = 2 then none else some 44)).bind (fun ws' => aEm ws' ((mt_pl x).map some)) = some ws1 := e1
        rw [Option.bind_eq_some_iff] at e1''
        obtain ⟨w0, a1, a2⟩ := e1''
        exact aEm_sn _ w0 ws1 (aE1_sn a1) a2
    · intro e1 hp1 ws1 E1 G1 J1
      have e1' : aEm ws ((if zs.length = 0 then none else if sy = 2 then none else some 44) :: (mt_pl x).map some) = none := e1
      rw [e1'] at H0
      exact H0 rfl hp1 ws1 E1 G1 J1
theorem k88_30 {j s n q pf sy : Nat} {t : mT} {ws : List (List Nat)} {o4 o5 o6 o7 o8 o9 : Option Value} (hg : mt_gd t) (hsy : sy ≤ 3) (hpf : pf < 200) (T : cT cS hp t q) (J : cJw hp j s n ws) (hw : pf ≠ 0 → ∃ vs w, ws = vs ++ [w]) (hne : ¬ (mt_isL t = true ∧ mt_els t = []))
    (H1 : ∀ ws', aEm ws (if mt_isL t = true ∧ 2 ≤ sy then none :: aJt sy (mt_els t) else (if sy = 1 ∧ pf ≠ 0 then [] else [none]) ++ (mt_pl t).map some) = some ws' → ∀ hp', cE (wJ j) hp hp' → cG 0 hp hp' → cJw hp' j s n ws' → Q (some (.int 1)) hp')
    (H0 : aEm ws (if mt_isL t = true ∧ 2 ≤ sy then none :: aJt sy (mt_els t) else (if sy = 1 ∧ pf ≠ 0 then [] else [none]) ++ (mt_pl t).map some) = none → ∀ hp' ws', cE (wJ j) hp hp' → cG 0 hp hp' → cJw hp' j s n ws' → Q (some (.int 0)) hp') : mm_R X (d + 3) 88 30 [some (.ref j), some (.int (nI pf)), some (.int (nI sy)), some (.ref q), o4, o5, o6, o7, o8, o9] [] hp Q := by
  obtain ⟨L, I, nn, hc, -⟩ := T.cell
  -- not taken apart
  have one : ¬ (mt_isL t = true ∧ 2 ≤ sy) → mm_R X (d + 2 + 1) 88 47 [some (.ref j), some (.int (nI pf)), some (.int (nI sy)), some (.ref q), o4, o5, o6, o7, o8, o9] [.int 0] hp Q := by
    intro hno
    rw [if_neg hno] at H1 H0
    have go : ∀ (jo : Int32) (hd : List (Option Nat)), (jo = 0 ∧ hd = [none] ∨ jo = 1 ∧ hd = [] ∧ ∃ vs w, ws = vs ++ [w]) → hd = (if sy = 1 ∧ pf ≠ 0 then [] else [none]) → mm_R X (d + 2 + 1) 88 63 [some (.ref j), some (.int (nI pf)), some (.int (nI sy)), some (.ref q), some (.int 0), o5, o6, o7, o8, o9] [.int jo] hp Q := by
      intro jo hd hjo ehd
      rw [← ehd] at H1 H0
      refine w88_63 ⟨fun _ => ?_, fun g => absurd rfl g⟩
      refine k88_83 (ta := 0) (i := 0) (parts := 1) (x := t) (hd := hd) hg hg T J (by omega) (by omega) (by omega) ?_ (Or.inl ⟨rfl, rfl⟩) ?_ (fun e1 hp1 ws1 E1 G1 J1 => H0 e1 hp1 ws1 E1 G1 J1)
      · rcases hjo with ⟨a, b⟩ | ⟨a, b, c⟩
        · exact Or.inl ⟨rfl, a, b⟩
        · exact Or.inr (Or.inl ⟨rfl, a, b, c⟩)
      · intro ws1 e1 hp1 o8' o9' E1 G1 J1
        exact w88_83 (pk_le 1 1 (fun _ => H1 ws1 e1 hp1 E1 G1 J1) (fun g => absurd g (by omega)))
    refine w88_47 (pk_ne sy 1 (fun e1 => pk_eq pf 0 (fun e0 => go 0 [none] (Or.inl ⟨rfl, rfl⟩) (by rw [if_neg (fun g => g.2 e0)])) (fun e0 => go 1 [] (Or.inr ⟨rfl, rfl, hw e0⟩) (by rw [if_pos ⟨e1, e0⟩]))) (fun e1 => go 0 [none] (Or.inl ⟨rfl, rfl⟩) (by rw [if_neg (fun g => e1 g.1)])))
  refine w88_30 ⟨rfl, ⟨_, _, rfl, hc⟩, k65 T ⟨_, rfl, ?_⟩⟩
  by_cases hL : mt_isL t = true
  · rw [if_pos hL]
    refine ⟨fun g => absurd g (by decide), fun _ => pk_lt sy 2 (fun h2 => one (fun g => by omega)) (fun h2 => ?_)⟩
    rw [if_pos ⟨hL, h2⟩] at H1 H0
    rw [hL, if_pos rfl] at hc
    have hels : mt_els t ≠ [] := fun g => hne ⟨hL, g⟩
    have eT : aTi sy 0 (mt_els t) = none :: aJt sy (mt_els t) := by unfold aTi; rw [if_neg hels, if_pos rfl]
    rw [← eT] at H1 H0
    have fin : ∀ jo : Int32, jo = 0 → mm_R X (d + 2 + 1) 88 63 [some (.ref j), some (.int (nI pf)), some (.int (nI sy)), some (.ref q), some (.int 1), o5, o6, o7, o8, o9] [.int jo] hp Q := by
      rintro jo rfl
      refine w88_63 ⟨fun g => absurd g (by decide), fun _ => ⟨rfl, _, _, _, rfl, hc, rfl, ?_⟩⟩
      exact k88_l hg hL (by omega) h2 (mt_els t) [] ws hp _ _ rfl T J (fun g => absurd rfl g) H1 H0
    exact w88_47 (pk_ne sy 1 (fun e1 => absurd e1 (by omega)) (fun _ => fin 0 rfl))
  · rw [if_neg hL]
    exact ⟨fun _ => one (fun g => hL g.1), fun g => absurd rfl g⟩
/-- addPortWords -/
theorem k88 {j s n q pf sy : Nat} {t : mT} {ws : List (List Nat)} (hg : mt_gd t) (hsy : sy ≤ 3) (hpf : pf < 200) (T : cT cS hp t q) (J : cJw hp j s n ws) (hne : ¬ (mt_isL t = true ∧ mt_els t = []))
    (H1 : ∀ ws', aEm ws (aTk pf sy t) = some ws' → ∀ hp', cE (wJ j) hp hp' → cG 0 hp hp' → cJw hp' j s n ws' → Q (some (.int 1)) hp')
    (H0 : aEm ws (aTk pf sy t) = none → ∀ hp' ws', cE (wJ j) hp hp' → cG 0 hp hp' → cJw hp' j s n ws' → Q (some (.int 0)) hp') : mm_R X (d + 3) 88 0 (mm_L0 88 [.ref j, .int (nI pf), .int (nI sy), .ref q]) [] hp Q := by
  unfold aTk at H1 H0
  refine w88_0 (pk_eq pf 0 (fun e0 => ?_) (fun e0 => ?_))
  · rw [if_pos e0, List.nil_append] at H1 H0
    exact k88_30 hg hsy hpf T J (fun g => absurd e0 g) hne H1 H0
  · rw [if_neg e0, aEm_app] at H1 H0
    have e3 : aEm ws [none, some 45, some pf] = (aE1 ws none).bind (fun w1 => (aE1 w1 (some 45)).bind (fun w2 => (aE1 w2 (some pf)).bind (fun w3 => some w3))) := rfl
    rw [e3] at H1 H0
    refine ⟨J.rc rfl, k89 J (fun w1 a1 hp1 E1 G1 J1 => ⟨_, rfl, fun g => absurd g (by decide), fun _ => ?_⟩) (fun a1 => ⟨_, rfl, fun _ => H0 (by rw [a1]; rfl) hp ws cE.rf cG.rf J, fun g => absurd rfl g⟩)⟩
    rw [a1, Option.bind_some] at H1 H0
    obtain ⟨v1, x1, ex1⟩ := aE1_sn a1
    subst ex1
    refine ⟨J1.rc rfl, k90 (c := 45) J1 (by decide) (fun w2 a2 hp2 E2 G2 J2 => ⟨_, rfl, fun g => absurd g (by decide), fun _ => ?_⟩) (fun a2 => ⟨_, rfl, fun _ => H0 (by rw [a2]; rfl) hp1 _ E1 G1 J1, fun g => absurd rfl g⟩)⟩
    rw [a2, Option.bind_some] at H1 H0
    obtain ⟨v2, x2, ex2⟩ := aE1_sn a2
    subst ex2
    refine ⟨J2.rc rfl, k90 (c := pf) J2 (by omega) (fun w3 a3 hp3 E3 G3 J3 => ⟨_, rfl, fun _ => ?_, fun g => absurd g (by decide)⟩) (fun a3 => ⟨_, rfl, fun g => absurd rfl g, fun _ => H0 (by rw [a3]; rfl) hp2 _ (E1.tr E2) (G1.tr G2) J2⟩)⟩
    rw [a3, Option.bind_some] at H1 H0
    have T3 := ((T.keepT E1 J.nV).keepT E2 J1.nV).keepT E3 J2.nV
    exact k88_30 hg hsy hpf T3 J3 (fun _ => aE1_sn a3) hne (fun ws' e hp4 E4 G4 J4 => H1 ws' e hp4 (((E1.tr E2).tr E3).tr E4) (((G1.tr G2).tr G3).tr G4) J4) (fun e hp4 ws4 E4 G4 J4 => H0 e hp4 ws4 (((E1.tr E2).tr E3).tr E4) (((G1.tr G2).tr G3).tr G4) J4)
theorem aOrd_lt {ps : List (Int32 × Nat × Nat)} : ∀ p ∈ aOrd ps, p < ps.length := by
  intro p hp
  unfold aOrd at hp
  rw [List.mem_flatten] at hp
  obtain ⟨l, hl, hp⟩ := hp
  obtain ⟨i, _, rfl⟩ := List.mem_map.mp hl
  exact List.mem_range.mp (List.mem_filter.mp hp).1
theorem k87_12 {j s n tr a : Nat} {to : mTo} {af : Nat → mT} (hto : tOk to) (hord : (aOrd to.2).length = to.2.length) (haf : ∀ i, mt_gd (af i)) (htr : ∀ x, tr ≤ x → x ≤ tr + 4 → ¬ wJ j x) (ha : ¬ wJ j a) : ∀ (l zs : List Nat) (ws : List (List Nat)) (hp : mm_H) (o4 o5 o6 o7 : Option Value), aOrd to.2 = zs ++ l → cTo hp tr to → cPt cS zA hp a af → cJw hp j s n ws →
    (∀ ws', aEm ws (aTs to.2 af l) = some ws' → ∀ hp', cE (wJ j) hp hp' → cG 0 hp hp' → cJw hp' j s n ws' → Q (some (.int 1)) hp') →
    (aEm ws (aTs to.2 af l) = none → ∀ hp' ws', cE (wJ j) hp hp' → cG 0 hp hp' → cJw hp' j s n ws' → Q (some (.int 0)) hp') →
    mm_R X (d + 4) 87 12 [some (.ref j), some (.ref tr), some (.ref a), some (.int (nI zs.length)), o4, o5, o6, o7] [] hp Q := by
  intro l
  induction l with
  | nil =>
    intro zs ws hp o4 o5 o6 o7 ez TO PT J H1 H0
    have n4 := TO.le
    obtain ⟨j1, j2, j3, j4, t0, _⟩ := id TO
    have el : zs.length = to.2.length := by rw [← hord, ez]; simp
    exact w87_12 ⟨rfl, _, _, _, rfl, t0, rfl, pk_le to.2.length zs.length (fun _ => H1 ws rfl hp cE.rf cG.rf J) (fun g => absurd g (by omega))⟩
  | cons p l ih =>
    intro zs ws hp o4 o5 o6 o7 ez TO PT J H1 H0
    have n4 := TO.le
    obtain ⟨j1, j2, j3, j4, t0, t1, t2, t3, t4, t5, t6, t7, t8, t9⟩ := id TO
    have el : (aOrd to.2).length = zs.length + (l.length + 1) := by rw [ez]; simp
    have hpl : p < to.2.length := aOrd_lt p (by rw [ez]; simp)
    have hpm : to.2.getD p (0, 0, 0) = to.2[p] := by rw [List.getD_eq_getElem?_getD, List.getElem?_eq_getElem hpl]; rfl
    obtain ⟨hx1, hx2, hx3⟩ := hto.2 to.2[p] (List.getElem_mem hpl)
    obtain ⟨q, hq, hqs⟩ := id PT
    obtain ⟨zq, Tq⟩ := hqs p (by omega)
    obtain ⟨L, I, nn, hc, -⟩ := Tq.cell
    obtain ⟨gz, g8⟩ := mt_g_sz (mt_gd_g (haf p))
    have eo : ((aOrd to.2).map mI ++ j4)[zs.length]? = some (mI p) := by
      rw [List.getElem?_append_left (by simp; omega), List.getElem?_map, ez, List.getElem?_append_right (Nat.le_refl _), Nat.sub_self]; rfl
    have eq : (row4 (fun i => Value.ref (q i)))[p]? = some (.ref (q p)) := row4_get (f := fun i => Value.ref (q i)) (by omega)
    have es : (to.2.map (fun x => mI x.2.2) ++ j3)[p]? = some (mI to.2[p].2.2) := by
      rw [List.getElem?_append_left (by simpa using hpl), List.getElem?_map, List.getElem?_eq_getElem hpl]; rfl
    have ex : (to.2.map (fun x => mI x.2.1) ++ j2)[p]? = some (mI to.2[p].2.1) := by
      rw [List.getElem?_append_left (by simpa using hpl), List.getElem?_map, List.getElem?_eq_getElem hpl]; rfl
    have eT : aTs to.2 af (p :: l) = aTp to.2[p] (af p) ++ aTs to.2 af l := by rw [aTs, hpm]
    rw [eT, aEm_app] at H1 H0
    -- the next port
    have next : ∀ (hp1 : mm_H) (ws1 : List (List Nat)) (o4 o5 o6 o7 : Option Value), aEm ws (aTp to.2[p] (af p)) = some ws1 → cE (wJ j) hp hp1 → cG 0 hp hp1 → cJw hp1 j s n ws1 → mm_R X (d + 3 + 1) 87 12 [some (.ref j), some (.ref tr), some (.ref a), some (.int (nI zs.length + (1 : Int32))), o4, o5, o6, o7] [] hp1 Q := by
      intro hp1 ws1 o4 o5 o6 o7 e1 E1 G1 J1
      rw [e1, Option.bind_some] at H1 H0
      have := ih (zs ++ [p]) ws1 hp1 o4 o5 o6 o7 (by rw [ez]; simp) (TO.keep E1 htr) (PT.keepT E1 J.nV ha) J1 (fun ws2 e2 hp2 E2 G2 J2 => H1 ws2 e2 hp2 (E1.tr E2) (G1.tr G2) J2) (fun e2 hp2 ws2 E2 G2 J2 => H0 e2 hp2 ws2 (E1.tr E2) (G1.tr G2) J2)
      rw [List.length_append] at this
      rw [nI_1]; exact this
    -- shown or not
    have s91 : ∀ b : Int32, (b = if mt_k (af p) = 0 ∨ mt_isL (af p) = true ∧ mt_els (af p) = [] then 1 else 0) → mm_R X (d + 3 + 1) 87 91 [some (.ref j), some (.ref tr), some (.ref a), some (.int (nI zs.length)), some (.int (nI p)), some (.ref (q p)), o6, o7] [.int b] hp Q := by
      intro b hb
      have hidden : aTp to.2[p] (af p) = [] → mm_R X (d + 3 + 1) 87 114 [some (.ref j), some (.ref tr), some (.ref a), some (.int (nI zs.length)), some (.int (nI p)), some (.ref (q p)), some (.int b), o7] [.int 0] hp Q := by
        intro e0
        exact w87_114 ⟨fun _ => next hp ws _ _ _ _ (by rw [e0]; rfl) cE.rf cG.rf J, fun g => absurd rfl g⟩
      refine w87_91 ⟨rfl, _, _, _, rfl, t0, rfl, tr + 3, _, _, rfl, t3, nI_pos' (by omega), by rw [nI_clamp (by omega)]; exact es, pk_le 4 to.2[p].2.2 (fun h4 => hidden (by unfold aTp; rw [if_pos (Or.inl (by omega))])) (fun h4 => ⟨fun hb1 => hidden ?_, fun hb0 => ?_⟩)⟩
      · by_cases he : mt_k (af p) = 0 ∨ mt_isL (af p) = true ∧ mt_els (af p) = []
        · unfold aTp; rw [if_pos (Or.inr he)]
        · rw [if_neg he] at hb; exact absurd hb hb1
      · have he : ¬ (mt_k (af p) = 0 ∨ mt_isL (af p) = true ∧ mt_els (af p) = []) := fun he => by rw [if_pos he] at hb; rw [hb] at hb0; exact absurd hb0 (by decide)
        have eP : aTp to.2[p] (af p) = aTk to.2[p].2.1 to.2[p].2.2 (af p) := by unfold aTp; rw [if_neg (fun g => by rcases g with g | g; omega; exact he g)]
        refine w87_114 ⟨fun g => absurd g (by decide), fun _ => ⟨rfl, _, _, _, rfl, t0, rfl, tr + 2, _, _, rfl, t2, nI_pos' (by omega), by rw [nI_clamp (by omega)]; exact ex, _, _, _, rfl, t0, rfl, tr + 3, _, _, rfl, t3, nI_pos' (by omega), by rw [nI_clamp (by omega)]; exact es, rfl, J.rc rfl, ?_⟩⟩
        refine k88 (haf p) (by omega) (by omega) Tq J (fun g => he (Or.inr g)) (fun ws1 e1 hp1 E1 G1 J1 => ⟨_, rfl, fun _ => next hp1 ws1 _ _ _ _ (by rw [eP]; exact e1) E1 G1 J1, fun g => absurd g (by decide)⟩) (fun e1 hp1 ws1 E1 G1 J1 => ⟨_, rfl, fun g => absurd rfl g, fun _ => H0 (by rw [eP, e1]; rfl) hp1 ws1 E1 G1 J1⟩)
    refine w87_12 ⟨rfl, _, _, _, rfl, t0, rfl, pk_le to.2.length zs.length (fun g => absurd g (by omega)) (fun _ => pk_le 4 zs.length (fun g => absurd g (by omega)) (fun _ => ⟨_, _, _, rfl, t0, rfl, tr + 4, _, _, rfl, t4, nI_pos' (by omega), by rw [nI_clamp (by omega)]; exact eo, pk_lt p 0 (fun g => absurd g (by omega)) (fun _ => ⟨rfl, a, _, _, rfl, hq, by decide, rfl, pk_le 4 p (fun g => absurd g (by omega)) (fun _ => ⟨a, _, _, _, rfl, hq, by decide, rfl, nI_pos' (by omega), by rw [nI_clamp (by omega)]; exact eq, ?_⟩)⟩)⟩))⟩
    refine w87_53 ⟨rfl, Or.inr ⟨⟨_, rfl⟩, ⟨_, _, rfl, hc⟩, k69 Tq ⟨_, rfl, ?_⟩⟩⟩
    by_cases hk : mt_k (af p) = 0
    · rw [if_pos hk]
      exact ⟨fun _ => s91 1 (by rw [if_pos (Or.inl hk)]), fun g => absurd g (by decide)⟩
    · rw [if_neg hk]
      refine ⟨fun g => absurd rfl g, fun _ => ⟨⟨_, _, rfl, hc⟩, k65 Tq ⟨_, rfl, ?_⟩⟩⟩
      by_cases hL : mt_isL (af p) = true
      · rw [if_pos hL]
        rw [hL, if_pos rfl] at hc
        refine ⟨fun g => absurd g (by decide), fun _ => ⟨_, _, _, rfl, hc, rfl, pk_ne (mt_els (af p)).length 0 (fun e => s91 1 ?_) (fun e => s91 0 ?_)⟩⟩
        · rw [if_pos (Or.inr ⟨hL, List.length_eq_zero_iff.mp e⟩)]
        · rw [if_neg (fun g => by rcases g with g | g; exact hk g; exact e (by rw [g.2]; rfl))]
      · rw [if_neg hL]
        exact ⟨fun _ => s91 0 (by rw [if_neg (fun g => by rcases g with g | g; exact hk g; exact hL g.1)]), fun g => absurd rfl g⟩
/-- makeCommand -/
theorem k87 {j s n tr a : Nat} {to : mTo} {af : Nat → mT} {ws0 : List (List Nat)} (hto : tOk to) (hord : (aOrd to.2).length = to.2.length) (haf : ∀ i, mt_gd (af i)) (htr : ∀ x, tr ≤ x → x ≤ tr + 4 → ¬ wJ j x) (ha : ¬ wJ j a) (TO : cTo hp tr to) (PT : cPt cS zA hp a af) (J : cJw hp j s n ws0)
    (H1 : ∀ ws', aCmd to.2 af = some ws' → ∀ hp', cE (wJ j) hp hp' → cG 0 hp hp' → cJw hp' j s n ws' → Q (some (.int 1)) hp')
    (H0 : aCmd to.2 af = none → ∀ hp' ws', cE (wJ j) hp hp' → cG 0 hp hp' → cJw hp' j s n ws' → Q (some (.int 0)) hp') : mm_R X (d + 4) 87 0 (mm_L0 87 [.ref j, .ref tr, .ref a]) [] hp Q := by
  obtain ⟨lb, junk, ej, b0, b1, b2, b3, b4, b5, b6, b7⟩ := id J
  have l0 := (List.getElem?_eq_some_iff.mp b0).1
  refine w87_0 ⟨j, _, rfl, b0, Nat.le_of_ble_eq_true rfl, rfl, j, _, rfl, List.getElem?_set_self l0, Nat.le_of_ble_eq_true rfl, rfl, ?_⟩
  rw [List.set_set]
  have E1 : cE (wJ j) hp (hp.set j (9, [.int (nI s), .int (nI n), .ref (j + 1), .ref (j + 2), .int 0, .int 0, .int lb])) := cE.set (Or.inl rfl)
  have G1 : cG 0 hp (hp.set j (9, [.int (nI s), .int (nI n), .ref (j + 1), .ref (j + 2), .int 0, .int 0, .int lb])) := ⟨by simp, by rw [mm_sz_set b0 (by rfl)]; omega⟩
  have J1 : cJw (hp.set j (9, [.int (nI s), .int (nI n), .ref (j + 1), .ref (j + 2), .int 0, .int 0, .int lb])) j s n [] := by
    refine ⟨lb, ws0.flatten.map mI ++ junk, (aEn 0 ws0).map mI ++ ej, List.getElem?_set_self l0, ?_, ?_, ?_, ?_, fun vs w e => ?_, fun w hw => (nomatch hw), ?_⟩
    · rw [List.getElem?_set_ne (by omega)]; exact b1
    · simp only [List.flatten_nil, List.length_nil, List.length_append, List.length_map]; omega
    · rw [List.getElem?_set_ne (by omega)]; exact b3
    · simp only [List.length_nil, List.length_append, List.length_map, aEn_len]; omega
    · simp at e
    · intro v hv
      rcases List.mem_append.mp hv with h | h
      · obtain ⟨x, _, rfl⟩ := List.mem_map.mp h
        exact ⟨nI x, rfl⟩
      · exact b7 v h
  exact k87_12 hto hord haf htr ha (aOrd to.2) [] [] _ _ _ _ _ rfl (TO.keep E1 htr) (PT.keepT E1 J.nV ha) J1 (fun ws' e hp' E G J' => H1 ws' e hp' (E1.tr E) (G1.tr G) J') (fun e hp' ws' E G J' => H0 e hp' ws' (E1.tr E) (G1.tr G) J')
end CD
