/-! RULES WORKED by the class: work -/
theorem cPt.keepr {S Z : Nat → Prop} {hp hp' : mm_H} {a r : Nat} {pt : Nat → mT} (P : cPt S Z hp a pt) (E : cE (fun x => x = r ∨ x = r + 1) hp hp') (M : cRm hp r) (hS : ∀ q, S q → Z q) (hr : ¬ Z r) : cPt S Z hp' a pt := by
  obtain ⟨q, h, hq⟩ := P
  obtain ⟨x2, x3, x4, x5, x6, zs, m1, m2, m3⟩ := M
  refine ⟨q, E.at h ?_, fun i hi => ⟨(hq i hi).1, ?_⟩⟩
  · rintro (rfl | rfl)
    · rw [m1] at h; cases h
    · rw [m2] at h; cases h
  · exact (hq i hi).2.keepr E m1 (fun u cs e => by rw [m2] at e; cases e; decide) (fun g => hr (hS r g)) (fun e => hr (e ▸ (hq i hi).1))
theorem cRm.dis {hp : mm_H} {a b : Nat} (A : cRm hp a) (B : cRm hp b) (h : a ≠ b) : a ≠ b + 1 ∧ a + 1 ≠ b ∧ a + 1 ≠ b + 1 := by
  obtain ⟨x2, x3, x4, x5, x6, zs, m1, m2, m3⟩ := A
  obtain ⟨y2, y3, y4, y5, y6, ws, n1, n2, n3⟩ := B
  refine ⟨?_, ?_, by omega⟩
  · rintro rfl; rw [n2] at m1; cases m1
  · rintro rfl; rw [n1] at m2; cases m2
theorem cT.keepm {S Z : Nat → Prop} {hp hp' : mm_H} {r q : Nat} {t : mT} (T : cT S hp t q) (E : cE (fun x => x = r ∨ x = r + 1) hp hp') (M : cRm hp r) (hS : ∀ q, S q → Z q) (hr : ¬ Z r) (hq : q ≠ r) : cT S hp' t q := by
  obtain ⟨x2, x3, x4, x5, x6, zs, m1, m2, m3⟩ := M
  exact T.keepr E m1 (fun u cs e => by rw [m2] at e; cases e; decide) (fun g => hr (hS r g)) hq
def cW2 (a b x : Nat) : Prop := x = a ∨ x = a + 1 ∨ x = b ∨ x = b + 1
section CK
variable {X : List Int32} {d : Nat} {hp : mm_H} {Q : Option Value → mm_H → Prop} {S Z : Nat → Prop}
theorem k76_skip {rr N : Nat} {is : List mIt} {r1 r2 r3 r4 : Value} {tl : List Nat} (R : cRl hp rr is N) : ∀ (xs : List Nat) (k : Nat) (o6 o7 : Option Value), (rCs is).drop k = xs ++ tl → (∀ x ∈ xs, 300 ≤ x ∧ x ≤ 400) → (∀ o6 o7, mm_R X (d + 1) 76 32 [some (.ref rr), some r1, some r2, some r3, some r4, some (.int (nI (k + xs.length))), o6, o7] [] hp Q) →
    mm_R X (d + 1) 76 32 [some (.ref rr), some r1, some r2, some r3, some r4, some (.int (nI k)), o6, o7] [] hp Q := by
  obtain ⟨hcl, hN⟩ := R.le
  obtain ⟨junk, h, _⟩ := id R
  intro xs
  induction xs with
  | nil => intro k o6 o7 _ _ H; exact H o6 o7
  | cons x xs ih =>
    intro k o6 o7 hk hx H
    have hkl : k < (rCs is).length := by
      rcases Nat.lt_or_ge k (rCs is).length with g | g
      · exact g
      · rw [List.drop_eq_nil_of_le g] at hk; cases hk
    have hdr := List.drop_eq_getElem_cons hkl
    rw [hk, List.cons_append] at hdr
    have hk4 : (rCs is)[k]? = some x := by rw [List.getElem?_eq_getElem hkl, ← (List.cons.inj hdr).1]
    have hk1 : (rCs is).drop (k + 1) = xs ++ tl := (List.cons.inj hdr).2.symm
    have hb := hx x List.mem_cons_self
    refine w76_32 ⟨rr, _, _, rfl, h, rfl, pk_le (rCs is).length k (fun g => absurd g (by omega)) (fun _ => ⟨rr, _, _, rfl, h, rfl, cRu.ln R (pk_le N k (fun g => absurd g (by omega)) (fun _ => ⟨rr, _, _, rfl, h, rfl, cRu.at R hk4 (pk_le 200 x (fun _ => pk_le 300 x (fun _ => ?_) (fun g => absurd g (by omega))) (fun g => absurd g (by omega)))⟩))⟩)⟩
    rw [nI_1]
    refine ih (k + 1) _ _ hk1 (fun y hy => hx y (List.mem_cons_of_mem _ hy)) (fun o6 o7 => ?_)
    rw [show k + 1 + xs.length = k + (x :: xs).length by rw [List.length_cons]; omega]
    exact H o6 o7
theorem k76_32 {rr N md ps pa qs : Nat} {is : List mIt} {pt : Nat → mT} {self : mT} (hS : ∀ q, S q → Z q) (hm : ¬ Z md) (hps : ¬ Z ps) (hne : md ≠ ps) (hpt : ∀ i, mt_g (pt i)) (Zs : Z qs) (hs : mt_g self) : ∀ (js : List mIt) (k : Nat) (s : List Nat) (hp : mm_H) (junk : List Value) (o6 o7 : Option Value), k ≤ (rCs is).length → (rCs is).drop k = rCs js → (∀ i ∈ js, rIo i) → cRl hp rr is N → cTx hp md s junk → s.length + junk.length = 24 → cRm hp ps → cPt S Z hp pa pt → cT S hp self qs →
    (∀ w, rT pt self js = some w → s.length + w.length ≤ 24 → (∀ c ∈ w, mt_lt c) → ∀ hp' junk', cE (cW2 md ps) hp hp' → cG 0 hp hp' → cRm hp' ps → cTx hp' md (s ++ w) junk' → s.length + w.length + junk'.length = 24 → Q (some (.ref md)) hp') →
    ((∀ w, rT pt self js = some w → ¬ (s.length + w.length ≤ 24 ∧ ∀ c ∈ w, mt_lt c)) → ∀ hp', cE (cW2 md ps) hp hp' → cG 0 hp hp' → cRm hp' ps → cRm hp' md → Q (some .null) hp') →
    mm_R X (d + 4) 76 32 [some (.ref rr), some (.ref pa), some (.ref qs), some (.ref md), some (.ref ps), some (.int (nI k)), o6, o7] [] hp Q := by
  have em : ∀ {a b : mm_H}, cE (fun x => x = md ∨ x = md + 1) a b → cE (cW2 md ps) a b := fun E => E.mono (fun x _ h => by unfold cW2; omega)
  have ep : ∀ {a b : mm_H}, cE (fun x => x = ps ∨ x = ps + 1) a b → cE (cW2 md ps) a b := fun E => E.mono (fun x _ h => by unfold cW2; omega)
  intro js
  induction js with
  | nil =>
    intro k s hp junk o6 o7 hk6 hk hi R T hroom Mp PT Ts H1 H0
    obtain ⟨hcl, hN⟩ := R.le
    obtain ⟨jk, h, _⟩ := id R
    have hkl : (rCs is).length ≤ k := by
      have := congrArg List.length hk
      rw [List.length_drop] at this
      have e : (rCs ([] : List mIt)).length = 0 := rfl
      omega
    exact w76_32 ⟨rr, _, _, rfl, h, rfl, pk_le (rCs is).length k (fun _ => ⟨rfl, Or.inr ⟨_, rfl⟩, H1 [] rfl (by simp; omega) (fun c hc => nomatch hc) hp junk cE.rf cG.rf Mp (by simpa using T) (by simp; omega)⟩) (fun g => absurd g (by omega))⟩
  | cons it js ih =>
    intro k s hp junk o6 o7 hk6 hk hi R T hroom Mp PT Ts H1 H0
    obtain ⟨hcl, hN⟩ := R.le
    obtain ⟨jk, h, _⟩ := id R
    have hio := hi it List.mem_cons_self
    have hi' : ∀ i ∈ js, rIo i := fun i h => hi i (List.mem_cons_of_mem _ h)
    have hcons : rCs (it :: js) = rEn it ++ rCs js := by simp [rCs]
    rw [hcons] at hk
    have hkl : k < (rCs is).length := by
      rcases Nat.lt_or_ge k (rCs is).length with g | g
      · exact g
      · rw [List.drop_eq_nil_of_le g] at hk
        cases it with
        | inl c => cases hk
        | inr p => cases hk
    have hdr := List.drop_eq_getElem_cons hkl
    have Mm := T.rm hroom
    obtain ⟨d1, d2, d3, d4⟩ := cRu.dis R Mm
    obtain ⟨p1, p2, p3, p4⟩ := cRu.dis R Mp
    obtain ⟨m1, m2, m3⟩ := Mm.dis Mp hne
    obtain ⟨nt, t1, t2, _⟩ := id T
    cases it with
    | inl c =>
      rw [hk] at hdr
      have hk4 : (rCs is)[k]? = some c := by rw [List.getElem?_eq_getElem hkl, ← (List.cons.inj hdr).1]
      have hk1 : (rCs is).drop (k + 1) = rCs js := (List.cons.inj hdr).2.symm
      have hc : c ≤ 126 := hio
      refine w76_32 ⟨rr, _, _, rfl, h, rfl, pk_le (rCs is).length k (fun g => absurd g (by omega)) (fun _ => ⟨rr, _, _, rfl, h, rfl, cRu.ln R (pk_le N k (fun g => absurd g (by omega)) (fun _ => ⟨rr, _, _, rfl, h, rfl, cRu.at R hk4 (pk_le 200 c (fun g => absurd g (by omega)) (fun _ => ⟨rfl, ⟨md, _, rfl, t1⟩, ?_⟩))⟩))⟩)⟩
      rw [m_ch (by omega)]
      refine k34b T hroom (by omega) (fun h24 hlt hp1 junk1 E1 G1 T1 r1 => ⟨_, rfl, fun _ => ?_, fun g => absurd g (by decide)⟩) (fun hno => ⟨_, rfl, fun g => absurd rfl g, fun _ => ?_⟩)
      · rw [nI_1]
        refine ih (k + 1) (s ++ [c]) hp1 junk1 _ _ (by omega) hk1 hi' (cRu.keep R E1 (by omega) (by omega)) T1 (by simp; omega) (Mp.keep E1 (by omega) (by omega)) (PT.keepr E1 Mm hS hm) (Ts.keepm E1 Mm hS hm (fun e => hm (e ▸ Zs))) ?_ ?_
        · intro w hw a1 a2 hp2 junk2 E2 G2 M2 T2 r2
          have el : (s ++ [c]).length = s.length + 1 := by simp
          rw [el] at a1 r2
          refine H1 (c :: w) (by show (rT pt self js).map _ = _; rw [hw]; rfl) (by rw [List.length_cons]; omega) ?_ hp2 junk2 ((em E1).tr E2) (G1.tr G2) M2 (by simpa using T2) (by rw [List.length_cons]; omega)
          intro x hx
          rcases List.mem_cons.mp hx with rfl | hx
          · exact hlt
          · exact a2 x hx
        · intro no hp2 E2 G2 M2 M3
          refine H0 ?_ hp2 ((em E1).tr E2) (G1.tr G2) M2 M3
          intro w hw
          have hw' : (rT pt self js).map (fun r => c :: r) = some w := hw
          rw [Option.map_eq_some_iff] at hw'
          obtain ⟨w', hw2, e⟩ := hw'
          subst e
          rintro ⟨b1, b2⟩
          rw [List.length_cons] at b1
          exact no w' hw2 ⟨by simp; omega, fun x hx => b2 x (List.mem_cons_of_mem _ hx)⟩
      · refine H0 ?_ hp cE.rf cG.rf Mp Mm
        intro w hw
        have hw' : (rT pt self js).map (fun r => c :: r) = some w := hw
        rw [Option.map_eq_some_iff] at hw'
        obtain ⟨w', hw2, e⟩ := hw'
        subst e
        rintro ⟨b1, b2⟩
        rw [List.length_cons] at b1
        exact hno ⟨by omega, b2 c List.mem_cons_self⟩
    | inr p =>
      obtain ⟨b1, b2, b3⟩ := id hio
      have hk' := hk
      rw [hk] at hdr
      have hk4 : (rCs is)[k]? = some p.1 := by rw [List.getElem?_eq_getElem hkl, ← (List.cons.inj hdr).1]
      have hk1 : (rCs is).drop (k + 1) = (p.2 ++ [400]) ++ rCs js := (List.cons.inj hdr).2.symm
      have hlen : k + 1 + (p.2.length + 1) ≤ (rCs is).length := by
        have := congrArg List.length hk1
        rw [List.length_drop] at this
        simp at this
        omega
      refine w76_32 ⟨rr, _, _, rfl, h, rfl, pk_le (rCs is).length k (fun g => absurd g (by omega)) (fun _ => ⟨rr, _, _, rfl, h, rfl, cRu.ln R (pk_le N k (fun g => absurd g (by omega)) (fun _ => ⟨rr, _, _, rfl, h, rfl, cRu.at R hk4 (pk_le 200 p.1 (fun _ => pk_le 300 p.1 (fun g => absurd g (by omega)) (fun _ => ⟨rfl, rfl, rfl, cRu.rc R rfl, ?_⟩)) (fun g => absurd g (by omega)))⟩))⟩)⟩
      refine k77 (Z := Z) hS hps R Mp hk' hio PT hpt Zs Ts hs ?_ ?_
      · intro t ht hp1 q E1 G1 Mp1 Tq zq gq
        have R1 : cRl hp1 rr is N := cRu.keep R E1 (by omega) (by omega)
        have T1 : cTx hp1 md s junk := by
          obtain ⟨nt, t1, t2, t3⟩ := T
          exact ⟨nt, E1.at t1 (by omega), E1.at t2 (by omega), t3⟩
        have PT1 := PT.keepr E1 Mp hS hps
        have Ts1 := Ts.keepm E1 Mp hS hps (fun e => hps (e ▸ Zs))
        have hqm : q ≠ md := by
          rcases zq with zq | zq
          · exact fun e => hm (e ▸ zq)
          · omega
        refine ⟨_, rfl, rfl, Or.inr ⟨⟨_, rfl⟩, rfl, ⟨md, _, rfl, E1.at t1 (by omega)⟩, ?_⟩⟩
        refine k79 T1 hroom Tq (mt_g_gd gq) hqm (fun g => hm (hS md g)) ?_ ?_
        · intro a1 a2 hp2 junk2 E2 G2 T2 r2
          have Mm1 := T1.rm hroom
          refine ⟨_, rfl, fun _ => ?_, fun g => absurd g (by decide)⟩
          have R2 : cRl hp2 rr is N := cRu.keep R1 E2 (by omega) (by omega)
          rw [nI_1]
          refine k76_skip R2 (p.2 ++ [400]) (k + 1) _ _ hk1 ?_ (fun o6 o7 => ?_)
          · intro x hx
            rcases List.mem_append.mp hx with hx | hx
            · have := b3 x hx; omega
            · rw [List.mem_singleton] at hx; omega
          · refine ih (k + 1 + (p.2 ++ [400]).length) (s ++ mt_pl t) hp2 junk2 _ _ (by simp; omega) ?_ hi' R2 T2 (by rw [List.length_append]; omega) (Mp1.keep E2 (by omega) (by omega)) (PT1.keepr E2 Mm1 hS hm) (Ts1.keepm E2 Mm1 hS hm (fun e => hm (e ▸ Zs))) ?_ ?_
            · rw [← List.drop_drop, hk1, List.drop_left]
            · intro w hw c1 c2 hp3 junk3 E3 G3 M3 T3 r3
              rw [List.length_append] at c1 r3
              refine H1 (mt_pl t ++ w) ?_ (by rw [List.length_append]; omega) ?_ hp3 junk3 (((ep E1).tr (em E2)).tr E3) ((G1.tr G2).tr G3) M3 (by simpa using T3) (by rw [List.length_append]; omega)
              · show (rV pt self p).bind _ = _
                rw [ht, Option.bind_some, hw]; rfl
              · intro x hx
                rcases List.mem_append.mp hx with hx | hx
                · exact a2 x hx
                · exact c2 x hx
            · intro no hp3 E3 G3 M3 M4
              refine H0 ?_ hp3 (((ep E1).tr (em E2)).tr E3) ((G1.tr G2).tr G3) M3 M4
              intro w hw
              have hw' : (rV pt self p).bind (fun v => (rT pt self js).map (fun r => mt_pl v ++ r)) = some w := hw
              rw [ht, Option.bind_some, Option.map_eq_some_iff] at hw'
              obtain ⟨w', hw2, e⟩ := hw'
              subst e
              rintro ⟨c1, c2⟩
              rw [List.length_append] at c1
              exact no w' hw2 ⟨by rw [List.length_append]; omega, fun x hx => c2 x (List.mem_append_right _ hx)⟩
        · intro no hp2 s2 junk2 E2 G2 T2 r2
          refine ⟨_, rfl, fun g => absurd rfl g, fun _ => ?_⟩
          refine H0 ?_ hp2 ((ep E1).tr (em E2)) (G1.tr G2) (Mp1.keep E2 (by omega) (by omega)) (T2.rm r2)
          intro w hw
          have hw' : (rV pt self p).bind (fun v => (rT pt self js).map (fun r => mt_pl v ++ r)) = some w := hw
          rw [ht, Option.bind_some, Option.map_eq_some_iff] at hw'
          obtain ⟨w', hw2, e⟩ := hw'
          subst e
          rintro ⟨c1, c2⟩
          rw [List.length_append] at c1
          exact no ⟨by omega, fun x hx => c2 x (List.mem_append_left _ hx)⟩
      · intro hn hp1 E1 G1 Mp1
        refine ⟨_, rfl, rfl, Or.inl ⟨rfl, H0 ?_ hp1 (ep E1) G1 Mp1 (Mm.keep E1 (by omega) (by omega))⟩⟩
        intro w hw
        have hw' : (rV pt self p).bind (fun v => (rT pt self js).map (fun r => mt_pl v ++ r)) = some w := hw
        rw [hn] at hw'
        cases hw'
/-- work -/
theorem k76 {rr N md ps pa qs : Nat} {is : List mIt} {pt : Nat → mT} {self : mT} (hS : ∀ q, S q → Z q) (hm : ¬ Z md) (hps : ¬ Z ps) (hne : md ≠ ps) (hpt : ∀ i, mt_g (pt i)) (Zs : Z qs) (hs : mt_g self) (R : cRl hp rr is N) (hi : ∀ i ∈ is, rIo i) (Mm : cRm hp md) (Mp : cRm hp ps) (PT : cPt S Z hp pa pt) (Ts : cT S hp self qs)
    (H1 : ∀ t, rW pt self is = some t → ∀ hp' q, cE (cW2 md ps) hp hp' → cG 0 hp hp' → cRm hp' md → cRm hp' ps → cT S hp' t q → (Z q ∨ q = md) → mt_g t → Q (some (.ref q)) hp')
    (H0 : rW pt self is = none → ∀ hp', cE (cW2 md ps) hp hp' → cG 0 hp hp' → cRm hp' md → cRm hp' ps → Q (some .null) hp') : mm_R X (d + 4) 76 0 (mm_L0 76 [.ref rr, .ref pa, .ref qs, .ref md, .ref ps]) [] hp Q := by
  obtain ⟨hcl, hN⟩ := R.le
  obtain ⟨jk, h, _⟩ := id R
  obtain ⟨d1, d2, d3, d4⟩ := cRu.dis R Mm
  obtain ⟨m1, m2, m3⟩ := Mm.dis Mp hne
  have hll : rLc is ≤ (rCs is).length ∧ rRc is ≤ (rCs is).length := by
    have : ∀ js : List mIt, rLc js ≤ (rCs js).length ∧ rRc js ≤ (rCs js).length := by
      intro js
      induction js with
      | nil => exact ⟨Nat.zero_le _, Nat.zero_le _⟩
      | cons j js ih =>
        have hcons : rCs (j :: js) = rEn j ++ rCs js := by simp [rCs]
        rw [hcons, List.length_append]
        cases j with
        | inl c => simp only [rLc, rRc, rEn, List.length_cons, List.length_nil]; omega
        | inr p => simp only [rLc, rRc, rEn, List.length_cons, List.length_append, List.length_nil]; omega
    exact this is
  have text : ¬ (rLc is = 0 ∧ rRc is = 1) → mm_isr (.ref md) = true ∧ mw_rc (.ref md) 8 hp ∧ mm_R X (d + 3) 8 0 (mm_L0 8 [.ref md]) [] hp (mw_ri (fun x5 hp4 => mm_R X (d + 3 + 1) 76 32 [some (.ref rr), some (.ref pa), some (.ref qs), some (.ref md), some (.ref ps), some (.int (0 : Int32)), none, none] [] hp4 Q)) := by
    intro hno
    have eW : rW pt self is = (rT pt self is).bind rX := by unfold rW; rw [rOne_n hno]
    obtain ⟨x2, x3, x4, x5, x6, cs, g1, g2, g3⟩ := id Mm
    have hl : md + 1 < hp.length := (List.getElem?_eq_some_iff.mp g2).1
    refine ⟨rfl, ⟨md, _, rfl, g1⟩, k8 g1 g2 (by omega) (by omega) ⟨_, rfl, ?_⟩⟩
    obtain ⟨c0, c1, cr, ec⟩ : ∃ c0 c1 cr, cs = c0 :: c1 :: cr := by
      cases cs with
      | nil => simp at g3
      | cons a l =>
        cases l with
        | nil => simp at g3
        | cons b l => exact ⟨a, b, l, rfl⟩
    subst ec
    have E1 : cE (fun x => x = md ∨ x = md + 1) hp (c2 hp md (2, [.ref (md + 1), .null, .int 2, .int x3, .int 0, .int 0, .int 2]) (1001, ((c0 :: c1 :: cr).set 0 (.int 34)).set 1 (.int 34))) := c2_e (Or.inl rfl) (Or.inr rfl)
    have G1 : cG 0 hp (c2 hp md (2, [.ref (md + 1), .null, .int 2, .int x3, .int 0, .int 0, .int 2]) (1001, ((c0 :: c1 :: cr).set 0 (.int 34)).set 1 (.int 34))) := c2_g g1 g2 rfl (by simp)
    have T1 : cTx (c2 hp md (2, [.ref (md + 1), .null, .int 2, .int x3, .int 0, .int 0, .int 2]) (1001, ((c0 :: c1 :: cr).set 0 (.int 34)).set 1 (.int 34))) md [] cr := by
      simp only [List.length_cons] at g3
      exact ⟨.int x3, c2_0 hl, c2_1 hl, ⟨_, rfl⟩, by omega⟩
    simp only [List.length_cons] at g3
    have eE : ∀ {a b : mm_H}, cE (fun x => x = md ∨ x = md + 1) a b → cE (cW2 md ps) a b := fun E => E.mono (fun x _ h => by unfold cW2; omega)
    refine k76_32 (N := N) (is := is) hS hm hps hne hpt Zs hs is 0 [] _ cr none none (by omega) (by simp) hi (cRu.keep R E1 (by omega) (by omega)) T1 (by simp; omega) (Mp.keep E1 (by omega) (by omega)) (PT.keepr E1 Mm hS hm) (Ts.keepm E1 Mm hS hm (fun e => hm (e ▸ Zs))) ?_ ?_
    · intro w hw a1 a2 hp2 junk2 E2 G2 M2 T2 r2
      have lg : mt_lg (some (.inr w)) := ⟨by simpa using a1, a2⟩
      refine H1 (.leaf (some (.inr w))) ?_ hp2 md ((eE E1).tr E2) (G1.tr G2) (T2.rm (by simpa using r2)) M2 (by have := T2.t (S := S); simpa using this) (Or.inr rfl) ⟨3, by omega, mt_gl_leaf lg⟩
      rw [eW, hw, Option.bind_some]
      unfold rX
      rw [if_pos ⟨by simpa using a1, a2⟩]
    · intro no hp2 E2 G2 M2 M3
      refine H0 ?_ hp2 ((eE E1).tr E2) (G1.tr G2) M3 M2
      rw [eW]
      cases hw : rT pt self is with
      | none => rfl
      | some w =>
        rw [Option.bind_some]
        unfold rX
        rw [if_neg (fun g => no w hw ⟨by simpa using g.1, g.2⟩)]
  refine w76_0 ⟨rr, _, _, rfl, h, rfl, pk_ne (rLc is) 0 (fun e0 => ⟨rr, _, _, rfl, h, rfl, pk_ne (rRc is) 1 (fun e1 => ?_) (fun e1 => text (fun g => e1 g.2))⟩) (fun e0 => text (fun g => e0 g.1))⟩
  obtain ⟨p, ep, eis⟩ := (rOne_c is).mpr ⟨e0, e1⟩
  have eW : rW pt self is = rV pt self p := by unfold rW; rw [ep]
  rw [eW] at H1 H0
  refine ⟨rfl, rfl, rfl, cRu.rc R rfl, ?_⟩
  refine k77 (Z := Z) (k := 0) (p := p) (rest := []) hS hm R Mm ?_ (hi _ (by rw [eis]; exact List.mem_cons_self)) PT hpt Zs Ts hs ?_ ?_
  · rw [eis]; simp [rCs]
  · intro t ht hp1 q E1 G1 M1 T1 z1 g1
    exact ⟨_, rfl, Or.inr ⟨_, rfl⟩, H1 t ht hp1 q (E1.mono (fun x _ h => by unfold cW2; omega)) G1 M1 (Mp.keep E1 (by omega) (by omega)) T1 z1 g1⟩
  · intro hn hp1 E1 G1 M1
    exact ⟨_, rfl, Or.inl rfl, H0 hn hp1 (E1.mono (fun x _ h => by unfold cW2; omega)) G1 M1 (Mp.keep E1 (by omega) (by omega))⟩
end CK
