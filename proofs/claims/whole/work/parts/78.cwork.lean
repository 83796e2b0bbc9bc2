/-! RULES WORKED: what they give; the class -/
def mt_sz (t : mT) : Nat := if mt_isL t then (mt_els t).length else (mt_txt t).length
def rSt (v : Option mT) (a : Nat) : Option mT := v.bind (fun t => if a = 308 then (if 2 ≤ mt_k t then some (.leaf (some (.inl (nI (mt_sz t))))) else none) else (mt_els t)[a - 300]?)
def rGo (v : Option mT) (as : List Nat) : Option mT := as.foldl rSt v
theorem rGo_none : ∀ as : List Nat, rGo none as = none
  | [] => rfl
  | a :: as => rGo_none as
theorem rGo_cons (v : Option mT) (a : Nat) (as : List Nat) : rGo v (a :: as) = rGo (rSt v a) as := rfl
def rV (pt : Nat → mT) (self : mT) (p : Nat × List Nat) : Option mT := rGo (some (if p.1 < 204 then pt (p.1 - 200) else self)) p.2
def rT (pt : Nat → mT) (self : mT) : List mIt → Option (List Nat)
  | [] => some []
  | .inl c :: is => (rT pt self is).map (fun r => c :: r)
  | .inr p :: is => (rV pt self p).bind (fun v => (rT pt self is).map (fun r => mt_pl v ++ r))
def rX (s : List Nat) : Option mT := if s.length ≤ 24 ∧ ∀ c ∈ s, 32 ≤ c ∧ c ≤ 126 ∧ c ≠ 34 ∧ c ≠ 92 then some (.leaf (some (.inr s))) else none
def rOne : List mIt → Option (Nat × List Nat)
  | [.inr p] => some p
  | _ => none
def rW (pt : Nat → mT) (self : mT) (is : List mIt) : Option mT := match rOne is with
  | some p => rV pt self p
  | none => (rT pt self is).bind rX
def rIo : mIt → Prop
  | .inl c => c ≤ 126
  | .inr p => 200 ≤ p.1 ∧ p.1 ≤ 204 ∧ ∀ a ∈ p.2, 300 ≤ a ∧ a ≤ 308
theorem rI_ok {D : List Nat} (hD : mD_ok D) : ∀ (n k : Nat) (is : List mIt), k ≤ D.length → rI D n k = some is → ∀ i ∈ is, rIo i := by
  intro n
  induction n with
  | zero => intro k is _ h; cases h
  | succ n ih =>
    intro k is hk h
    rw [rI] at h
    split at h
    · cases h; intro i hi; cases hi
    · split at h
      · rename_i hs
        have hl := st_le (by decide) hk hs
        simp only [List.length_cons, List.length_nil] at hl
        rw [Option.bind_eq_some_iff] at h
        obtain ⟨p, h1, h2⟩ := h
        obtain ⟨z1, z2, z3, z4, z5, z6⟩ := rRef_le hl (show rRef D k = some (p.1, p.2) from h1)
        rw [Option.map_eq_some_iff] at h2
        obtain ⟨js, h3, e⟩ := h2
        cases e
        intro i hi
        rcases List.mem_cons.mp hi with rfl | hi
        · exact ⟨z3, z4, z5⟩
        · exact ih p.2 js z2 h3 i hi
      · rw [Option.map_eq_some_iff] at h
        obtain ⟨js, h3, e⟩ := h
        cases e
        intro i hi
        rcases List.mem_cons.mp hi with rfl | hi
        · exact mc_lt hD k
        · exact ih (k + 1) js (by omega) h3 i hi
theorem rOne_c (is : List mIt) : (∃ p, rOne is = some p ∧ is = [.inr p]) ↔ rLc is = 0 ∧ rRc is = 1 := by
  constructor
  · rintro ⟨p, _, rfl⟩; exact ⟨rfl, rfl⟩
  · rintro ⟨h1, h2⟩
    cases is with
    | nil => cases h2
    | cons i is =>
      cases i with
      | inl c => simp [rLc] at h1
      | inr p =>
        cases is with
        | nil => exact ⟨p, rfl, rfl⟩
        | cons j js =>
          cases j with
          | inl c => simp [rLc] at h1
          | inr q => simp [rRc] at h2
theorem rOne_n {is : List mIt} (h : ¬ (rLc is = 0 ∧ rRc is = 1)) : rOne is = none := by
  cases e : rOne is with
  | none => rfl
  | some p =>
    refine absurd ((rOne_c is).mp ⟨p, e, ?_⟩) h
    cases is with
    | nil => cases e
    | cons i is =>
      cases i with
      | inl c => cases e
      | inr q =>
        cases is with
        | nil => cases e; rfl
        | cons j js => cases e
/-- good at some level -/
def mt_g (t : mT) : Prop := ∃ l, l ≤ 3 ∧ mt_gl l t
theorem mt_g_el {t x : mT} (h : mt_g t) (hx : x ∈ mt_els t) : mt_g x := by
  obtain ⟨l, hl, g⟩ := h
  by_cases ht : mt_isL t = true
  · obtain ⟨g1, g2, g3⟩ := (mt_gl_list ht).mp g
    exact ⟨l + 1, by omega, g3 x hx⟩
  · obtain ⟨s, e⟩ := mt_leaf ht
    subst e
    cases hx
theorem mt_g_sz {t : mT} (h : mt_g t) : mt_sz t ≤ 24 ∧ (mt_els t).length ≤ 8 := by
  obtain ⟨l, hl, g⟩ := h
  unfold mt_sz
  by_cases ht : mt_isL t = true
  · obtain ⟨g1, g2, g3⟩ := (mt_gl_list ht).mp g
    rw [if_pos ht]; omega
  · obtain ⟨s, e⟩ := mt_leaf ht
    subst e
    rw [if_neg ht]
    refine ⟨?_, by simp [mt_els]⟩
    rcases s with _ | n | s
    · simp [mt_txt]
    · simp [mt_txt]
    · exact g.2.1
theorem mt_g_dp {t : mT} (h : mt_g t) : mt_dp t ≤ 3 := by
  obtain ⟨l, hl, g⟩ := h
  have := mt_gl_dp t l g hl
  omega
/-- good at a level below is good -/
theorem mt_gl_dn : ∀ (t : mT) (l m : Nat), mt_gl l t → m ≤ l → mt_gl m t := by
  intro t
  induction t using mt_ind with
  | hs s => intro l m h _; exact ⟨mt_okl_leaf m s, h.2⟩
  | hl t ht ih =>
    intro l m h hm
    obtain ⟨g1, g2, g3⟩ := (mt_gl_list ht).mp h
    exact (mt_gl_list ht).mpr ⟨by omega, g2, fun x hx => ih x hx (l + 1) (m + 1) (g3 x hx) (by omega)⟩
theorem mt_g_gd {t : mT} (h : mt_g t) : mt_gd t := by
  obtain ⟨l, hl, g⟩ := h
  exact mt_gl_dn t l 0 g (by omega)
theorem mt_gd_g {t : mT} (h : mt_gd t) : mt_g t := ⟨0, by omega, h⟩
/-- room for a text -/
def cRm (hp : mm_H) (r : Nat) : Prop := ∃ x2 x3 x4 x5 x6 cs, hp[r]? = some (2, [.ref (r + 1), .null, .int x2, .int x3, .int x4, .int x5, .int x6]) ∧ hp[r + 1]? = some (1001, cs) ∧ cs.length = 26
theorem cRm.keep {hp hp' : mm_H} {r : Nat} {W : Nat → Prop} (h : cRm hp r) (E : cE W hp hp') (h0 : ¬ W r) (h1 : ¬ W (r + 1)) : cRm hp' r := by
  obtain ⟨x2, x3, x4, x5, x6, cs, a, b, c⟩ := h
  exact ⟨x2, x3, x4, x5, x6, cs, E.at a h0, E.at b h1, c⟩
theorem cTx.rm {hp : mm_H} {r : Nat} {s : List Nat} {junk : List Value} (h : cTx hp r s junk) (hr : s.length + junk.length = 24) : cRm hp r := by
  obtain ⟨n, a, b, ⟨m, rfl⟩, c⟩ := h
  exact ⟨_, _, _, _, _, _, a, b, by simp; omega⟩
/-- the four ports of a row of values -/
def cPt (S Z : Nat → Prop) (hp : mm_H) (a : Nat) (pt : Nat → mT) : Prop := ∃ q : Nat → Nat, hp[a]? = some (2002, [.ref (q 0), .ref (q 1), .ref (q 2), .ref (q 3)]) ∧ ∀ i, i < 4 → Z (q i) ∧ cT S hp (pt i) (q i)
section CW
variable {X : List Int32} {d : Nat} {hp : mm_H} {Q : Option Value → mm_H → Prop} {S Z : Nat → Prop}
theorem cRu.at {r a b N k c : Nat} {cs : List Nat} {K : Int32 → Prop} (R : cRu hp r cs a b N) (hk : cs[k]? = some c) (H : K (nI c)) : mw_ai 1000 (.ref (r + 1)) (nI k) hp K := by
  obtain ⟨junk, h, h', hl, hN, hj⟩ := R
  have hkl := (List.getElem?_eq_some_iff.mp hk).1
  exact ⟨r + 1, _, nI c, rfl, h', nI_pos' (by omega), by rw [nI_clamp (by omega), List.getElem?_append_left (by simpa using hkl), List.getElem?_map, hk]; rfl, H⟩
theorem cRu.ln {r a b N : Nat} {cs : List Nat} {K : Int32 → Prop} (R : cRu hp r cs a b N) (H : K (nI N)) : mw_ln (.ref (r + 1)) hp K := by
  obtain ⟨junk, h, h', hl, hN, hj⟩ := R
  refine ⟨r + 1, _, _, rfl, h', by decide, rfl, ?_⟩
  rw [show (cs.map mI ++ junk).length = N by simp; omega]; exact H
theorem cRu.le {r a b N : Nat} {cs : List Nat} (R : cRu hp r cs a b N) : cs.length ≤ N ∧ N ≤ 60 := by
  obtain ⟨junk, h, h', hl, hN, hj⟩ := R
  omega
theorem cRu.dis {r a b N o : Nat} {cs : List Nat} (R : cRu hp r cs a b N) (M : cRm hp o) : r ≠ o ∧ r ≠ o + 1 ∧ r + 1 ≠ o ∧ r + 1 ≠ o + 1 := by
  obtain ⟨junk, h, h', hl, hN, hj⟩ := R
  obtain ⟨x2, x3, x4, x5, x6, zs, m1, m2, m3⟩ := M
  refine ⟨?_, ?_, ?_, ?_⟩
  · rintro rfl; rw [m1] at h; cases h
  · rintro rfl; rw [m2] at h; cases h
  · rintro rfl; rw [m1] at h'; cases h'
  · intro e
    have : r = o := by omega
    subst this
    rw [m1] at h; cases h
/-- becomeNumber, in a room -/
theorem k40r {r : Nat} {n : Int32} (M : cRm hp r) (n1 : -999999 ≤ n) (n2 : n ≤ 999999) (H : ∀ hp', cE (fun x => x = r ∨ x = r + 1) hp hp' → cG 0 hp hp' → cRm hp' r → cSc hp' (some (.inl n)) r → Q (some (.int 1)) hp') : mm_R X (d + 1) 40 0 (mm_L0 40 [.ref r, .int n]) [] hp Q := by
  obtain ⟨x2, x3, x4, x5, x6, cs, h, h', hc⟩ := M
  have hl : r + 1 < hp.length := (List.getElem?_eq_some_iff.mp h').1
  refine k40 h h' (by omega) (by omega) n1 n2 (fun junk hj => H _ (c2_e (Or.inl rfl) (Or.inr rfl)) (c2_g h h' rfl (by simp; omega)) ⟨1, n, 0, 0, nI (mt_nf n).length, _, c2_0 hl, c2_1 hl, by simp; omega⟩ ⟨n, junk, c2_0 hl, c2_1 hl, fun _ => rfl, by omega⟩)
theorem k77_54 {rr N o pa : Nat} {is : List mIt} {i1 i5 : Int32} {r3 : Value} {rest : List Nat} (hS : ∀ q, S q → Z q) (ho : ¬ Z o) : ∀ (as : List Nat) (k : Nat) (v : Option mT) (r6 : Value) (hp : mm_H), cRl hp rr is N → cRm hp o → (rCs is).drop k = as ++ 400 :: rest → (∀ a ∈ as, 300 ≤ a ∧ a ≤ 308) → ((v = none ∧ r6 = .null) ∨ ∃ t q, v = some t ∧ r6 = .ref q ∧ cT S hp t q ∧ (Z q ∨ q = o) ∧ mt_g t) →
    (∀ t, rGo v as = some t → ∀ hp' q, cE (fun x => x = o ∨ x = o + 1) hp hp' → cG 0 hp hp' → cRm hp' o → cT S hp' t q → (Z q ∨ q = o) → mt_g t → Q (some (.ref q)) hp') →
    (rGo v as = none → ∀ hp', cE (fun x => x = o ∨ x = o + 1) hp hp' → cG 0 hp hp' → cRm hp' o → Q (some .null) hp') →
    mm_R X (d + 2) 77 54 [some (.ref rr), some (.int i1), some (.ref pa), some r3, some (.ref o), some (.int i5), some r6, some (.int (nI k))] [] hp Q := by
  intro as
  induction as with
  | nil =>
    intro k v r6 hp R M hk ha hv H1 H0
    obtain ⟨hcl, hN⟩ := R.le
    obtain ⟨junk, h, _⟩ := id R
    have hkl : k < (rCs is).length := by
      rcases Nat.lt_or_ge k (rCs is).length with g | g
      · exact g
      · rw [List.drop_eq_nil_of_le g] at hk; cases hk
    have hk4 : (rCs is)[k]? = some 400 := by
      have := List.drop_eq_getElem_cons hkl
      rw [hk] at this
      rw [List.getElem?_eq_getElem hkl, ← (List.cons.inj this).1]
    have fin : mm_isr r6 = true ∧ mw_nr r6 ∧ Q (some r6) hp := by
      rcases hv with ⟨rfl, rfl⟩ | ⟨t, q, rfl, rfl, T, z, g⟩
      · exact ⟨rfl, Or.inl rfl, H0 rfl hp cE.rf cG.rf M⟩
      · exact ⟨rfl, Or.inr ⟨_, rfl⟩, H1 t rfl hp q cE.rf cG.rf M T z g⟩
    refine w77_54 ⟨rr, _, _, rfl, h, rfl, pk_le (rCs is).length k (fun g => absurd g (by omega)) (fun _ => ⟨rr, _, _, rfl, h, rfl, cRu.ln R (pk_le N k (fun g => absurd g (by omega)) (fun _ => ⟨rr, _, _, rfl, h, rfl, cRu.at R hk4 ⟨fun _ => fin, fun g => absurd rfl g⟩⟩))⟩)⟩
  | cons a as ih =>
    intro k v r6 hp R M hk ha hv H1 H0
    obtain ⟨hcl, hN⟩ := R.le
    obtain ⟨junk, h, _⟩ := id R
    have hkl : k < (rCs is).length := by
      rcases Nat.lt_or_ge k (rCs is).length with g | g
      · exact g
      · rw [List.drop_eq_nil_of_le g] at hk; cases hk
    have hdr := List.drop_eq_getElem_cons hkl
    rw [hk, List.cons_append] at hdr
    have hk4 : (rCs is)[k]? = some a := by rw [List.getElem?_eq_getElem hkl, ← (List.cons.inj hdr).1]
    have hk1 : (rCs is).drop (k + 1) = as ++ 400 :: rest := (List.cons.inj hdr).2.symm
    obtain ⟨a1, a2⟩ := ha a List.mem_cons_self
    have ha' : ∀ x ∈ as, 300 ≤ x ∧ x ≤ 308 := fun x hx => ha x (List.mem_cons_of_mem _ hx)
    refine w77_54 ⟨rr, _, _, rfl, h, rfl, pk_le (rCs is).length k (fun g => absurd g (by omega)) (fun _ => ⟨rr, _, _, rfl, h, rfl, cRu.ln R (pk_le N k (fun g => absurd g (by omega)) (fun _ => ⟨rr, _, _, rfl, h, rfl, cRu.at R hk4 (pk_eq a 400 (fun g => absurd g (by omega)) (fun _ => ?_))⟩))⟩)⟩
    rcases hv with ⟨rfl, rfl⟩ | ⟨t, q, rfl, rfl, T, z, g⟩
    · exact ⟨rfl, Or.inl ⟨rfl, H0 (rGo_none _) hp cE.rf cG.rf M⟩⟩
    · obtain ⟨L, I, n, hc, -⟩ := T.cell
      obtain ⟨gz, g8⟩ := mt_g_sz g
      refine ⟨rfl, Or.inr ⟨⟨_, rfl⟩, ⟨rr, _, _, rfl, h, rfl, cRu.at R hk4 (pk_ne a 308 (fun e => ?_) (fun e => ?_))⟩⟩⟩
      · subst e
        have eS : rSt (some t) 308 = if 2 ≤ mt_k t then some (.leaf (some (.inl (nI (mt_sz t))))) else none := by unfold rSt; rw [Option.bind_some, if_pos rfl]
        rw [rGo_cons, eS] at H1 H0
        refine ⟨⟨q, _, rfl, hc⟩, k78 T ⟨_, rfl, ?_⟩⟩
        by_cases h2 : 2 ≤ mt_k t
        · rw [if_pos h2] at H1 H0 ⊢
          refine ⟨fun g => absurd g (by decide), fun _ => ⟨rfl, ⟨q, _, _, rfl, hc, rfl, ?_⟩⟩⟩
          obtain ⟨x2, x3, x4, x5, x6, zs, m1, m2, m3⟩ := id M
          have rg := (mn_rg (a := mt_sz t) (by omega)).1
          refine ⟨⟨o, _, rfl, m1⟩, k40r M rg.1 rg.2 (fun hp1 E1 G1 M1 T1 => ⟨_, rfl, fun g => absurd g (by decide), fun _ => ?_⟩)⟩
          obtain ⟨d1, d2, d3, d4⟩ := cRu.dis R M
          rw [nI_1]
          have T1' : cT S hp1 (.leaf (some (.inl (nI (mt_sz t))))) o := T1
          have lg : mt_lg (some (.inl (nI (mt_sz t)))) := rg
          refine ih (k + 1) _ _ hp1 (cRu.keep R E1 (by omega) (by omega)) M1 hk1 ha' (Or.inr ⟨_, o, rfl, rfl, T1', Or.inr rfl, 3, by omega, mt_gl_leaf lg⟩) ?_ ?_
          · intro t' ht hp2 q2 E2 G2 M2 T2 z2 g2
            exact H1 t' ht hp2 q2 (E1.tr E2) (G1.tr G2) M2 T2 z2 g2
          · intro hn hp2 E2 G2 M2
            exact H0 hn hp2 (E1.tr E2) (G1.tr G2) M2
        · rw [if_neg h2] at H1 H0 ⊢
          refine ⟨fun _ => ?_, fun g => absurd rfl g⟩
          rw [nI_1]
          exact ih (k + 1) none .null hp R M hk1 ha' (Or.inl ⟨rfl, rfl⟩) H1 H0
      · have eS : rSt (some t) a = (mt_els t)[a - 300]? := by unfold rSt; rw [Option.bind_some, if_neg e]
        rw [rGo_cons, eS] at H1 H0
        refine ⟨rr, _, _, rfl, h, rfl, cRu.at R hk4 ⟨⟨q, _, rfl, hc⟩, ?_⟩⟩
        rw [show (300 : Int32) = nI 300 from rfl, pk_sub a1]
        refine k67 T (by omega) g8 (fun hi q' s' T' => ⟨_, rfl, rfl, ?_⟩) (fun hge => ⟨_, rfl, rfl, ?_⟩)
        · rw [nI_1]
          rw [List.getElem?_eq_getElem hi] at H1 H0
          exact ih (k + 1) _ _ hp R M hk1 ha' (Or.inr ⟨_, q', rfl, rfl, T', Or.inl (hS q' s'), mt_g_el g (List.getElem_mem hi)⟩) H1 H0
        · rw [nI_1]
          rw [List.getElem?_eq_none hge] at H1 H0
          exact ih (k + 1) none .null hp R M hk1 ha' (Or.inl ⟨rfl, rfl⟩) H1 H0
/-- reach -/
theorem k77 {rr N o pa k qs : Nat} {is : List mIt} {p : Nat × List Nat} {rest : List Nat} {pt : Nat → mT} {self : mT} (hS : ∀ q, S q → Z q) (ho : ¬ Z o) (R : cRl hp rr is N) (M : cRm hp o) (hk : (rCs is).drop k = rEn (.inr p) ++ rest) (hp' : rIo (.inr p)) (PT : cPt S Z hp pa pt) (hpt : ∀ i, mt_g (pt i)) (Zs : Z qs) (Ts : cT S hp self qs) (hs : mt_g self)
    (H1 : ∀ t, rV pt self p = some t → ∀ hp' q, cE (fun x => x = o ∨ x = o + 1) hp hp' → cG 0 hp hp' → cRm hp' o → cT S hp' t q → (Z q ∨ q = o) → mt_g t → Q (some (.ref q)) hp')
    (H0 : rV pt self p = none → ∀ hp', cE (fun x => x = o ∨ x = o + 1) hp hp' → cG 0 hp hp' → cRm hp' o → Q (some .null) hp') : mm_R X (d + 2) 77 0 (mm_L0 77 [.ref rr, .int (nI k), .ref pa, .ref qs, .ref o]) [] hp Q := by
  obtain ⟨hcl, hN⟩ := R.le
  obtain ⟨junk, h, _⟩ := id R
  obtain ⟨b1, b2, b3⟩ := hp'
  have hkl : k < (rCs is).length := by
    rcases Nat.lt_or_ge k (rCs is).length with g | g
    · exact g
    · rw [List.drop_eq_nil_of_le g] at hk; cases hk
  have hdr := List.drop_eq_getElem_cons hkl
  rw [hk, rEn, List.cons_append] at hdr
  have hk4 : (rCs is)[k]? = some p.1 := by rw [List.getElem?_eq_getElem hkl, ← (List.cons.inj hdr).1]
  have hk1 : (rCs is).drop (k + 1) = p.2 ++ 400 :: rest := by rw [← (List.cons.inj hdr).2]; simp
  obtain ⟨q, hq, hqs⟩ := PT
  refine w77_0 (pk_lt k 0 (fun g => absurd g (by omega)) (fun _ => ⟨rr, _, _, rfl, h, rfl, cRu.ln R (pk_lt k N (fun _ => ⟨rr, _, _, rfl, h, rfl, cRu.at R hk4 ?_⟩) (fun g => absurd g (by omega)))⟩))
  rw [show (200 : Int32) = nI 200 from rfl, pk_sub b1, nI_1]
  refine pk_lt (p.1 - 200) 0 (fun g => absurd g (by omega)) (fun _ => ⟨rfl, pa, _, _, rfl, hq, by decide, rfl, pk_le 4 (p.1 - 200) (fun hge => ⟨rfl, ?_⟩) (fun hlt => ?_)⟩)
  · have ev : rV pt self p = rGo (some self) p.2 := by unfold rV; rw [if_neg (by omega)]
    rw [ev] at H1 H0
    exact k77_54 (Z := Z) hS ho p.2 (k + 1) (some self) _ hp R M hk1 b3 (Or.inr ⟨self, qs, rfl, rfl, Ts, Or.inl Zs, hs⟩) H1 H0
  · have ev : rV pt self p = rGo (some (pt (p.1 - 200))) p.2 := by unfold rV; rw [if_pos (by omega)]
    rw [ev] at H1 H0
    obtain ⟨z, T⟩ := hqs (p.1 - 200) hlt
    refine ⟨pa, _, _, .ref (q (p.1 - 200)), rfl, hq, by decide, rfl, nI_pos' (by omega), ?_, rfl, ?_⟩
    · rw [nI_clamp (by omega)]
      have : p.1 - 200 = 0 ∨ p.1 - 200 = 1 ∨ p.1 - 200 = 2 ∨ p.1 - 200 = 3 := by omega
      rcases this with e | e | e | e <;> rw [e] <;> rfl
    · exact k77_54 (Z := Z) hS ho p.2 (k + 1) (some (pt (p.1 - 200))) _ hp R M hk1 b3 (Or.inr ⟨_, _, rfl, rfl, T, Or.inl z, hpt _⟩) H1 H0
end CW
