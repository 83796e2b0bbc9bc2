/-! THE CLASS LOOKS FOR A STEP -/
def nd (st : mStp) (p i o : Nat) : Bool := (List.range p).any (fun p' => (sSr st p').contains (10 + o)) || ((sSr st p).take i).contains (10 + o)
theorem nd_0 (st : mStp) : nd st 0 0 = fun _ => false := by funext o; simp [nd]
theorem nd_p (st : mStp) (p : Nat) : nd st p (sSr st p).length = nd st (p + 1) 0 := by
  funext o
  simp [nd, List.range_succ]
theorem nd_lo {st : mStp} {p i : Nat} (h : i < (sSr st p).length) (hc : (sSr st p)[i] < 10) : nd st p (i + 1) = nd st p i := by
  funext o
  unfold nd
  rw [List.take_succ_eq_append_getElem h]
  congr 1
  rw [Bool.eq_iff_iff, List.contains_iff_mem, List.contains_iff_mem, List.mem_append, List.mem_singleton]
  constructor
  · rintro (g | g)
    · exact g
    · omega
  · exact Or.inl
theorem nd_hi {st : mStp} {p i : Nat} (h : i < (sSr st p).length) (hc : 10 ≤ (sSr st p)[i]) : nd st p (i + 1) = up (nd st p i) ((sSr st p)[i] - 10) true := by
  funext o
  unfold nd up
  rw [List.take_succ_eq_append_getElem h]
  by_cases e : o = (sSr st p)[i] - 10
  · rw [if_pos e, Bool.or_eq_true]
    right
    rw [List.contains_iff_mem, List.mem_append, List.mem_singleton]
    right; omega
  · rw [if_neg e]
    congr 1
    rw [Bool.eq_iff_iff, List.contains_iff_mem, List.contains_iff_mem, List.mem_append, List.mem_singleton]
    constructor
    · rintro (g | g)
      · exact g
      · omega
    · exact Or.inl
theorem mw_avr {v : Value} {a t i : Nat} {l : List Value} {hp : mm_H} {K : Value → Prop} {x : Int32} (h : hp[a]? = some (t, l)) (ht : 1000 ≤ t) (hq : mm_isq t = true) (hi : l[i]? = some v) (hx : x = nI i) (hi2 : i < 2 ^ 31) (H : K v) : mw_av (.ref a) x hp K :=
  ⟨_, _, _, v, rfl, h, ht, hq, by rw [hx]; exact nI_pos' hi2, by rw [hx, nI_clamp hi2]; exact hi, H⟩
theorem mw_air {y : Int32} {a t i : Nat} {l : List Value} {hp : mm_H} {K : Int32 → Prop} {x : Int32} (h : hp[a]? = some (t, l)) (hi : l[i]? = some (.int y)) (hx : x = nI i) (hi2 : i < 2 ^ 31) (H : K y) : mw_ai t (.ref a) x hp K :=
  ⟨_, _, y, rfl, h, by rw [hx]; exact nI_pos' hi2, by rw [hx, nI_clamp hi2]; exact hi, H⟩
section CSE
variable {X : List Int32} {d : Nat} {hp : mm_H} {Q : Option Value → mm_H → Prop}
theorem k55_22 {r tr p : Nat} {st : mStp} {to : mTo} (hs : sOk st) (ST : cSt hp r tr st) (hp4 : p < 4)
    (H : ∀ o3 o4, mm_R X (d + 1) 55 4 [some (.ref r), some (.int (nI (bM (nd st (p + 1) 0)))), some (.int (nI (p + 1))), o3, o4] [] hp Q) : ∀ (m i : Nat) (o4 : Option Value), i + m = (sSr st p).length →
    mm_R X (d + 1) 55 22 [some (.ref r), some (.int (nI (bM (nd st p i)))), some (.int (nI p)), some (.int (nI i)), o4] [] hp Q := by
  obtain ⟨cond, srcs, ps, rs, h0, h1, hl, h2, h3, _⟩ := id ST
  have h33 := hs.1 p
  have r4 : (row4 (fun p => Value.int (nI (sSr st p).length)))[p]? = some (.int (nI (sSr st p).length)) := by
    match p, hp4 with
    | 0, _ => rfl
    | 1, _ => rfl
    | 2, _ => rfl
    | 3, _ => rfl
  intro m
  induction m with
  | zero =>
    intro i o4 hm
    have : i = (sSr st p).length := by omega
    subst this
    refine w55_22 ⟨_, _, _, rfl, h0, rfl, mw_air h3 r4 rfl (by omega) ⟨fun _ => ?_, fun g => absurd (Int32.le_refl _) g⟩⟩
    rw [nI_1, nd_p]
    exact H _ _
  | succ m ih =>
    intro i o4 hm
    have hi : i < (sSr st p).length := by omega
    have hc := h33.2 _ (List.getElem_mem hi)
    have g := h2 p hp4 i hi
    refine w55_22 ⟨_, _, _, rfl, h0, rfl, mw_air h3 r4 rfl (by omega) (pk_le (sSr st p).length i (fun g => absurd g (by omega)) (fun _ => pk_le 3 i (fun g => absurd g (by omega)) (fun _ => ⟨_, _, _, rfl, h0, rfl, mw_air h1 g ?_ (by omega) (pk_lt (sSr st p)[i] 10 (fun hlo => ?_) (fun hhi => ?_))⟩)))⟩
    · rw [show (3 : Int32) = nI 3 from rfl, pk_mul, nI_add, Nat.mul_comm]
    · rw [nI_1, ← nd_lo hi hlo]
      exact ih (i + 1) _ (by omega)
    · rw [nI_1, show (10 : Int32) = nI 10 from rfl, pk_sub (by omega), bM_or (by omega), ← nd_hi hi hhi]
      exact ih (i + 1) _ (by omega)
theorem k55_4 {r tr : Nat} {st : mStp} {to : mTo} (hs : sOk st) (ST : cSt hp r tr st) (TO : cTo hp tr to) (H : Q (some (.int (nI (bM (nd st to.2.length 0))))) hp) : ∀ (m p : Nat) (o3 o4 : Option Value), p + m = to.2.length →
    mm_R X (d + 1) 55 4 [some (.ref r), some (.int (nI (bM (nd st p 0)))), some (.int (nI p)), o3, o4] [] hp Q := by
  have n4 := TO.le
  obtain ⟨cond, srcs, ps, rs, h0, _⟩ := id ST
  obtain ⟨j1, j2, j3, j4, t0, _⟩ := id TO
  intro m
  induction m with
  | zero =>
    intro p o3 o4 hm
    have : p = to.2.length := by omega
    subst this
    exact w55_4 ⟨_, _, _, rfl, h0, rfl, _, _, _, rfl, t0, rfl, ⟨fun _ => H, fun g => absurd (Int32.le_refl _) g⟩⟩
  | succ m ih =>
    intro p o3 o4 hm
    refine w55_4 ⟨_, _, _, rfl, h0, rfl, _, _, _, rfl, t0, rfl, pk_le to.2.length p (fun g => absurd g (by omega)) (fun _ => pk_le 4 p (fun g => absurd g (by omega)) (fun _ => ?_))⟩
    exact k55_22 (to := to) hs ST (by omega) (fun o3 o4 => ih (p + 1) o3 o4 (by omega)) (sSr st p).length 0 _ (by omega)
theorem k55 {r tr : Nat} {st : mStp} {to : mTo} (hs : sOk st) (ST : cSt hp r tr st) (TO : cTo hp tr to) (H : Q (some (.int (nI (bM (nd st to.2.length 0))))) hp) : mm_R X (d + 1) 55 0 (mm_L0 55 [.ref r]) [] hp Q := by
  refine w55_0 ?_
  have := k55_4 (X := X) (d := d) (Q := Q) hs ST TO H to.2.length 0 none none (by omega)
  rw [nd_0] at this
  exact this
theorem nd_aNd {E : mEv} {s o : Nat} : nd (eSt E s) (eTo E s).2.length 0 o = aNd E s o := by
  unfold nd aNd
  simp
/-- pure: what is known of the steps and tools -/
def eOk (E : mEv) : Prop := (∀ i, i < (eTl E).length → tOk ((eTl E).getD i (0, [])) ∧ (aOrd ((eTl E).getD i (0, [])).2).length = ((eTl E).getD i (0, [])).2.length) ∧ (∀ i, i < (eSp E).length → sOk (eSt E i)) ∧ ∀ c, c < 3 → mt_gd (eIn E c)
theorem cEn_k55 {E : mEv} {tr sr : Nat → Nat} {s : Nat} (hE : eOk E) (EN : cEn hp E tr sr) (hs : s < (eSp E).length) (H : Q (some (.int (nI (bM (aNd E s))))) hp) : mm_R X (d + 1) 55 0 (mm_L0 55 [.ref (sr s)]) [] hp Q := by
  obtain ⟨_, ⟨m, b1, b2, b3, b4⟩, ⟨n, c1, c2, c3, c4⟩⟩ := EN
  obtain ⟨e1, e2, e3, e4⟩ := c4 s hs
  refine k55 (hE.2.1 s hs) e4 (b4 _ e3).2.2 ?_
  have : nd (eSt E s) (eTo E s).2.length 0 = aNd E s := funext (fun o => nd_aNd)
  show Q (some (.int (nI (bM (nd (eSt E s) (eTo E s).2.length 0))))) hp
  rw [this]; exact H
def dn (R : mRn) (i o : Nat) : Bool := Nat.blt o i && gPh (nPg R o) == 2
theorem k60_4 {R : mRn} {JL : Nat → List Value} (RN : cRn hp R JL) (hk : nKn R ≤ 6) (hph : ∀ s, gPh (nPg R s) ≤ 3) (H : ∀ o3 o4, mm_R X (d + 1) 60 43 [some (.ref 12), some (.int (nI (bM (dn R (nKn R))))), some (.int 0), o3, o4] [] hp Q) : ∀ (m i : Nat) (o3 o4 : Option Value), i + m = nKn R →
    mm_R X (d + 1) 60 4 [some (.ref 12), some (.int (nI (bM (dn R i)))), some (.int (nI i)), o3, o4] [] hp Q := by
  obtain ⟨⟨srr, irr, r0, _⟩, r1, _, r3⟩ := RN
  intro m
  induction m with
  | zero =>
    intro i o3 o4 hm
    have : i = nKn R := by omega
    subst this
    exact w60_4 ⟨_, _, _, rfl, r0, rfl, ⟨fun _ => H _ _, fun g => absurd (Int32.le_refl _) g⟩⟩
  | succ m ih =>
    intro i o3 o4 hm
    obtain ⟨lv, jc, oc, nj, tk, out, rl, ⟨ls, p0, _⟩, _⟩ := r3 i (by omega)
    have hph := hph i
    have e2 : gPh (nPg R i) ≠ 2 → dn R (i + 1) = dn R i := fun h => by
      funext o
      unfold dn
      by_cases e : o = i
      · subst e
        have : (gPh (nPg R o) == 2) = false := by simpa using h
        rw [this, Bool.and_false, Bool.and_false]
      · have : Nat.blt o (i + 1) = Nat.blt o i := by rw [Bool.eq_iff_iff, Nat.blt_eq, Nat.blt_eq]; omega
        rw [this]
    have e3 : gPh (nPg R i) = 2 → dn R (i + 1) = up (dn R i) i true := fun h => by
      funext o
      unfold dn up
      by_cases e : o = i
      · subst e
        rw [if_pos rfl, h]
        have : Nat.blt o (o + 1) = true := by rw [Nat.blt_eq]; omega
        rw [this]; rfl
      · rw [if_neg e]
        have : Nat.blt o (i + 1) = Nat.blt o i := by rw [Bool.eq_iff_iff, Nat.blt_eq, Nat.blt_eq]; omega
        rw [this]
    refine w60_4 ⟨_, _, _, rfl, r0, rfl, pk_le (nKn R) i (fun g => absurd g (by omega)) (fun _ => ⟨_, _, _, rfl, r0, rfl, mw_avr r1 (by omega) rfl (cPg_at (by omega)) rfl (by omega) ⟨_, _, _, rfl, p0, rfl, pk_ne (gPh (nPg R i)) 2 (fun h => ?_) (fun h => ?_)⟩⟩)⟩
    · rw [nI_1, bM_or (by omega), ← e3 h]
      exact ih (i + 1) _ _ (by omega)
    · rw [nI_1, bM_or0, ← e2 h]
      exact ih (i + 1) _ _ (by omega)
theorem k60_43 {R : mRn} {JL : Nat → List Value} {E : mEv} {tr sr : Nat → Nat} (hE : eOk E) (EN : cEn hp E tr sr) (RN : cRn hp R JL) (hk : nKn R ≤ (eSp E).length) (hk6 : (eSp E).length ≤ 6) (hst : nSt R ≠ 0) (hph : ∀ s, gPh (nPg R s) ≤ 3) (hnd : ∀ s o, s < nKn R → aNd E s o = true → o < nKn R) : ∀ (m i : Nat) (o3 o4 : Option Value), i + m = nKn R →
    (∀ s, (List.range' i m).find? (aCan E R) = some s → Q (some (.int (nI s))) hp) → ((List.range' i m).find? (aCan E R) = none → Q (some (.int (-1))) hp) →
    mm_R X (d + 2) 60 43 [some (.ref 12), some (.int (nI (bM (dn R (nKn R))))), some (.int (nI i)), o3, o4] [] hp Q := by
  obtain ⟨⟨srr, irr, r0, _, _, r2⟩, r1, _, r3⟩ := id RN
  obtain ⟨rfl, rfl⟩ := r2 hst
  obtain ⟨_, _, ⟨n, c1, c2, c3, c4⟩⟩ := id EN
  intro m
  induction m with
  | zero =>
    intro i o3 o4 hm H1 H0
    have : i = nKn R := by omega
    subst this
    exact w60_43 ⟨_, _, _, rfl, r0, rfl, ⟨fun _ => H0 rfl, fun g => absurd (Int32.le_refl _) g⟩⟩
  | succ m ih =>
    intro i o3 o4 hm H1 H0
    rw [List.range'_succ, List.find?_cons] at H1 H0
    obtain ⟨lv, jc, oc, nj, tk, out, rl, ⟨ls, p0, _⟩, _⟩ := r3 i (by omega)
    obtain ⟨e1, e2, e3, e4⟩ := c4 i (by omega)
    have hph := hph i
    have key : aCan E R i = true ↔ gPh (nPg R i) = 0 ∧ (nI (bM (aNd E i)) &&& (nI (bM (dn R (nKn R))) ^^^ (-1 : Int32))) = 0 := by
      unfold aCan
      rw [bM_sub, Bool.and_eq_true, beq_iff_eq, List.all_eq_true]
      constructor
      · rintro ⟨a, b⟩
        refine ⟨a, fun o ho hn => ?_⟩
        have hlt := hnd i o (by omega) hn
        have := b o (List.mem_range.mpr hlt)
        rw [hn, Bool.not_true, Bool.false_or] at this
        unfold dn
        rw [Bool.and_eq_true, Nat.blt_eq]
        exact ⟨hlt, this⟩
      · rintro ⟨a, b⟩
        refine ⟨a, fun o ho => ?_⟩
        have ho := List.mem_range.mp ho
        cases hn : aNd E i o with
        | false => rfl
        | true =>
          have := b o (by omega) hn
          unfold dn at this
          rw [Bool.and_eq_true] at this
          rw [Bool.not_true, Bool.false_or]; exact this.2
    refine w60_43 ⟨_, _, _, rfl, r0, rfl, pk_le (nKn R) i (fun g => absurd g (by omega)) (fun _ => ⟨_, _, _, rfl, r0, rfl, mw_avr c1 (by omega) rfl e1 rfl (by omega) ⟨rfl, Or.inr ⟨⟨_, rfl⟩, _, _, _, rfl, r0, rfl, mw_avr r1 (by omega) rfl (cPg_at (by omega)) rfl (by omega) ⟨_, _, _, rfl, p0, rfl, pk_ne (gPh (nPg R i)) 0 (fun h => ?_) (fun h => ?_)⟩⟩⟩⟩)⟩
    · refine w60_79 ⟨fun g => absurd g (by decide), fun _ => ⟨rfl, ?_, ?_⟩⟩
      · obtain ⟨cond, srcs, ps, rs, h0, _⟩ := id e4
        exact ⟨_, _, rfl, h0⟩
      · refine cEn_k55 hE EN (by omega) ⟨_, rfl, fun g => ?_, fun g => ?_⟩
        · have hn : aCan E R i = false := by
            cases hc : aCan E R i with
            | false => rfl
            | true => exact absurd (key.mp hc).2 g
          rw [hn] at H1 H0
          rw [nI_1]
          exact ih (i + 1) _ _ (by omega) H1 H0
        · rw [key.mpr ⟨h, g⟩] at H1
          exact H1 i rfl
    · refine w60_79 ⟨fun _ => ?_, fun g => absurd rfl g⟩
      have hn : aCan E R i = false := by
        cases hc : aCan E R i with
        | false => rfl
        | true => exact absurd (key.mp hc).1 h
      rw [hn] at H1 H0
      rw [nI_1]
      exact ih (i + 1) _ _ (by omega) H1 H0
theorem k60 {R : mRn} {JL : Nat → List Value} {E : mEv} {tr sr : Nat → Nat} (hE : eOk E) (EN : cEn hp E tr sr) (RN : cRn hp R JL) (hk : nKn R ≤ (eSp E).length) (hst : nSt R ≠ 0) (hph : ∀ s, gPh (nPg R s) ≤ 3) (hnd : ∀ s o, s < nKn R → aNd E s o = true → o < nKn R)
    (H1 : ∀ s, aNx E R = some s → Q (some (.int (nI s))) hp) (H0 : aNx E R = none → Q (some (.int (-1))) hp) : mm_R X (d + 2) 60 0 (mm_L0 60 [.ref 12]) [] hp Q := by
  have hk6 : (eSp E).length ≤ 6 := by obtain ⟨_, _, ⟨n, c1, c2, c3, c4⟩⟩ := id EN; exact c3
  refine w60_0 ?_
  have e0 : dn R 0 = fun _ => false := by funext o; rfl
  have := k60_4 (X := X) (d := d + 1) (Q := Q) RN (by omega) hph (fun o3 o4 => k60_43 hE EN RN hk hk6 hst hph hnd (nKn R) 0 o3 o4 (by omega) (by rw [← List.range_eq_range']; exact H1) (by rw [← List.range_eq_range']; exact H0)) (nKn R) 0 none none (by omega)
  rw [e0] at this
  exact this
end CSE
