/-! THE CLASS: start -/
def cSr (hp : mm_H) (E : mEv) : Prop := hp[0]? = some (0, [.ref 1, .ref 3, .ref 10, .int (nI (eTl E).length), .ref 11, .int (nI (eSp E).length), .ref 12])
theorem aFs_ge {E : mEv} {f : Nat → Bool} {s n o : Nat} (hs : s < n) (ho : n ≤ o) (h : f o = false) : aFs E f s o = false := by
  unfold aFs
  split
  · rw [up_ne (by omega)]; exact h
  · exact h
theorem aFr_ge {E : mEv} {o : Nat} (ho : (eSp E).length ≤ o) : ∀ (l : List Nat) (f : Nat → Bool), (∀ s ∈ l, s < (eSp E).length) → f o = false → l.foldl (aFs E) f o = false
  | [], f, _, h => h
  | s :: l, f, hl, h => aFr_ge ho l (aFs E f s) (fun x hx => hl x (List.mem_cons_of_mem _ hx)) (aFs_ge (hl s (by simp)) ho h)
theorem aFn_ge {E : mEv} {o : Nat} (ho : (eSp E).length ≤ o) : ∀ n, aFn E n o = false
  | 0 => rfl
  | n + 1 => aFr_ge ho _ _ (fun s hs => List.mem_range.mp hs) (aFn_ge ho n)
section CST
variable {X : List Int32} {d : Nat} {hp : mm_H} {Q : Option Value → mm_H → Prop}
theorem k16 {R : mRn} {JL : Nat → List Value} (h : cRn hp R JL) (h3 : nSt R ≤ 3) (H : Q (some (.int (if nSt R = 1 then 1 else 0))) hp) : mm_R X (d + 1) 16 0 (mm_L0 16 [.ref 12]) [] hp Q := by
  obtain ⟨s1, i1', r12, _⟩ := h.1
  refine w16_0 ⟨_, _, _, rfl, r12, rfl, pk_ne (nSt R) 1 (fun e => ?_) (fun e => ?_)⟩
  · rw [if_pos e] at H; exact H
  · rw [if_neg e] at H; exact H
theorem k54_11 {E : mEv} {tr sr : Nat → Nat} (hE : eOk E) (S : cSr hp E) (EN : cEn hp E tr sr) : ∀ (m s : Nat) (o3 : Option Value), s + m = (eSp E).length →
    ((List.range' s m).any (fun s => (List.range 6).any (fun o => aNd E s o && Nat.ble (eSp E).length o)) = true → Q (some (.int 1)) hp) → ((List.range' s m).any (fun s => (List.range 6).any (fun o => aNd E s o && Nat.ble (eSp E).length o)) = false → Q (some (.int 0)) hp) →
    mm_R X (d + 2) 54 11 [some (.ref 0), some (.int (nI (bM (fun o => Nat.blt o (eSp E).length)))), some (.int (nI s)), o3] [] hp Q := by
  obtain ⟨_, _, ⟨n, c1, c2, c3, c4⟩⟩ := id EN
  intro m
  induction m with
  | zero =>
    intro s o3 hm H1 H0
    have : s = (eSp E).length := by omega
    subst this
    exact w54_11 ⟨_, _, _, rfl, S, rfl, ⟨fun _ => H0 rfl, fun g => absurd (Int32.le_refl _) g⟩⟩
  | succ m ih =>
    intro s o3 hm H1 H0
    rw [List.range'_succ, List.any_cons] at H1 H0
    obtain ⟨e1, e2, e3, e4⟩ := c4 s (by omega)
    obtain ⟨cond, srcs, ps, rs, h0, _⟩ := id e4
    have key : (nI (bM (aNd E s)) &&& (nI (bM (fun o => Nat.blt o (eSp E).length)) ^^^ (-1 : Int32))) = 0 ↔ ((List.range 6).any (fun o => aNd E s o && Nat.ble (eSp E).length o)) = false := by
      rw [bM_sub, List.any_eq_false]
      constructor
      · intro h o ho
        have ho := List.mem_range.mp ho
        rw [Bool.and_eq_true, Nat.ble_eq]
        rintro ⟨a, b⟩
        have := h o ho a
        rw [Nat.blt_eq] at this
        omega
      · intro h o ho a
        have := h o (List.mem_range.mpr ho)
        rw [Bool.and_eq_true, Nat.ble_eq] at this
        rw [Nat.blt_eq]
        rcases Nat.lt_or_ge o (eSp E).length with g | g
        · exact g
        · exact absurd ⟨a, g⟩ this
    refine w54_11 ⟨_, _, _, rfl, S, rfl, pk_le (eSp E).length s (fun g => absurd g (by omega)) (fun _ => ⟨_, _, _, rfl, S, rfl, mw_avr c1 (by omega) rfl e1 rfl (by omega) ⟨rfl, Or.inr ⟨⟨_, rfl⟩, ⟨_, _, rfl, h0⟩, cEn_k55 hE EN (by omega) ⟨_, rfl, fun g => ?_, fun g => ?_⟩⟩⟩⟩)⟩
    · rw [key.mp g, Bool.false_or] at H1 H0
      rw [nI_1]
      exact ih (s + 1) _ (by omega) H1 H0
    · cases hb : (List.range 6).any (fun o => aNd E s o && Nat.ble (eSp E).length o) with
      | false => exact absurd (key.mpr hb) g
      | true =>
        rw [hb, Bool.true_or] at H1
        exact H1 rfl
theorem k54 {E : mEv} {tr sr : Nat → Nat} (hE : eOk E) (S : cSr hp E) (EN : cEn hp E tr sr) (H : Q (some (.int (if aMiss E = true then 1 else 0))) hp) : mm_R X (d + 2) 54 0 (mm_L0 54 [.ref 0]) [] hp Q := by
  obtain ⟨_, _, ⟨n, c1, c2, c3, c4⟩⟩ := id EN
  refine w54_0 ⟨_, _, _, rfl, S, rfl, ?_⟩
  dsimp only
  rw [bM_all _ (by omega)]
  refine k54_11 hE S EN (eSp E).length 0 none (by omega) (fun h => ?_) (fun h => ?_)
  · rw [← List.range_eq_range'] at h
    have : aMiss E = true := h
    rw [if_pos this] at H; exact H
  · rw [← List.range_eq_range'] at h
    have : aMiss E = false := h
    rw [this] at H; exact H
theorem k56_14 {E : mEv} {tr sr : Nat → Nat} {i2 : Int32} (hE : eOk E) (S : cSr hp E) (EN : cEn hp E tr sr) : ∀ (m s : Nat) (f : Nat → Bool) (o4 : Option Value), s + m = (eSp E).length →
    (∀ o3 o4, mm_R X (d + 2) 56 4 [some (.ref 0), some (.int (nI (bM ((List.range' s m).foldl (aFs E) f)))), some (.int (i2 + 1)), o3, o4] [] hp Q) →
    mm_R X (d + 2) 56 14 [some (.ref 0), some (.int (nI (bM f))), some (.int i2), some (.int (nI s)), o4] [] hp Q := by
  obtain ⟨_, _, ⟨n, c1, c2, c3, c4⟩⟩ := id EN
  intro m
  induction m with
  | zero =>
    intro s f o4 hm H
    have : s = (eSp E).length := by omega
    subst this
    exact w56_14 ⟨_, _, _, rfl, S, rfl, ⟨fun _ => H _ _, fun g => absurd (Int32.le_refl _) g⟩⟩
  | succ m ih =>
    intro s f o4 hm H
    rw [List.range'_succ, List.foldl_cons] at H
    obtain ⟨e1, e2, e3, e4⟩ := c4 s (by omega)
    obtain ⟨cond, srcs, ps, rs, h0, _⟩ := id e4
    have key : (nI (bM (aNd E s)) &&& (nI (bM f) ^^^ (-1 : Int32))) = 0 ↔ ((List.range 6).all (fun o => !aNd E s o || f o)) = true := by
      rw [bM_sub, List.all_eq_true]
      constructor
      · intro h o ho
        have ho := List.mem_range.mp ho
        cases ha : aNd E s o with
        | false => rfl
        | true => rw [h o ho ha]; rfl
      · intro h o ho a
        have := h o (List.mem_range.mpr ho)
        rw [a] at this
        simpa using this
    refine w56_14 ⟨_, _, _, rfl, S, rfl, pk_le (eSp E).length s (fun g => absurd g (by omega)) (fun _ => ⟨_, _, _, rfl, S, rfl, mw_avr c1 (by omega) rfl e1 rfl (by omega) ⟨rfl, Or.inr ⟨⟨_, rfl⟩, ⟨_, _, rfl, h0⟩, cEn_k55 hE EN (by omega) ⟨_, rfl, fun g => ?_, fun g => ?_⟩⟩⟩⟩)⟩
    · have : aFs E f s = f := if_neg (fun h => g (key.mpr h))
      rw [this] at H
      rw [nI_1]
      exact ih (s + 1) f _ (by omega) H
    · have : aFs E f s = up f s true := if_pos (key.mp g)
      rw [this] at H
      rw [nI_1, bM_or (by omega)]
      exact ih (s + 1) _ _ (by omega) H
theorem k56_4 {E : mEv} {tr sr : Nat → Nat} (hE : eOk E) (S : cSr hp E) (EN : cEn hp E tr sr) (H : Q (some (.int (if aRound E = true then 1 else 0))) hp) : ∀ (m i : Nat) (o3 o4 : Option Value), i + m = (eSp E).length →
    mm_R X (d + 2) 56 4 [some (.ref 0), some (.int (nI (bM (aFn E i)))), some (.int (nI i)), o3, o4] [] hp Q := by
  obtain ⟨_, _, ⟨n, c1, c2, c3, c4⟩⟩ := id EN
  intro m
  induction m with
  | zero =>
    intro i o3 o4 hm
    have : i = (eSp E).length := by omega
    subst this
    refine w56_4 ⟨_, _, _, rfl, S, rfl, ⟨fun _ => ⟨_, _, _, rfl, S, rfl, ?_⟩, fun g => absurd (Int32.le_refl _) g⟩⟩
    dsimp only
    rw [bM_all _ (by omega), bM_inj]
    have key : (∀ o, o < 6 → aFn E (eSp E).length o = Nat.blt o (eSp E).length) ↔ aRound E = false := by
      unfold aRound
      rw [Bool.not_eq_false', List.all_eq_true]
      constructor
      · intro h s hs
        have hs := List.mem_range.mp hs
        rw [h s (by omega), Nat.blt_eq]; exact hs
      · intro h o ho
        rcases Nat.lt_or_ge o (eSp E).length with g | g
        · rw [h o (List.mem_range.mpr g), (Nat.blt_eq).mpr g]
        · rw [aFn_ge g]
          cases hb : Nat.blt o (eSp E).length with
          | false => rfl
          | true => rw [Nat.blt_eq] at hb; omega
    refine ⟨fun g => ?_, fun g => ?_⟩
    · rw [key.mp g] at H; exact H
    · cases hb : aRound E with
      | false => exact absurd (key.mpr hb) g
      | true => rw [hb] at H; exact H
  | succ m ih =>
    intro i o3 o4 hm
    refine w56_4 ⟨_, _, _, rfl, S, rfl, pk_le (eSp E).length i (fun g => absurd g (by omega)) (fun _ => ?_)⟩
    refine k56_14 hE S EN (eSp E).length 0 (aFn E i) _ (by omega) (fun o3 o4 => ?_)
    rw [← List.range_eq_range', nI_1]
    exact ih (i + 1) o3 o4 (by omega)
theorem k56 {E : mEv} {tr sr : Nat → Nat} (hE : eOk E) (S : cSr hp E) (EN : cEn hp E tr sr) (H : Q (some (.int (if aRound E = true then 1 else 0))) hp) : mm_R X (d + 2) 56 0 (mm_L0 56 [.ref 0]) [] hp Q :=
  w56_0 (k56_4 hE S EN H (eSp E).length 0 none none (by omega))
theorem rOk_beg {E : mEv} {w : Nat} (hw : 1 ≤ w ∧ w ≤ 3) (h6 : (eSp E).length ≤ 6) (hE : eOk E) (hm : aMiss E = false) : rOk E (aBeg E w) := by
  have h0 : gOk g0 := ⟨by show 0 ≤ 3; omega, fun e => absurd e (by show ¬ 0 = 1; omega), fun e => absurd e (by show ¬ 0 = 2; omega)⟩
  refine ⟨Nat.le_refl _, fun s => h0, fun s o hs hn => ?_, fun s n h => absurd h (List.not_mem_nil), List.nodup_nil, Nat.zero_le _, hw.2, fun s _ => rfl⟩
  have hs : s < (eSp E).length := hs
  show o < (eSp E).length
  rcases Nat.lt_or_ge o (eSp E).length with g | g
  · exact g
  · unfold aMiss at hm
    have h1 := List.any_eq_false.mp hm s (List.mem_range.mpr hs)
    have h2 : ∀ x, x < 6 → aNd E s x = true → x < (eSp E).length := by simpa using h1
    have ho6 : o < 6 := by
      unfold aNd at hn
      rw [List.any_eq_true] at hn
      obtain ⟨p, _, hc⟩ := hn
      rw [List.contains_iff_mem] at hc
      have := ((hE.2.1 s hs).1 p).2 _ hc
      omega
    exact h2 o ho6 hn
/-- start's answer and what it leaves -/
def aStrt (E : mEv) (R : mRn) (w : Int32) : Int32 × mRn := if nSt R = 1 ∨ w < 1 ∨ 3 < w then (-1, R) else if aMiss E = true then (1, R) else if aRound E = true then (2, R) else (0, aAd E (aBeg E w.toNatClampNeg))
theorem w13 {w : Int32} (h1 : ¬ w < 1) (h3 : w ≤ 3) : ∃ n : Nat, 1 ≤ n ∧ n ≤ 3 ∧ w = nI n ∧ w.toNatClampNeg = n := by
  have a : 1 ≤ w.toInt := by have := Int32.not_lt.mp h1; exact Int32.le_iff_toInt_le.mp this
  have b : w.toInt ≤ 3 := Int32.le_iff_toInt_le.mp h3
  refine ⟨w.toInt.toNat, by omega, by omega, ?_, rfl⟩
  apply Int32.toInt_inj.mp
  rw [nI_toInt (by omega)]
  omega
theorem k53 {E : mEv} {tr sr : Nat → Nat} {R : mRn} {JL : Nat → List Value} {w : Int32} (hE : eOk E) (S : cSr hp E) (A : cA hp E tr sr R JL) (hpg : ∀ k, 6 ≤ k → nPg R k = g0) (h3 : nSt R ≤ 3)
    (H : ∀ hp' JL', cE wRun hp hp' → cB 876 6570 hp hp' JL JL' → cA hp' E tr sr (aStrt E R w).2 JL' → ((aStrt E R w).2 = R ∨ rOk E (aStrt E R w).2) → Q (some (.int (aStrt E R w).1)) hp') : mm_R X (d + 11) 53 0 (mm_L0 53 [.ref 0, .int w]) [] hp Q := by
  obtain ⟨s1, i1', r12, _⟩ := id A.2.2.1.1
  have stay : ∀ x : Int32, aStrt E R w = (x, R) → Q (some (.int x)) hp := fun x e => by
    rw [e] at H
    exact H hp JL cE.rf (cH.rf.b.mono (by omega) (by omega)) A (Or.inl rfl)
  refine w53_0 ⟨_, _, _, rfl, S, rfl, ⟨_, _, rfl, r12⟩, k16 A.2.2.1 h3 ⟨_, rfl, fun g => ?_, fun g => ⟨fun g1 => ?_, fun g1 => ⟨fun g3 => ?_, fun g3 => ?_⟩⟩⟩⟩
  · have : nSt R = 1 := by
      by_cases e : nSt R = 1
      · exact e
      · rw [if_neg e] at g; exact absurd rfl g
    exact stay _ (if_pos (Or.inl this))
  · exact stay _ (if_pos (Or.inr (Or.inl g1)))
  · have hn1 : nSt R ≠ 1 := fun e => by rw [if_pos e] at g; exact absurd g (by decide)
    have hcond : ¬ (nSt R = 1 ∨ w < 1 ∨ 3 < w) := by
      rintro (h | h | h)
      · exact hn1 h
      · exact g1 h
      · exact Int32.lt_irrefl (Int32.lt_of_lt_of_le h g3)
    refine ⟨⟨_, _, rfl, S⟩, k54 (d := d + 8) hE S A.2.1 ⟨_, rfl, fun gm => ?_, fun gm => ?_⟩⟩
    · have hm : aMiss E = false := by
        cases e : aMiss E with
        | false => rfl
        | true => rw [e] at gm; exact absurd gm (by decide)
      refine ⟨⟨_, _, rfl, S⟩, k56 (d := d + 8) hE S A.2.1 ⟨_, rfl, fun gr => ?_, fun gr => ?_⟩⟩
      · have hr : aRound E = false := by
          cases e : aRound E with
          | false => rfl
          | true => rw [e] at gr; exact absurd gr (by decide)
        obtain ⟨n, n1, n2, en, en2⟩ := w13 g1 g3
        have eS : aStrt E R w = (0, aAd E (aBeg E n)) := by
          unfold aStrt
          rw [if_neg hcond, hm, hr, en2]; rfl
        rw [eS] at H
        obtain ⟨_, _, ⟨_, _, _, c3, _⟩⟩ := id A.2.1
        refine ⟨_, _, _, rfl, S, rfl, _, _, _, rfl, S, rfl, _, _, _, rfl, S, rfl, _, _, _, rfl, S, rfl, ⟨_, _, rfl, r12⟩, rfl, rfl, ?_⟩
        rw [en]
        refine k57 (d := d + 8) ⟨n1, n2⟩ hpg A (fun hp1 F1 G1 A1 => ⟨rfl, ?_⟩)
        have S1 : cSr hp1 E := F1.at S (by unfold wRun; omega)
        obtain ⟨s1', i1'', r12', _⟩ := id A1.2.2.1.1
        refine ⟨_, _, _, rfl, S1, rfl, ⟨_, _, rfl, r12'⟩, k59 (d := d) hE A1 (rOk_beg ⟨n1, n2⟩ c3 hE hm) (by show 1 ≠ 0; omega) (fun hp2 JL2 F2 B2 A2 R2 => ⟨rfl, ?_⟩)⟩
        exact H hp2 JL2 (F1.tr F2) ((G1.b.tr B2).mono (by omega) (by omega)) A2 (Or.inr R2)
      · have hr : aRound E = true := by
          cases e : aRound E with
          | true => rfl
          | false => rw [e] at gr; exact absurd rfl gr
        refine stay _ ?_
        unfold aStrt
        rw [if_neg hcond, hm, hr]; rfl
    · have hm : aMiss E = true := by
        cases e : aMiss E with
        | true => rfl
        | false => rw [e] at gm; exact absurd rfl gm
      refine stay _ ?_
      unfold aStrt
      rw [if_neg hcond, hm]; rfl
  · exact stay _ (if_pos (Or.inr (Or.inr (Int32.not_le.mp g3))))
end CST
