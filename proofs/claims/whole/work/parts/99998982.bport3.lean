/-! PORT IS OWED -/
section OPT
variable {X : List Int32} {t d : Nat} {hp : mm_H} {Q : Option Value → mm_H → Prop}
def eTSet (E : mEv) (i : Nat) (to : mTo) : mEv := (eIn E, (eTl E).set i to, eSp E)
theorem eTi_set {E : mEv} {i : Nat} {to : mTo} (hi : i < (eTl E).length) (k : Nat) : eTi (eTSet E i to) k = if k = i then to else eTi E k := by
  show ((eTl E).set i to).getD k (0, []) = _
  rw [List.getD_eq_getElem?_getD]
  by_cases e : k = i
  · subst e; rw [if_pos rfl, List.getElem?_set_self hi]; rfl
  · rw [if_neg e, List.getElem?_set_ne (fun z => e z.symm)]; exact (List.getD_eq_getElem?_getD ..).symm
theorem eTl_set {E : mEv} {i : Nat} {to : mTo} : (eTl (eTSet E i to)).length = (eTl E).length := List.length_set ..
theorem cTo.qB {hp : mm_H} {r : Nat} {to : mTo} (h : cTo hp r to) (hr : 113 ≤ r) : qB hp (wTo r) := by
  intro x hx w
  have tg := h.tag
  obtain ⟨k, hk, rfl⟩ : ∃ k, k ≤ 4 ∧ x = r + k := ⟨x - r, by unfold wTo at w; omega, by unfold wTo at w; omega⟩
  obtain ⟨u, cs, g1, g2, g3⟩ := tg k hk
  have hu : u ≠ 2 ∧ u ≠ 8 := by
    by_cases k0 : k = 0
    · have := g2 k0; omega
    · have := g3 (by omega); omega
  have prev : ∀ y v vs, r + k = y + 1 → 1000 ≤ u → hp[y]? = some (v, vs) → v ≠ 2 ∧ v ≠ 8 := by
    intro y v vs e hu hy
    have k1 : 1 ≤ k := by
      apply Classical.byContradiction
      intro z
      have := g2 (by omega); omega
    obtain ⟨v', vs', p1, p2, p3⟩ := tg (k - 1) (by omega)
    rw [show y = r + (k - 1) by omega, p1] at hy
    cases hy
    by_cases k0 : k - 1 = 0
    · have := p2 k0; omega
    · have := p3 (by omega); omega
  refine ⟨⟨fun cs' e => ?_, fun y u' cs' vs e hx' hu' hy => ?_⟩, h.nJ k hk, Or.inr (by omega), ⟨fun cs' e => ?_, fun y cs' ds e hy hx' => ?_⟩⟩
  · rw [g1] at e; cases e; exact hu.1 rfl
  · rw [g1] at hx'; cases hx'
    exact (prev y 2 vs e (by omega) hy).1 rfl
  · rw [g1] at e; cases e; exact hu.2 rfl
  · rw [g1] at hx'; cases hx'
    exact (prev y 8 cs' e (by omega) hy).2 rfl
theorem tt_dis {hp : mm_H} {r r' : Nat} {to to' : mTo} (h : cTo hp r to) (h' : cTo hp r' to') (hne : r ≠ r') : ∀ k, k ≤ 4 → ¬ wTo r (r' + k) := by
  intro k hk w
  unfold wTo at w
  by_cases g : r' < r
  · obtain ⟨u, cs, g1, _, g3⟩ := h'.tag (r - r') (by omega)
    obtain ⟨v, vs, p1, p2, _⟩ := h.tag 0 (by omega)
    rw [show r' + (r - r') = r + 0 by omega, p1] at g1
    cases g1
    have := p2 rfl; have := g3 (by omega); omega
  · obtain ⟨u, cs, g1, _, g3⟩ := h.tag (r' - r) (by omega)
    obtain ⟨v, vs, p1, p2, _⟩ := h'.tag 0 (by omega)
    rw [show r + (r' - r) = r' + 0 by omega, p1] at g1
    cases g1
    have := p2 rfl; have := g3 (by omega); omega
theorem ts_dis {hp : mm_H} {r r' a : Nat} {s : mStp} {to : mTo} (h : cTo hp r to) (h' : cSt hp r' a s) : ∀ k, k ≤ 6 → ¬ wTo r (r' + k) := by
  intro k hk w
  unfold wTo at w
  have := to_dis h' h (r' + k - r) (by omega)
  rw [show r + (r' + k - r) = r' + k by omega] at this
  exact this (by unfold wSt; omega)
theorem CI.setT {hp hp' : mm_H} {D : List Nat} {x : Int32} {E : mEv} {tr sr : Nat → Nat} {R : mRn} {JL : Nat → List Value} {i : Nat} {to : mTo} {σ : mS} (h : CI hp D x E tr sr R JL) (M : mR hp σ) (hA : AI E tr sr R) (hi : i < (eTl E).length) (F : cE (wTo (tr i)) hp hp') (C : cTo hp' (tr i) to) : CI hp' D x (eTSet E i to) tr sr R JL ∧ mR hp' σ := by
  obtain ⟨h1, h2, xx, ⟨⟨l, a1, a2, a3⟩, ⟨m, b1, b2, b3, b4⟩, ⟨n, c1, c2, c3, c4⟩⟩, rn, hl⟩ := h
  obtain ⟨d1, d2, d3⟩ := b4 i hi
  have q := d3.qB d2
  have z : ∀ {y : Nat}, y < 113 → ¬ wTo (tr i) y := fun hy w => by unfold wTo at w; omega
  refine ⟨⟨?_, h2.keep F (z (by omega)) (z (by omega)), xx.keepB F q, ⟨⟨l, F.at a1 (z (by omega)), a2, fun c hc => ?_⟩, ⟨m, F.at b1 (z (by omega)), b2, by rw [eTl_set]; exact b3, fun k hk => ?_⟩, ⟨n, F.at c1 (z (by omega)), c2, c3, fun k hk => ?_⟩⟩, rn.keepB F q, Nat.le_trans hl F.1⟩, F.mR M (fun y _ hy => z (by omega))⟩
  · unfold cSr
    rw [eTl_set]
    exact F.at h1 (z (by omega))
  · obtain ⟨y, e1, e2, e3⟩ := a3 c hc
    exact ⟨y, e1, e2, cT.keepT F q.nv e3⟩
  · rw [eTl_set] at hk
    obtain ⟨e1, e2, e3⟩ := b4 k hk
    refine ⟨e1, e2, ?_⟩
    show cTo hp' (tr k) (eTi (eTSet E i to) k)
    rw [eTi_set hi]
    by_cases e : k = i
    · subst e; rw [if_pos rfl]; exact C
    · rw [if_neg e]
      refine e3.keep F (fun y y1 y2 => ?_)
      have := tt_dis d3 e3 (fun w => e (hA.2.2.2.2.2.2.2.2.1 k i hk hi w.symm)) (y - tr k) (by omega)
      rw [show tr k + (y - tr k) = y by omega] at this
      exact this
  · obtain ⟨e1, e2, e3, e4⟩ := c4 k hk
    exact ⟨e1, e2, by rw [eTl_set]; exact e3, e4.keepB F q (ts_dis d3 e4)⟩
theorem AI.setT {E : mEv} {tr sr : Nat → Nat} {R : mRn} {i : Nat} {to : mTo} (h : AI E tr sr R) (h1 : nSt R ≠ 1) (hi : i < (eTl E).length) (h2 : tOk to) (h3 : (aOrd to.2).length = to.2.length) (h4 : to.2.length ≤ 4) : AI (eTSet E i to) tr sr R := by
  obtain ⟨⟨⟨o1, o2, o3⟩, f2, f3, f4, f5⟩, a2, a3, a4, a5, a6, a7, a8, a9, a10, a11⟩ := h
  refine ⟨⟨⟨fun k hk => ?_, o2, o3⟩, by rw [eTl_set]; exact f2, f3, fun s hs => by rw [eTl_set]; exact f4 s hs, fun k => ?_⟩, fun z => absurd z h1, a3, a4, a5, a6, a7, a8, by rw [eTl_set]; exact a9, a10, a11⟩
  · rw [eTl_set] at hk
    show tOk (eTi (eTSet E i to) k) ∧ (aOrd (eTi (eTSet E i to) k).2).length = (eTi (eTSet E i to) k).2.length
    rw [eTi_set hi]
    split
    · exact ⟨h2, h3⟩
    · exact o1 k hk
  · rw [eTi_set hi]
    split
    · exact h4
    · exact f5 k
def vP (y : Int32) : Prop := ∃ i0 : Nat, i0 ≤ 18 ∧ y = nI i0 - 9
theorem pl_rg : ∀ i, i < 19 → ¬ (nI i - 9 < (-9 : Int32)) ∧ ¬ ((9 : Int32) < nI i - 9) := by decide
theorem vP_of {y : Int32} (h1 : ¬ y < -9) (h2 : ¬ (9 : Int32) < y) : vP y := by
  have a := Int32.le_iff_toInt_le.mp (Int32.not_lt.mp h1)
  have b := Int32.le_iff_toInt_le.mp (Int32.not_lt.mp h2)
  have e9 : (-9 : Int32).toInt = -9 := by decide
  have e9' : (9 : Int32).toInt = 9 := by decide
  rw [e9] at a
  rw [e9'] at b
  refine ⟨(y.toInt + 9).toNat, by omega, ?_⟩
  apply Int32.toInt_inj.mp
  rw [show (9 : Int32) = nI 9 from rfl, pk_sub_toInt (by omega) (by omega)]
  omega
theorem flagP (A : Int32 → Prop) {y : Int32} (H : ∀ f : Int32, (¬ f = 0 ↔ vP y) → A f) : ((y < (-9 : Int32) → A 0) ∧ (¬ y < (-9 : Int32) → (((9 : Int32) < y → A 0) ∧ (¬ (9 : Int32) < y → A 1)))) := by
  refine ⟨fun g => H 0 ⟨fun z => absurd rfl z, ?_⟩, fun g => ⟨fun g2 => H 0 ⟨fun z => absurd rfl z, ?_⟩, fun g2 => H 1 ⟨fun _ => vP_of g g2, fun _ => by decide⟩⟩⟩
  · rintro ⟨i, hi, e⟩; rw [e] at g; exact absurd g (pl_rg i (by omega)).1
  · rintro ⟨i, hi, e⟩; rw [e] at g2; exact absurd g2 (pl_rg i (by omega)).2
def vL (c : Nat) : Prop := c = 0 ∨ 97 ≤ c ∧ c ≤ 122
theorem flagL (A : Int32 → Prop) {c : Nat} (hc : c < 65536) (H : ∀ f : Int32, (¬ f = 0 ↔ vL c) → A f) : ((nI c = (0 : Int32) → A 1) ∧ (¬ nI c = (0 : Int32) → ((nI c < (97 : Int32) → A 0) ∧ (¬ nI c < (97 : Int32) → (((122 : Int32) < nI c → A 0) ∧ (¬ (122 : Int32) < nI c → A 1)))))) := by
  unfold vL at H
  refine pk_eq c 0 (fun e => H 1 ⟨fun _ => Or.inl e, fun _ => by decide⟩) (fun e => pk_lt c 97 (fun g => H 0 ⟨fun z => absurd rfl z, fun z => by omega⟩) (fun g => pk_lt 122 c (fun g2 => H 0 ⟨fun z => absurd rfl z, fun z => by omega⟩) (fun g2 => H 1 ⟨fun _ => Or.inr ⟨g, g2⟩, fun _ => by decide⟩)))
theorem ob_port {y1 y2 y3 y4 : Int32} (I : IV X t hp) (ht : t < 512) : mL_ob X (IV X) t hp 18 128 [.int y1, .int y2, .int ((Int32.toUInt32 y3 % 65536).toInt32), .int y4] := by
  obtain ⟨D, x, E, tr, sr, R, JL, σ, hC, M, hS, hA, hP, hG⟩ := I
  rw [pk_char]
  have hc : y3.toBitVec.toNat % 65536 < 65536 := Nat.mod_lt _ (by omega)
  generalize y3.toBitVec.toNat % 65536 = c at *
  have h6 := hA.1.2.2.1
  have h4 := hA.1.2.1
  have ref : ∀ Q : Option Value → mS → Prop, (nSt R ≠ 1 → ∀ i i0 st : Nat, y1 = nI i → i < (eTl E).length → y2 = nI i0 - 9 → i0 ≤ 18 → vL c → y4 = nI st → st ≤ 4 → (eTi E i).2.length < 4 → ∀ σ', mKp mN1 (fun b j => b = 92 ∧ j = i ∨ (b = 93 ∨ b = 94 ∨ b = 95) ∧ j = 4 * i + (eTi E i).2.length) mN1 mN1 σ σ' → σ'.2.1 92 i = nI ((eTi E i).2.length + 1) → σ'.2.1 93 (4 * i + (eTi E i).2.length) = nI i0 - 9 → σ'.2.1 94 (4 * i + (eTi E i).2.length) = nI c → σ'.2.1 95 (4 * i + (eTi E i).2.length) = nI st → Q (some (.int (nI (eTi E i).2.length))) σ') → ((nSt R = 1 ∨ (∀ i : Nat, i < (eTl E).length → y1 ≠ nI i) ∨ ¬ vP y2 ∨ ¬ vL c ∨ (¬ ∃ n : Nat, y4 = nI n ∧ n ≤ 4) ∨ ∃ i : Nat, y1 = nI i ∧ i < (eTl E).length ∧ (eTi E i).2.length = 4) → Q (some (.int (-1))) σ) → mM X 999 128 0 (mm_L0 128 [.ref 86, .int y1, .int y2, .int (nI c), .int y4]) [] σ Q := by
    intro Q H1 H0
    refine u128_0 (flagL (fun f => mM X 999 128 21 [some (.ref 86), some (.int y1), some (.int y2), some (.int (nI c)), some (.int y4), none, none] [.int f] σ Q) hc (fun f hf => ?_))
    refine u128_21 (t126 hS.2.2.2.1.1.1 hA.2.2.2.1 (fun n1 => ⟨_, rfl, fun z => absurd z (by decide), fun _ => ?_⟩) (fun e => ⟨_, rfl, fun _ => H0 (Or.inl e), fun z => absurd rfl z⟩))
    rw [hS.2.1.1]
    rcases nI_arg y1 (L := (eTl E).length) (by omega) with ⟨i, ei, hi⟩ | ⟨h, hno⟩
    · subst ei
      obtain ⟨b1, b2, b3⟩ := hS.2.1.2.2.1 i (by omega)
      have hle := hA.1.2.2.2.2 i
      refine ⟨fun g => absurd g (nI_pos (by omega)), fun _ => pk_le (eTl E).length i (fun g => absurd g (by omega)) (fun _ => ⟨m_ix (by omega) (by decide), ?_⟩)⟩
      rw [mGet_e (by omega), b2]
      refine pk_eq (eTi E i).2.length 4 (fun e => H0 (Or.inr (Or.inr (Or.inr (Or.inr (Or.inr ⟨i, rfl, hi, e⟩)))))) (fun ne => ?_)
      have pl : ∀ K : Option Value → mS → Prop, (vP y2 → K (some (.int 1)) σ) → (¬ vP y2 → K (some (.int 0)) σ) → mM X 998 127 0 (mm_L0 127 [.int y2, .int (-9 : Int32), .int (9 : Int32)]) [] σ K := fun K k1 k0 => by
        refine u127_0 ⟨fun g => k0 ?_, fun g => ⟨fun g2 => k0 ?_, fun g2 => k1 (vP_of g g2)⟩⟩
        · rintro ⟨i, hi, e⟩; rw [e] at g; exact absurd g (pl_rg i (by omega)).1
        · rintro ⟨i, hi, e⟩; rw [e] at g2; exact absurd g2 (pl_rg i (by omega)).2
      refine pl _ (fun hv => ⟨_, rfl, fun z => absurd z (by decide), fun _ => ⟨fun z => H0 (Or.inr (Or.inr (Or.inr (Or.inl (fun w => hf.mpr w z))))), fun zf => ?_⟩⟩) (fun hv => ⟨_, rfl, fun _ => H0 (Or.inr (Or.inr (Or.inl hv))), fun z => absurd rfl z⟩)
      refine t127 (lo := 0) (hi := 4) rfl rfl (by omega) (by omega) (fun st est _ hst => ⟨_, rfl, fun _ => ?_, fun z => absurd z (by decide)⟩) (fun hno => ⟨_, rfl, fun z => absurd rfl z, fun _ => H0 (Or.inr (Or.inr (Or.inr (Or.inr (Or.inl (fun ⟨n, e, z⟩ => hno n (by omega) z e))))))⟩)
      obtain ⟨i0, hi0, e2⟩ := hv
      subst est
      refine ⟨m_ix (by omega) (by decide), ?_⟩
      rw [mGet_e (by omega), b2, show (4 : Int32) = nI 4 from rfl, pk_mul, nI_add]
      refine ⟨m_ix (by omega) (by decide), ?_⟩
      rintro σa rfl
      rw [uI_e (by omega)]
      refine ⟨m_ix (by omega) (by decide), ?_⟩
      rintro σb rfl
      rw [uI_e (by omega)]
      refine ⟨m_ix (by omega) (by decide), ?_⟩
      rintro σc rfl
      rw [uI_e (by omega)]
      refine ⟨m_ix (by omega) (by decide), m_ix (by omega) (by decide), ?_⟩
      rintro σd rfl
      rw [uI_e (by omega)]
      have e92 : mGet (uI (uI (uI σ 93 (4 * i + (eTi E i).2.length) y2) 94 (4 * i + (eTi E i).2.length) (nI c)) 95 (4 * i + (eTi E i).2.length) (nI st)) 92 (nI i) + 1 = nI ((eTi E i).2.length + 1) := by
        rw [mGet_e (by omega), uI_at, if_neg (by omega), uI_at, if_neg (by omega), uI_at, if_neg (by omega), b2, nI_1]
      rw [e92]
      refine ⟨m_ix (by omega) (by decide), ?_⟩
      generalize eσ : uI (uI (uI (uI σ 93 (4 * i + (eTi E i).2.length) y2) 94 (4 * i + (eTi E i).2.length) (nI c)) 95 (4 * i + (eTi E i).2.length) (nI st)) 92 i (nI ((eTi E i).2.length + 1)) = σ'
      have K : mKp mN1 (fun b j => b = 92 ∧ j = i ∨ (b = 93 ∨ b = 94 ∨ b = 95) ∧ j = 4 * i + (eTi E i).2.length) mN1 mN1 σ σ' := by
        subst eσ
        exact (((uI_kp (by decide) (by omega)).tr (uI_kp (by decide) (by omega))).tr (uI_kp (by decide) (by omega))).tr (uI_kp (by decide) (by omega))
      have v92 : σ'.2.1 92 i = nI ((eTi E i).2.length + 1) := by subst eσ; rw [uI_at, if_pos ⟨rfl, rfl⟩]
      have v93 : σ'.2.1 93 (4 * i + (eTi E i).2.length) = y2 := by subst eσ; rw [uI_at, if_neg (by omega), uI_at, if_neg (by omega), uI_at, if_neg (by omega), uI_at, if_pos ⟨rfl, rfl⟩]
      have v94 : σ'.2.1 94 (4 * i + (eTi E i).2.length) = nI c := by subst eσ; rw [uI_at, if_neg (by omega), uI_at, if_neg (by omega), uI_at, if_pos ⟨rfl, rfl⟩]
      have v95 : σ'.2.1 95 (4 * i + (eTi E i).2.length) = nI st := by subst eσ; rw [uI_at, if_neg (by omega), uI_at, if_pos ⟨rfl, rfl⟩]
      have := H1 n1 i i0 st rfl hi e2 hi0 (hf.mp zf) rfl hst (by omega) σ' K v92 (v93.trans e2) v94 v95
      rw [mGet_e (by omega), v92, show (1 : Int32) = nI 1 from rfl, pk_sub (by omega), Nat.add_sub_cancel]
      exact this
    · have b := H0 (Or.inr (Or.inl hno))
      exact ⟨fun _ => b, fun g => ⟨fun _ => b, fun g2 => absurd (h.resolve_left g) g2⟩⟩
  have bad : (nSt R = 1 ∨ (∀ i : Nat, i < (eTl E).length → y1 ≠ nI i) ∨ ¬ vP y2 ∨ ¬ vL c ∨ (¬ ∃ n : Nat, y4 = nI n ∧ n ≤ 4) ∨ ∃ i : Nat, y1 = nI i ∧ i < (eTl E).length ∧ (eTi E i).2.length = 4) → ∃ y, some (Value.int (-1)) = some (.int y) ∧ ∃ D x E tr sr R JL σ, CI hp D x E tr sr R JL ∧ mR hp σ ∧ AI E tr sr R ∧ GI hp JL (t + 1) ∧ mM X 999 128 0 (mm_L0 128 [.ref 86, .int y1, .int y2, .int (nI c), .int y4]) [] σ (fun r2 σ' => r2 = some (.int y) ∧ SI σ' D E R ∧ PC σ' D E (t + 1)) := fun hb => ob_same hC M hS hA hP hG (fun Q HQ => ref Q (fun n1 i i0 st ei hi e2 hi0 hv est hst hl σ' _ _ _ _ _ => by
    exfalso
    rcases hb with z | z | z | z | z | ⟨i', e', hi', z⟩
    · exact n1 z
    · exact z i hi ei
    · exact z ⟨i0, hi0, e2⟩
    · exact z hv
    · exact z ⟨st, est, hst⟩
    · have := (nI_eq (by omega) (by omega)).mp (ei.symm.trans e')
      subst this; omega) (fun _ => HQ))
  have rn := hC.2.2.2.2.1
  obtain ⟨⟨s1, i1, r12, _⟩, _⟩ := id rn
  refine ob_of rfl (w18_0 ⟨_, _, _, rfl, hC.1, rfl, ⟨_, _, rfl, r12⟩, k16 rn hA.2.2.2.1 ⟨_, rfl, ?_⟩⟩)
  by_cases e1 : nSt R = 1
  · rw [if_pos e1]; exact ⟨fun _ => bad (Or.inl e1), fun z => absurd z (by decide)⟩
  rw [if_neg e1]
  refine ⟨fun z => absurd rfl z, fun _ => ?_⟩
  rcases nI_arg y1 (L := (eTl E).length) (by omega) with ⟨i, ei, hi⟩ | ⟨h, hno⟩
  · obtain ⟨xx, ⟨⟨l, a1, a2, a3⟩, ⟨m, b1, b2, b3, b4⟩, ⟨n, c1, c2, c3, c4⟩⟩, rn', hl'⟩ := id hC.2.2
    obtain ⟨bk1, bk2, bk3⟩ := b4 i hi
    rw [ei]
    refine ⟨fun g => absurd g (nI_pos (by omega)), fun _ => ⟨_, _, _, rfl, hC.1, rfl, pk_lt i (eTl E).length (fun _ => ?_) (fun g => absurd g (by omega))⟩⟩
    rw [← ei]
    refine flagP (fun f => mm_R X 999 18 41 [some (.ref 0), some (.int y1), some (.int y2), some (.int (nI c)), some (.int y4), none, none, none, none] [.int f] hp _) (fun f1 hf1 => w18_41 (flagL (fun f => mm_R X 999 18 64 [some (.ref 0), some (.int y1), some (.int y2), some (.int (nI c)), some (.int y4), some (.int f1), none, none, none] [.int f] hp _) hc (fun f2 hf2 => w18_64 (flag2 (fun f => mm_R X 999 18 82 [some (.ref 0), some (.int y1), some (.int y2), some (.int (nI c)), some (.int y4), some (.int f1), some (.int f2), none, none] [.int f] hp _) (N := 4) rfl (by omega) (fun f3 hf3 => w18_82 ⟨_, _, _, rfl, hC.1, rfl, mw_avr b1 (by decide) rfl bk1 ei (by omega) ⟨rfl, Or.inr ⟨⟨_, rfl⟩, fun z => bad (Or.inr (Or.inr (Or.inl (fun w => hf1.mpr w z)))), fun z1 => ⟨fun z => bad (Or.inr (Or.inr (Or.inr (Or.inl (fun w => hf2.mpr w z))))), fun z2 => ⟨fun z3 => ?_, fun z => bad (Or.inr (Or.inr (Or.inr (Or.inr (Or.inl (fun w => hf3.mpr w z))))))⟩⟩⟩⟩⟩))))) 
    obtain ⟨i0, hi0, e2⟩ := hf1.mp z1
    have hv := hf2.mp z2
    obtain ⟨st, est, hst⟩ := hf3.mp z3
    obtain ⟨ht1, ht2⟩ := hA.1.1.1 i hi
    obtain ⟨u, cs, g1, g2, _⟩ := bk3.tag 0 (by omega)
    have := g2 rfl
    subst this
    refine ⟨⟨_, _, rfl, g1⟩, ?_⟩
    rw [e2, est]
    have hle := hA.1.2.2.2.2 i
    have goal : mm_R X 998 19 0 (mm_L0 19 [.ref (tr i), .int (nI i0 - 9), .int (nI c), .int (nI st)]) [] hp (mw_ri (fun x6 hp5 => ∃ y, some (Value.int x6) = some (.int y) ∧ ∃ D x E tr sr R JL σ, CI hp5 D x E tr sr R JL ∧ mR hp5 σ ∧ AI E tr sr R ∧ GI hp5 JL (t + 1) ∧ mM X 999 128 0 (mm_L0 128 [.ref 86, .int y1, .int y2, .int (nI c), .int y4]) [] σ (fun r2 σ' => r2 = some (.int y) ∧ SI σ' D E R ∧ PC σ' D E (t + 1)))) := by
      refine k19 bk3 ht2 hi0 hc (by omega) (fun hl hp' F G C => ⟨_, rfl, ?_⟩) (fun hl => ⟨_, rfl, bad (Or.inr (Or.inr (Or.inr (Or.inr (Or.inr ⟨i, ei, hi, hl⟩)))))⟩)
      obtain ⟨hC2, M2⟩ := hC.setT M hA hi F C
      have hl' : (eTi E i).2.length < 4 := hl
      have hto : tOk ((eTi E i).1, (eTi E i).2 ++ [(nI i0 - 9, c, st)]) := by
        refine ⟨ht1.1, fun z hz => ?_⟩
        rcases List.mem_append.mp hz with w | w
        · exact ht1.2 z w
        · rw [List.mem_singleton] at w
          subst w
          exact ⟨⟨i0, hi0, rfl⟩, hv, hst⟩
      have ho : (aOrd ((eTi E i).2 ++ [(nI i0 - 9, c, st)])).length = ((eTi E i).2 ++ [(nI i0 - 9, c, st)]).length := by
        rw [aOrd_snoc hi0 rfl, List.length_append, List.length_cons, List.length_append, List.length_singleton]
        have := congrArg List.length (aOrd_split (ps := (eTi E i).2) hi0)
        rw [List.length_append] at this
        have h2 : (aOrd (eTi E i).2).length = (eTi E i).2.length := ht2
        omega
      refine ⟨_, rfl, D, x, eTSet E i ((eTi E i).1, (eTi E i).2 ++ [(nI i0 - 9, c, st)]), tr, sr, R, JL, σ, hC2, M2, hA.setT e1 hi hto ho (by show ((eTi E i).2 ++ [_]).length ≤ 4; rw [List.length_append, List.length_singleton]; omega), hG.h ht G (by omega) (by omega), ref _ (fun _ i' i0' st' ei' hi' e2' hi0' hv' est' hst' hl'' σ' K v92 v93 v94 v95 => ?_) (fun hb => ?_)⟩
      · have a := (nI_eq (by omega) (by omega)).mp (ei.symm.trans ei')
        have b := (pl_inj i0 (by omega) i0' (by omega)).1.mp (e2.symm.trans e2')
        have cc := (nI_eq (by omega) (by omega)).mp (est.symm.trans est')
        subst a; subst b; subst cc
        obtain ⟨w1, w2, w3, w4, w5⟩ := hS.2.1
        have Kb : bK σ σ' := K.mono (fun z h => h.elim) (fun b j h => by omega) (fun _ h => h.elim) (fun _ h => h.elim)
        have hE' : sE σ' (eTSet E i ((eTi E i).1, (eTi E i).2 ++ [(nI i0 - 9, c, st)])) := by
          refine ⟨by rw [eTl_set]; exact (K.1 6 id).trans w1, (K.1 12 id).trans w2, fun k hk => ?_, fun s hs => ?_, fun c hc => (w5 c hc).keep K id (fun _ _ h => h)⟩
          · obtain ⟨x1, x2, x3⟩ := w3 k hk
            rw [eTi_set hi]
            by_cases e : k = i
            · subst e
              rw [if_pos rfl]
              refine ⟨(K.2.1 91 _ (by decide) (by omega)).trans x1, by rw [List.length_append]; exact v92, fun p hp => ?_⟩
              have hp' : p < (eTi E k).2.length + 1 := by rw [List.length_append] at hp; exact hp
              by_cases ep : p = (eTi E k).2.length
              · subst ep
                refine ⟨by omega, ?_⟩
                rw [List.getElem_append_right (Nat.le_refl _)]
                simp only [Nat.sub_self, List.getElem_cons_zero]
                exact ⟨v93, v94, v95⟩
              · have hp3 : p < (eTi E k).2.length := by omega
                obtain ⟨r1, r2, r3, r4⟩ := x3 p hp3
                refine ⟨r1, ?_⟩
                rw [List.getElem_append_left hp3]
                exact ⟨(K.2.1 93 _ (by decide) (by omega)).trans r2, (K.2.1 94 _ (by decide) (by omega)).trans r3, (K.2.1 95 _ (by decide) (by omega)).trans r4⟩
            · rw [if_neg e]
              refine ⟨(K.2.1 91 _ (by decide) (by omega)).trans x1, (K.2.1 92 _ (by decide) (by omega)).trans x2, fun p hp => ?_⟩
              obtain ⟨r1, r2, r3, r4⟩ := x3 p hp
              exact ⟨r1, (K.2.1 93 _ (by decide) (by omega)).trans r2, (K.2.1 94 _ (by decide) (by omega)).trans r3, (K.2.1 95 _ (by decide) (by omega)).trans r4⟩
          · exact sEs1.k (w4 s hs) (hso3 hA s hs) K (fun b j h => by unfold sB at h; omega) (fun _ _ h => h) (fun _ _ h => h)
        obtain ⟨p0, q1, q2, q3⟩ := hP.up
        exact ⟨rfl, ⟨hS.1.keep K id (fun j h => by omega), hE', (K.1 44 id).trans hS.2.2.1, hS.2.2.2.1.bk Kb, fun z => absurd z e1⟩, p0, (K.1 1 id).trans q1, q2, fun c hc => (q3.1 c hc).keep K id (fun _ _ h => h), fun s p v hs hp4 ev => (q3.2 s p v hs hp4 ev).keep K id (fun _ _ h => h)⟩
      · exfalso
        rcases hb with z | z | z | z | z | ⟨i', e', hi', z⟩
        · exact e1 z
        · exact z i hi ei
        · exact z ⟨i0, hi0, e2⟩
        · exact z hv
        · exact z ⟨st, est, hst⟩
        · have := (nI_eq (by omega) (by omega)).mp (ei.symm.trans e')
          subst this; omega
    rw [e2, est] at goal
    exact goal
  · have b := bad (Or.inr (Or.inl hno))
    exact ⟨fun _ => b, fun g => ⟨_, _, _, rfl, hC.1, rfl, fun g2 => absurd (h.resolve_left g) (Int32.not_le.mpr g2), fun _ => b⟩⟩
end OPT
