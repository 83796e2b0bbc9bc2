/-! GATHER, SCATTER ARE OWED -/
section OGA
variable {X : List Int32} {t d : Nat} {hp : mm_H} {Q : Option Value → mm_H → Prop}
theorem flag2 (A : Int32 → Prop) {i b : Int32} {N : Nat} (hb : b = nI N) (hN : N < 1000) (H : ∀ f : Int32, (¬ f = 0 ↔ ∃ n : Nat, i = nI n ∧ n ≤ N) → A f) : ((i < (0 : Int32) → A 0) ∧ (¬ i < (0 : Int32) → ((b < i → A 0) ∧ (¬ b < i → A 1)))) := by
  subst hb
  rcases nI_arg i (L := N + 1) (by omega) with ⟨n, rfl, hn⟩ | ⟨h, hno⟩
  · exact ⟨fun g => absurd g (nI_pos (by omega)), fun _ => pk_lt N n (fun g => absurd g (by omega)) (fun _ => H 1 ⟨fun _ => ⟨n, rfl, by omega⟩, fun _ => by decide⟩)⟩
  · have e : ¬ ∃ n : Nat, i = nI n ∧ n ≤ N := fun ⟨n, e, z⟩ => hno n (by omega) e
    have f0 := H 0 ⟨fun z => absurd rfl z, fun z => absurd z e⟩
    refine ⟨fun _ => f0, fun g => ⟨fun _ => f0, fun g2 => ?_⟩⟩
    exact absurd (Int32.lt_of_lt_of_le (nI_lt (Nat.lt_succ_self N) (by omega)) (h.resolve_left g)) g2
def stG (st : mStp) (p m k : Nat) : mStp := (sTl st, sSr st, up (sMg st) p m, up (sPk st) p k, sPr st, sRl st, sMk st, sMe st)
def stC (st : mStp) (m k : Nat) : mStp := (sTl st, sSr st, sMg st, sPk st, sPr st, sRl st, m, k)
theorem stG_ok {st : mStp} {p m k : Nat} (h : sOk st) (hm : m ≤ 2) (hk : k ≤ 3) : sOk (stG st p m k) := by
  obtain ⟨h1, h2, h3⟩ := h
  refine ⟨h1, fun q => ?_, h3⟩
  show up (sMg st) p m q ≤ 2 ∧ up (sPk st) p k q ≤ 3
  by_cases e : q = p
  · subst e; rw [up_eq, up_eq]; exact ⟨hm, hk⟩
  · rw [up_ne e, up_ne e]; exact h2 q
theorem stC_ok {st : mStp} {m k : Nat} (h : sOk st) (hm : m ≤ 15) (hk : k ≤ 2) : sOk (stC st m k) := ⟨h.1, h.2.1, h.2.2.1, h.2.2.2.1, hm, hk⟩
/-- a step whose cells are new: the parts that stay -/
theorem cSt.parts {hp' : mm_H} {r a : Nat} {st : mStp} (C : cSt hp r a st) (hr : 113 ≤ r) (F : cE (wSt r) hp hp') : (∀ {u : mT} {y : Nat}, cT cS hp u y → cT cS hp' u y) ∧ ∀ {q N : Nat} {is : List mIt}, cRl hp q is N → cRl hp' q is N :=
  ⟨fun h => cT.keepT F (C.qB hr).nv h, fun h => h.keepB F (C.qB hr)⟩
theorem ob_gather {y1 y2 y3 y4 : Int32} (I : IV X t hp) (ht : t < 512) : mL_ob X (IV X) t hp 26 132 [.int y1, .int y2, .int y3, .int y4] := by
  obtain ⟨D, x, E, tr, sr, R, JL, σ, hC, M, hS, hA, hP, hG⟩ := I
  have h6 := hA.1.2.2.1
  have ref : ∀ Q : Option Value → mS → Prop, (nSt R ≠ 1 → ∀ s p m k : Nat, y1 = nI s → s < (eSp E).length → y2 = nI p → p < 4 → y3 = nI m → m ≤ 2 → y4 = nI k → k ≤ 3 → ∀ σ', mKp mN1 (sB s) mN1 mN1 σ σ' → sEs1 σ' s (stG (eSt E s) p m k) → Q (some (.int 1)) σ') → ((nSt R = 1 ∨ noS E y1 ∨ noP y2 ∨ (¬ ∃ m : Nat, y3 = nI m ∧ m ≤ 2) ∨ ¬ ∃ k : Nat, y4 = nI k ∧ k ≤ 3) → Q (some (.int 0)) σ) → mM X 999 132 0 (mm_L0 132 [.ref 86, .int y1, .int y2, .int y3, .int y4]) [] σ Q := by
    intro Q H1 H0
    refine u132_0 (t126 hS.2.2.2.1.1.1 hA.2.2.2.1 (fun n1 => ⟨_, rfl, fun z => absurd z (by decide), fun _ => ?_⟩) (fun e => ⟨_, rfl, fun _ => H0 (Or.inl e), fun z => absurd rfl z⟩))
    refine t131 hS.2.1 h6 (fun s es hs => ⟨_, rfl, fun z => absurd z (by decide), fun _ => ?_⟩) (fun hno => ⟨_, rfl, fun _ => H0 (Or.inr (Or.inl hno)), fun z => absurd rfl z⟩)
    refine t127 (lo := 0) (hi := 3) rfl rfl (by omega) (by omega) (fun p ep _ hp3 => ⟨_, rfl, fun z => absurd z (by decide), fun _ => ?_⟩) (fun hno => ⟨_, rfl, fun _ => H0 (Or.inr (Or.inr (Or.inl (fun p hp => hno p (by omega) (by omega))))), fun z => absurd rfl z⟩)
    refine t127 (lo := 0) (hi := 2) rfl rfl (by omega) (by omega) (fun m em _ hm2 => ⟨_, rfl, fun z => absurd z (by decide), fun _ => ?_⟩) (fun hno => ⟨_, rfl, fun _ => H0 (Or.inr (Or.inr (Or.inr (Or.inl (fun ⟨m, e, z⟩ => hno m (by omega) z e))))), fun z => absurd rfl z⟩)
    refine t127 (lo := 0) (hi := 3) rfl rfl (by omega) (by omega) (fun k ek _ hk3 => ⟨_, rfl, fun _ => ?_, fun z => absurd z (by decide)⟩) (fun hno => ⟨_, rfl, fun z => absurd rfl z, fun _ => H0 (Or.inr (Or.inr (Or.inr (Or.inr (fun ⟨m, e, z⟩ => hno m (by omega) z e)))))⟩)
    subst es; subst ep; subst em; subst ek
    have hs6 : s < 6 := by omega
    have hso := hA.1.1.2.1 s hs
    obtain ⟨a1, a2, a3, a4, a5⟩ := hS.2.1.2.2.2.1 s hs6
    rw [show (4 : Int32) = nI 4 from rfl, pk_mul, nI_add]
    refine ⟨m_ix (by omega) (by decide), ?_⟩
    rintro σ3 rfl
    rw [uI_e (by omega)]
    refine ⟨m_ix (by omega) (by decide), ?_⟩
    rintro σ6 rfl
    rw [uI_e (by omega)]
    generalize eσ : uI (uI σ 101 (4 * s + p) (nI m)) 102 (4 * s + p) (nI k) = σ6
    have K : mKp mN1 (fun b j => (b = 101 ∨ b = 102) ∧ j = 4 * s + p) mN1 mN1 σ σ6 := by subst eσ; exact (uI_kp (by decide) ⟨Or.inl rfl, rfl⟩).tr (uI_kp (by decide) ⟨Or.inr rfl, rfl⟩)
    have v1 : σ6.2.1 101 (4 * s + p) = nI m := by subst eσ; rw [uI_at, if_neg (by omega), uI_at, if_pos ⟨rfl, rfl⟩]
    have v2 : σ6.2.1 102 (4 * s + p) = nI k := by subst eσ; rw [uI_at, if_pos ⟨rfl, rfl⟩]
    refine H1 n1 s p m k rfl hs rfl (by omega) rfl hm2 rfl hk3 σ6 (K.mono (fun _ h => h) (fun b j h => by unfold sB; omega) (fun _ h => h) (fun _ h => h)) ?_
    refine ⟨(K.2.1 96 _ (by decide) (by omega)).trans a1, (K.2.1 97 _ (by decide) (by omega)).trans a2, (K.2.1 98 _ (by decide) (by omega)).trans a3, a4.k K (by omega) (fun j _ _ => by omega), fun q hq => ?_⟩
    obtain ⟨g1, g2, g3, g4, g5, g6⟩ := a5 q hq
    refine ⟨(K.2.1 99 _ (by decide) (by omega)).trans g1, fun i hi => (K.2.1 100 _ (by decide) (by omega)).trans (g2 i hi), ?_, ?_, g5.k K (by omega) (fun j _ _ => by omega), ?_⟩
    · show σ6.2.1 101 (4 * s + q) = nI (up (sMg (eSt E s)) p m q)
      by_cases e : q = p
      · subst e; rw [up_eq]; exact v1
      · rw [up_ne e, K.2.1 101 _ (by decide) (by omega)]; exact g3
    · show σ6.2.1 102 (4 * s + q) = nI (up (sPk (eSt E s)) p k q)
      by_cases e : q = p
      · subst e; rw [up_eq]; exact v2
      · rw [up_ne e, K.2.1 102 _ (by decide) (by omega)]; exact g4
    · rcases g6 with ⟨z1, z2⟩ | ⟨u, z1, z2, z3⟩
      · exact Or.inl ⟨z1, (K.2.1 103 _ (by decide) (by omega)).trans z2⟩
      · exact Or.inr ⟨u, z1, (K.2.1 103 _ (by decide) (by omega)).trans z2, z3.keep K id (fun _ _ h => h)⟩
  have bad : (nSt R = 1 ∨ noS E y1 ∨ noP y2 ∨ (¬ ∃ m : Nat, y3 = nI m ∧ m ≤ 2) ∨ ¬ ∃ k : Nat, y4 = nI k ∧ k ≤ 3) → ∃ y, some (Value.int 0) = some (.int y) ∧ ∃ D x E tr sr R JL σ, CI hp D x E tr sr R JL ∧ mR hp σ ∧ AI E tr sr R ∧ GI hp JL (t + 1) ∧ mM X 999 132 0 (mm_L0 132 [.ref 86, .int y1, .int y2, .int y3, .int y4]) [] σ (fun r2 σ' => r2 = some (.int y) ∧ SI σ' D E R ∧ PC σ' D E (t + 1)) := fun hb => ob_same hC M hS hA hP hG (fun Q HQ => ref Q (fun n1 s p m k es hs ep hp4 em hm ek hk σ' K C => by
    exfalso
    rcases hb with z | z | z | z | z
    · exact n1 z
    · exact z s hs es
    · exact z p hp4 ep
    · exact z ⟨m, em, hm⟩
    · exact z ⟨k, ek, hk⟩) (fun _ => HQ))
  have cls : ∀ v, mw_nr v → (∀ i6 s0 : Int32, (¬ i6 = 0 ↔ ∃ n : Nat, y3 = nI n ∧ n ≤ 2) → (¬ s0 = 0 ↔ ∃ n : Nat, y4 = nI n ∧ n ≤ 3) → mm_R X 999 26 39 [some (.ref 0), some (.int y1), some (.int y2), some (.int y3), some (.int y4), some v, some (.int i6), none] [.int s0] hp (fun r hp1 => ∃ y, r = some (.int y) ∧ ∃ D x E tr sr R JL σ, CI hp1 D x E tr sr R JL ∧ mR hp1 σ ∧ AI E tr sr R ∧ GI hp1 JL (t + 1) ∧ mM X 999 132 0 (mm_L0 132 [.ref 86, .int y1, .int y2, .int y3, .int y4]) [] σ (fun r2 σ' => r2 = some (.int y) ∧ SI σ' D E R ∧ PC σ' D E (t + 1)))) → ((y3 < (0 : Int32) → mm_R X 999 26 21 [some (.ref 0), some (.int y1), some (.int y2), some (.int y3), some (.int y4), some v, none, none] [.int (0 : Int32)] hp (fun r hp1 => ∃ y, r = some (.int y) ∧ ∃ D x E tr sr R JL σ, CI hp1 D x E tr sr R JL ∧ mR hp1 σ ∧ AI E tr sr R ∧ GI hp1 JL (t + 1) ∧ mM X 999 132 0 (mm_L0 132 [.ref 86, .int y1, .int y2, .int y3, .int y4]) [] σ (fun r2 σ' => r2 = some (.int y) ∧ SI σ' D E R ∧ PC σ' D E (t + 1)))) ∧ (¬ y3 < (0 : Int32) → (((2 : Int32) < y3 → mm_R X 999 26 21 [some (.ref 0), some (.int y1), some (.int y2), some (.int y3), some (.int y4), some v, none, none] [.int (0 : Int32)] hp (fun r hp1 => ∃ y, r = some (.int y) ∧ ∃ D x E tr sr R JL σ, CI hp1 D x E tr sr R JL ∧ mR hp1 σ ∧ AI E tr sr R ∧ GI hp1 JL (t + 1) ∧ mM X 999 132 0 (mm_L0 132 [.ref 86, .int y1, .int y2, .int y3, .int y4]) [] σ (fun r2 σ' => r2 = some (.int y) ∧ SI σ' D E R ∧ PC σ' D E (t + 1)))) ∧ (¬ (2 : Int32) < y3 → mm_R X 999 26 21 [some (.ref 0), some (.int y1), some (.int y2), some (.int y3), some (.int y4), some v, none, none] [.int (1 : Int32)] hp (fun r hp1 => ∃ y, r = some (.int y) ∧ ∃ D x E tr sr R JL σ, CI hp1 D x E tr sr R JL ∧ mR hp1 σ ∧ AI E tr sr R ∧ GI hp1 JL (t + 1) ∧ mM X 999 132 0 (mm_L0 132 [.ref 86, .int y1, .int y2, .int y3, .int y4]) [] σ (fun r2 σ' => r2 = some (.int y) ∧ SI σ' D E R ∧ PC σ' D E (t + 1))))))) := by
    intro v hv H
    exact flag2 (fun f => mm_R X 999 26 21 [some (.ref 0), some (.int y1), some (.int y2), some (.int y3), some (.int y4), some v, none, none] [.int f] hp (fun r hp1 => ∃ y, r = some (.int y) ∧ ∃ D x E tr sr R JL σ, CI hp1 D x E tr sr R JL ∧ mR hp1 σ ∧ AI E tr sr R ∧ GI hp1 JL (t + 1) ∧ mM X 999 132 0 (mm_L0 132 [.ref 86, .int y1, .int y2, .int y3, .int y4]) [] σ (fun r2 σ' => r2 = some (.int y) ∧ SI σ' D E R ∧ PC σ' D E (t + 1)))) (N := 2) rfl (by omega) (fun f hf => w26_21 (flag2 (fun g => mm_R X 999 26 39 [some (.ref 0), some (.int y1), some (.int y2), some (.int y3), some (.int y4), some v, some (.int f), none] [.int g] hp (fun r hp1 => ∃ y, r = some (.int y) ∧ ∃ D x E tr sr R JL σ, CI hp1 D x E tr sr R JL ∧ mR hp1 σ ∧ AI E tr sr R ∧ GI hp1 JL (t + 1) ∧ mM X 999 132 0 (mm_L0 132 [.ref 86, .int y1, .int y2, .int y3, .int y4]) [] σ (fun r2 σ' => r2 = some (.int y) ∧ SI σ' D E R ∧ PC σ' D E (t + 1)))) (N := 3) rfl (by omega) (fun g hg => H f g hf hg)))
  refine ob_of rfl (w26_0 ⟨⟨_, _, rfl, hC.1⟩, k23 hC hA (fun n1 s es hs => ⟨_, rfl, rfl, cls _ (Or.inr ⟨_, rfl⟩) (fun i6 s0 hi hs0 => w26_39 ⟨rfl, Or.inr ⟨⟨_, rfl⟩, k24 (fun p ep hp4 => ⟨_, rfl, fun z => absurd z (by decide), fun _ => ⟨fun z => bad (Or.inr (Or.inr (Or.inr (Or.inl (fun w => hi.mpr w z))))), fun zi => ⟨fun zs => ?_, fun z => bad (Or.inr (Or.inr (Or.inr (Or.inr (fun w => hs0.mpr w z)))))⟩⟩⟩) (fun hno => ⟨_, rfl, fun _ => bad (Or.inr (Or.inr (Or.inl hno))), fun z => absurd rfl z⟩)⟩⟩)⟩) (fun hno => ⟨_, rfl, rfl, cls _ (Or.inl rfl) (fun i6 s0 hi hs0 => w26_39 ⟨rfl, Or.inl ⟨rfl, bad (by rcases hno with z | z; exact Or.inl z; exact Or.inr (Or.inl z))⟩⟩)⟩)⟩)
  obtain ⟨m, em, hm⟩ := hi.mp zi
  obtain ⟨k, ek, hk⟩ := hs0.mp zs
  obtain ⟨_, ⟨_, _, n, c1, c2, c3, c4⟩, _⟩ := id hC.2.2
  obtain ⟨d1, d2, d3, d4⟩ := c4 s hs
  have hso := hA.1.1.2.1 s hs
  obtain ⟨cond, srcs, ps, rs, h0, h1, hl, h2, h3, h4, h5, h6', h7, h8, h9, h10, h11⟩ := id d4
  have l3 := (List.getElem?_eq_some_iff.mp h4).1
  have l4 := (List.getElem?_eq_some_iff.mp h5).1
  rw [ep, em, ek]
  refine ⟨_, _, _, rfl, h0, rfl, _, _, rfl, h4, nI_pos' (by omega), by rw [nI_clamp (by omega)]; exact hp4, rfl, ?_⟩
  rw [nI_clamp (by omega), row4_set hp4]
  have h0' : (hp.set (sr s + 3) (1000, row4 (fun j => if j = p then .int (nI m) else .int (nI (sMg (eSt E s) j)))))[sr s]? = some (7, [.ref (tr (sTl (eSt E s))), .ref (sr s + 1), .ref (sr s + 2), .ref (sr s + 3), .ref (sr s + 4), .ref (sr s + 5), .ref (sr s + 6), cond, .int (nI (sMk (eSt E s))), .int (nI (sMe (eSt E s)))]) := by rw [List.getElem?_set_ne (by omega)]; exact h0
  have h5' : (hp.set (sr s + 3) (1000, row4 (fun j => if j = p then .int (nI m) else .int (nI (sMg (eSt E s) j)))))[sr s + 4]? = some (1000, row4 (fun p => .int (nI (sPk (eSt E s) p)))) := by rw [List.getElem?_set_ne (by omega)]; exact h5
  refine ⟨_, _, _, rfl, h0', rfl, _, _, rfl, h5', nI_pos' (by omega), by rw [nI_clamp (by omega)]; exact hp4, rfl, ?_⟩
  rw [nI_clamp (by omega), row4_set hp4]
  generalize e12 : (hp.set (sr s + 3) (1000, row4 (fun j => if j = p then .int (nI m) else .int (nI (sMg (eSt E s) j))))).set (sr s + 4) (1000, row4 (fun j => if j = p then .int (nI k) else .int (nI (sPk (eSt E s) j)))) = hp'
  have F2 : cE (fun x => x = sr s + 3 ∨ x = sr s + 4) hp hp' := by subst e12; exact (cE.set (Or.inl rfl)).tr (cE.set (Or.inr rfl))
  have hH : cH 0 0 hp hp' := by subst e12; exact ⟨by rw [List.length_set, List.length_set]; exact Nat.le_refl _, Nat.le_of_eq ((mm_sz_set h5' (by rfl)).trans (mm_sz_set h4 (by rfl)))⟩
  have g1 : hp'[sr s + 3]? = some (1000, row4 (fun j => if j = p then .int (nI m) else .int (nI (sMg (eSt E s) j)))) := by subst e12; rw [List.getElem?_set_ne (by omega), List.getElem?_set_self l3]
  have g2 : hp'[sr s + 4]? = some (1000, row4 (fun j => if j = p then .int (nI k) else .int (nI (sPk (eSt E s) j)))) := by subst e12; rw [List.getElem?_set_self (by rw [List.length_set]; exact l4)]
  have F : cE (wSt (sr s)) hp hp' := F2.mono (fun x _ h => by unfold wSt; omega)
  obtain ⟨kt, kr⟩ := d4.parts d2 F
  have C : cSt hp' (sr s) (tr (sTl (eSt E s))) (stG (eSt E s) p m k) := by
    refine ⟨cond, srcs, ps, rs, F2.at h0 (by omega), F2.at h1 (by omega), hl, h2, F2.at h3 (by omega), ?_, ?_, F2.at h6' (by omega), F2.at h7 (by omega), fun q hq => ?_, fun q hq => ?_, ?_, h11⟩
    · rw [g1]; congr 2; apply row4_ext; intro q hq
      show (if q = p then Value.int (nI m) else .int (nI (sMg (eSt E s) q))) = .int (nI (up (sMg (eSt E s)) p m q))
      by_cases e : q = p
      · subst e; rw [if_pos rfl, up_eq]
      · rw [if_neg e, up_ne e]
    · rw [g2]; congr 2; apply row4_ext; intro q hq
      show (if q = p then Value.int (nI k) else .int (nI (sPk (eSt E s) q))) = .int (nI (up (sPk (eSt E s)) p k q))
      by_cases e : q = p
      · subst e; rw [if_pos rfl, up_eq]
      · rw [if_neg e, up_ne e]
    · rcases h8 q hq with z | ⟨u, y, z1, z2, z3, z4⟩
      · exact Or.inl z
      · exact Or.inr ⟨u, y, z1, z2, z3, kt z4⟩
    · rcases h9 q hq with z | ⟨D, is, y, z1, z2, z3, z4, z5⟩
      · exact Or.inl z
      · exact Or.inr ⟨D, is, y, z1, z2, z3, kr z4, z5⟩
    · rcases h10 with z | ⟨D, is, y, z1, z2, z3, z4, z5⟩
      · exact Or.inl z
      · exact Or.inr ⟨D, is, y, z1, z2, z3, kr z4, z5⟩
  have fin := ob_step (s := s) (st := stG (eSt E s) p m k) (km := 132) (as := [.int y1, .int y2, .int y3, .int y4]) hC M hS hA hP hG ht n1 hs rfl rfl (stG_ok hso hm hk) F hH C (fun Q HQ => ref Q (fun _ s' p' m' k' es' hs' ep' hp4' em' hm' ek' hk' σ' K C' => by
      have a := (nI_eq (by omega) (by omega)).mp (es.symm.trans es')
      have b := (nI_eq (by omega) (by omega)).mp (ep.symm.trans ep')
      have c := (nI_eq (by omega) (by omega)).mp (em.symm.trans em')
      have d := (nI_eq (by omega) (by omega)).mp (ek.symm.trans ek')
      subst a; subst b; subst c; subst d
      exact HQ σ' K C') (fun hb => by
      exfalso
      rcases hb with z | z | z | z | z
      · exact n1 z
      · exact z s hs es
      · exact z p hp4 ep
      · exact z ⟨m, em, hm⟩
      · exact z ⟨k, ek, hk⟩))
  rw [ep, em, ek] at fin
  exact fin
theorem ob_scatter {y1 y2 y3 : Int32} (I : IV X t hp) (ht : t < 512) : mL_ob X (IV X) t hp 51 161 [.int y1, .int y2, .int y3] := by
  obtain ⟨D, x, E, tr, sr, R, JL, σ, hC, M, hS, hA, hP, hG⟩ := I
  have h6 := hA.1.2.2.1
  have ref : ∀ Q : Option Value → mS → Prop, (nSt R ≠ 1 → ∀ s m k : Nat, y1 = nI s → s < (eSp E).length → y2 = nI m → m ≤ 15 → y3 = nI k → k ≤ 2 → ∀ σ', mKp mN1 (sB s) mN1 mN1 σ σ' → sEs1 σ' s (stC (eSt E s) m k) → Q (some (.int 1)) σ') → ((nSt R = 1 ∨ noS E y1 ∨ (¬ ∃ m : Nat, y2 = nI m ∧ m ≤ 15) ∨ ¬ ∃ k : Nat, y3 = nI k ∧ k ≤ 2) → Q (some (.int 0)) σ) → mM X 999 161 0 (mm_L0 161 [.ref 86, .int y1, .int y2, .int y3]) [] σ Q := by
    intro Q H1 H0
    refine u161_0 (t126 hS.2.2.2.1.1.1 hA.2.2.2.1 (fun n1 => ⟨_, rfl, fun z => absurd z (by decide), fun _ => ?_⟩) (fun e => ⟨_, rfl, fun _ => H0 (Or.inl e), fun z => absurd rfl z⟩))
    refine t131 hS.2.1 h6 (fun s es hs => ⟨_, rfl, fun z => absurd z (by decide), fun _ => ?_⟩) (fun hno => ⟨_, rfl, fun _ => H0 (Or.inr (Or.inl hno)), fun z => absurd rfl z⟩)
    refine t127 (lo := 0) (hi := 15) rfl rfl (by omega) (by omega) (fun m em _ hm2 => ⟨_, rfl, fun z => absurd z (by decide), fun _ => ?_⟩) (fun hno => ⟨_, rfl, fun _ => H0 (Or.inr (Or.inr (Or.inl (fun ⟨m, e, z⟩ => hno m (by omega) z e)))), fun z => absurd rfl z⟩)
    refine t127 (lo := 0) (hi := 2) rfl rfl (by omega) (by omega) (fun k ek _ hk3 => ⟨_, rfl, fun _ => ?_, fun z => absurd z (by decide)⟩) (fun hno => ⟨_, rfl, fun z => absurd rfl z, fun _ => H0 (Or.inr (Or.inr (Or.inr (fun ⟨m, e, z⟩ => hno m (by omega) z e))))⟩)
    subst es; subst em; subst ek
    have hs6 : s < 6 := by omega
    obtain ⟨a1, a2, a3, a4, a5⟩ := hS.2.1.2.2.2.1 s hs6
    refine ⟨m_ix (by omega) (by decide), ?_⟩
    rintro σ3 rfl
    rw [uI_e (by omega)]
    refine ⟨m_ix (by omega) (by decide), ?_⟩
    rintro σ6 rfl
    rw [uI_e (by omega)]
    generalize eσ : uI (uI σ 97 s (nI m)) 98 s (nI k) = σ6
    have K : mKp mN1 (fun b j => (b = 97 ∨ b = 98) ∧ j = s) mN1 mN1 σ σ6 := by subst eσ; exact (uI_kp (by decide) ⟨Or.inl rfl, rfl⟩).tr (uI_kp (by decide) ⟨Or.inr rfl, rfl⟩)
    have v1 : σ6.2.1 97 s = nI m := by subst eσ; rw [uI_at, if_neg (by omega), uI_at, if_pos ⟨rfl, rfl⟩]
    have v2 : σ6.2.1 98 s = nI k := by subst eσ; rw [uI_at, if_pos ⟨rfl, rfl⟩]
    refine H1 n1 s m k rfl hs rfl hm2 rfl hk3 σ6 (K.mono (fun _ h => h) (fun b j h => by unfold sB; omega) (fun _ h => h) (fun _ h => h)) ?_
    refine ⟨(K.2.1 96 _ (by decide) (by omega)).trans a1, v1, v2, a4.k K (by omega) (fun j _ _ => by omega), fun q hq => ?_⟩
    obtain ⟨g1, g2, g3, g4, g5, g6⟩ := a5 q hq
    refine ⟨(K.2.1 99 _ (by decide) (by omega)).trans g1, fun i hi => (K.2.1 100 _ (by decide) (by omega)).trans (g2 i hi), (K.2.1 101 _ (by decide) (by omega)).trans g3, (K.2.1 102 _ (by decide) (by omega)).trans g4, g5.k K (by omega) (fun j _ _ => by omega), ?_⟩
    rcases g6 with ⟨z1, z2⟩ | ⟨u, z1, z2, z3⟩
    · exact Or.inl ⟨z1, (K.2.1 103 _ (by decide) (by omega)).trans z2⟩
    · exact Or.inr ⟨u, z1, (K.2.1 103 _ (by decide) (by omega)).trans z2, z3.keep K id (fun _ _ h => h)⟩
  have bad : (nSt R = 1 ∨ noS E y1 ∨ (¬ ∃ m : Nat, y2 = nI m ∧ m ≤ 15) ∨ ¬ ∃ k : Nat, y3 = nI k ∧ k ≤ 2) → ∃ y, some (Value.int 0) = some (.int y) ∧ ∃ D x E tr sr R JL σ, CI hp D x E tr sr R JL ∧ mR hp σ ∧ AI E tr sr R ∧ GI hp JL (t + 1) ∧ mM X 999 161 0 (mm_L0 161 [.ref 86, .int y1, .int y2, .int y3]) [] σ (fun r2 σ' => r2 = some (.int y) ∧ SI σ' D E R ∧ PC σ' D E (t + 1)) := fun hb => ob_same hC M hS hA hP hG (fun Q HQ => ref Q (fun n1 s m k es hs em hm ek hk σ' K C => by
    exfalso
    rcases hb with z | z | z | z
    · exact n1 z
    · exact z s hs es
    · exact z ⟨m, em, hm⟩
    · exact z ⟨k, ek, hk⟩) (fun _ => HQ))
  refine ob_of rfl (w51_0 ⟨⟨_, _, rfl, hC.1⟩, k23 hC hA (fun n1 s es hs => ⟨_, rfl, rfl, flag2 (fun f => mm_R X 999 51 21 [some (.ref 0), some (.int y1), some (.int y2), some (.int y3), some (.ref (sr s)), none] [.int f] hp (fun r hp1 => ∃ y, r = some (.int y) ∧ ∃ D x E tr sr R JL σ, CI hp1 D x E tr sr R JL ∧ mR hp1 σ ∧ AI E tr sr R ∧ GI hp1 JL (t + 1) ∧ mM X 999 161 0 (mm_L0 161 [.ref 86, .int y1, .int y2, .int y3]) [] σ (fun r2 σ' => r2 = some (.int y) ∧ SI σ' D E R ∧ PC σ' D E (t + 1)))) (N := 2) rfl (by omega) (fun s0 hs0 => w51_21 ⟨rfl, Or.inr ⟨⟨_, rfl⟩, ?_⟩⟩)⟩) (fun hno => ⟨_, rfl, rfl, flag2 (fun f => mm_R X 999 51 21 [some (.ref 0), some (.int y1), some (.int y2), some (.int y3), some .null, none] [.int f] hp (fun r hp1 => ∃ y, r = some (.int y) ∧ ∃ D x E tr sr R JL σ, CI hp1 D x E tr sr R JL ∧ mR hp1 σ ∧ AI E tr sr R ∧ GI hp1 JL (t + 1) ∧ mM X 999 161 0 (mm_L0 161 [.ref 86, .int y1, .int y2, .int y3]) [] σ (fun r2 σ' => r2 = some (.int y) ∧ SI σ' D E R ∧ PC σ' D E (t + 1)))) (N := 2) rfl (by omega) (fun s0 hs0 => w51_21 ⟨rfl, Or.inl ⟨rfl, bad (by rcases hno with z | z; exact Or.inl z; exact Or.inr (Or.inl z))⟩⟩)⟩)⟩)
  rcases nI_arg y2 (L := 16) (by omega) with ⟨m, em, hm⟩ | ⟨h, hno⟩
  · rw [em]
    refine ⟨fun g => absurd g (nI_pos (by omega)), fun _ => pk_lt 15 m (fun g => absurd g (by omega)) (fun _ => ⟨fun zs => ?_, fun z => ?_⟩)⟩
    · obtain ⟨k, ek, hk⟩ := hs0.mp zs
      obtain ⟨_, ⟨_, _, n, c1, c2, c3, c4⟩, _⟩ := id hC.2.2
      obtain ⟨d1, d2, d3, d4⟩ := c4 s hs
      have hso := hA.1.1.2.1 s hs
      obtain ⟨cond, srcs, ps, rs, h0, h1, hl, h2, h3, h4, h5, h6', h7, h8, h9, h10, h11⟩ := id d4
      have l0 := (List.getElem?_eq_some_iff.mp h0).1
      refine ⟨_, _, rfl, h0, by show 8 < 10; decide, rfl, ?_⟩
      refine ⟨_, _, rfl, List.getElem?_set_self l0, by show 9 < 10; decide, rfl, ?_⟩
      rw [ek, List.set_set]
      generalize e12 : hp.set (sr s) (7, (([.ref (tr (sTl (eSt E s))), .ref (sr s + 1), .ref (sr s + 2), .ref (sr s + 3), .ref (sr s + 4), .ref (sr s + 5), .ref (sr s + 6), cond, .int (nI (sMk (eSt E s))), .int (nI (sMe (eSt E s)))] : List Value).set 8 (.int (nI m))).set 9 (.int (nI k))) = hp'
      have F2 : cE (fun x => x = sr s) hp hp' := by subst e12; exact cE.set rfl
      have hH : cH 0 0 hp hp' := by subst e12; exact ⟨by rw [List.length_set]; exact Nat.le_refl _, Nat.le_of_eq (mm_sz_set h0 (by rfl))⟩
      have g0 : hp'[sr s]? = some (7, [.ref (tr (sTl (eSt E s))), .ref (sr s + 1), .ref (sr s + 2), .ref (sr s + 3), .ref (sr s + 4), .ref (sr s + 5), .ref (sr s + 6), cond, .int (nI m), .int (nI k)]) := by subst e12; rw [List.getElem?_set_self l0]; rfl
      have F : cE (wSt (sr s)) hp hp' := F2.mono (fun x _ h => by unfold wSt; omega)
      obtain ⟨kt, kr⟩ := d4.parts d2 F
      have C : cSt hp' (sr s) (tr (sTl (eSt E s))) (stC (eSt E s) m k) := by
        refine ⟨cond, srcs, ps, rs, g0, F2.at h1 (by omega), hl, h2, F2.at h3 (by omega), F2.at h4 (by omega), F2.at h5 (by omega), F2.at h6' (by omega), F2.at h7 (by omega), fun q hq => ?_, fun q hq => ?_, ?_, h11⟩
        · rcases h8 q hq with z | ⟨u, y, z1, z2, z3, z4⟩
          · exact Or.inl z
          · exact Or.inr ⟨u, y, z1, z2, z3, kt z4⟩
        · rcases h9 q hq with z | ⟨D, is, y, z1, z2, z3, z4, z5⟩
          · exact Or.inl z
          · exact Or.inr ⟨D, is, y, z1, z2, z3, kr z4, z5⟩
        · rcases h10 with z | ⟨D, is, y, z1, z2, z3, z4, z5⟩
          · exact Or.inl z
          · exact Or.inr ⟨D, is, y, z1, z2, z3, kr z4, z5⟩
      have fin := ob_step (s := s) (st := stC (eSt E s) m k) (km := 161) (as := [.int y1, .int y2, .int y3]) hC M hS hA hP hG ht n1 hs rfl rfl (stC_ok hso (by omega) hk) F hH C (fun Q HQ => ref Q (fun _ s' m' k' es' hs' em' hm' ek' hk' σ' K C' => by
          have a := (nI_eq (by omega) (by omega)).mp (es.symm.trans es')
          have c := (nI_eq (by omega) (by omega)).mp (em.symm.trans em')
          have d := (nI_eq (by omega) (by omega)).mp (ek.symm.trans ek')
          subst a; subst c; subst d
          exact HQ σ' K C') (fun hb => by
          exfalso
          rcases hb with z | z | z | z
          · exact n1 z
          · exact z s hs es
          · exact z ⟨m, em, by omega⟩
          · exact z ⟨k, ek, hk⟩))
      rw [em, ek] at fin
      exact fin
    · have := bad (Or.inr (Or.inr (Or.inr (fun w => hs0.mpr w z))))
      rw [em] at this; exact this
  · have b := bad (Or.inr (Or.inr (Or.inl (fun ⟨m, e, z⟩ => hno m (by omega) e))))
    refine ⟨fun _ => b, fun g => ⟨fun _ => b, fun g2 => ?_⟩⟩
    exact absurd (Int32.lt_of_lt_of_le (show (15 : Int32) < nI 16 by decide) (h.resolve_left g)) g2
end OGA
