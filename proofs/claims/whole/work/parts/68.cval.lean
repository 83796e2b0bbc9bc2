/-! THE DRAFT READ AS A VALUE -/
theorem pP_ne {D : List Nat} {n k k' : Nat} {xs : List mT} (h : pP D n true k = some (xs, k')) : 1 ≤ xs.length := by
  cases n with
  | zero => cases h
  | succ n =>
    rw [pP, Option.bind_eq_some_iff] at h
    obtain ⟨p, h1, h2⟩ := h
    obtain ⟨t, ht⟩ := pP_one (xs := p.1) (k' := p.2) h1
    split at h2
    · cases h2; rw [ht]; simp
    · split at h2
      · rw [Option.map_eq_some_iff] at h2
        obtain ⟨r, _, e⟩ := h2
        cases e
        rw [ht]; simp
      · cases h2
theorem mt_gl_mk {l : Nat} {ys : List mT} : mt_gl l (mt_mk ys) ↔ l < 3 ∧ ys.length ≤ 8 ∧ ∀ y ∈ ys, mt_gl (l + 1) y := by
  rw [mt_gl_list (mt_isL_mk ys), mt_els_mk]
theorem mt_gl_leaf {l : Nat} {s : mSc} (h : mt_lg s) : mt_gl l (.leaf s) := ⟨mt_okl_leaf l s, h⟩
theorem cO.keep {S W : Nat → Prop} {hp hp' : mm_H} {r m : Nat} {xs : List mT} (h : cO S hp r xs m) (E : cE W hp hp') (hr : ¬ W r) (hr1 : ¬ W (r + 1)) (hS : ∀ q, S q → ¬ W q ∧ ¬ W (q + 1)) : cO S hp' r xs m := by
  obtain ⟨n, items, h1, h2, h3, h4, h5⟩ := h
  refine ⟨n, items, E.at h1 hr, E.at h2 hr1, h3, h4, fun j hj => ?_⟩
  obtain ⟨q, a, b, c⟩ := h5 j hj
  exact ⟨q, a, b, c.keep b (E.x (fun q vs hq _ => ⟨(hS q hq).1, fun _ _ _ _ => (hS q hq).2⟩))⟩
section CVA
variable {X : List Int32} {D : List Nat}
theorem k29_k31 (n : Nat) :
    (∀ (k l e : Nat) (hp : mm_H) (Q : Option Value → mm_H → Prop), cD hp D (nI k) → k ≤ D.length → 2 * (D.length - k) + 2 ≤ n → l ≤ 3 → 16 + 2 * (3 - l) ≤ e → 113 ≤ hp.length →
      (∀ t k', pP D n false k = some ([t], k') → mt_gl l t → k < k' → k' ≤ D.length → ∀ hp' q, hp.length ≤ q → cE (fun x => x = 1) hp hp' → cG (2 * (k' - k)) hp hp' → cD hp' D (nI k') → cT (fun x => hp.length ≤ x) hp' t q → Q (some (.ref q)) hp') →
      ((∀ t k', pP D n false k = some ([t], k') → ¬ mt_gl l t) → ∀ hp' x, cE (fun x => x = 1) hp hp' → cG (2 * (61 - k)) hp hp' → cD hp' D x → Q (some .null) hp') →
      mm_R X e 29 0 (mm_L0 29 [.ref 1, .int (nI (l + 1))]) [] hp Q) ∧
    (∀ (k l e r : Nat) (xs : List mT) (o4 : Option Value) (hp : mm_H) (Q : Option Value → mm_H → Prop), cD hp D (nI k) → k ≤ D.length → 2 * (D.length - k) + 3 ≤ n → l < 3 → 15 + 2 * (3 - l) ≤ e → 113 ≤ hp.length → 113 ≤ r → cO (fun x => r + 2 ≤ x) hp r xs 8 → (∀ x ∈ xs, mt_dp x ≤ 3) → r + 2 ≤ hp.length →
      (∀ ys k', pP D n true k = some (ys, k') → xs.length + ys.length ≤ 8 → (∀ y ∈ ys, mt_gl (l + 1) y) → k < k' → k' ≤ D.length → ∀ hp', cE (fun x => x = 1 ∨ r ≤ x) hp hp' → cG (2 * (k' - k)) hp hp' → cD hp' D (nI k') → cO (fun x => r + 2 ≤ x) hp' r (xs ++ ys) 8 → Q (some (.ref r)) hp') →
      ((∀ ys k', pP D n true k = some (ys, k') → ¬ (xs.length + ys.length ≤ 8 ∧ ∀ y ∈ ys, mt_gl (l + 1) y)) → ∀ hp' x, cE (fun x => x = 1 ∨ r ≤ x) hp hp' → cG (2 * (61 - k)) hp hp' → cD hp' D x → Q (some .null) hp') →
      mm_R X e 31 39 [some (.ref 1), some (.int (nI (l + 1))), some (.ref r), some (.int (nI xs.length)), o4] [] hp Q) := by
  induction n with
  | zero => exact ⟨fun k l e hp Q _ _ h => absurd h (by omega), fun k l e r xs o4 hp Q _ _ h => absurd h (by omega)⟩
  | succ n ih =>
    obtain ⟨ihv, ihl⟩ := ih
    constructor
    · intro k l e hp Q hD hk hn hl he hlen H1 H0
      have h60 := hD.1.1
      have hml := mc_lt hD.1 k
      obtain ⟨e, rfl⟩ : ∃ e', e = e' + 1 := ⟨e - 1, by omega⟩
      -- what a scalar gives
      have leaf : mc D k ≠ 91 → cRd D hp ((pS D k).map (fun p => (.leaf p.1, p.2))) (mw_rv (fun v hp' => mw_nr v ∧ Q (some v) hp')) 2 := by
        intro h91
        have eP : pP D (n + 1) false k = (pS D k).map (fun p => ([.leaf p.1], p.2)) := by rw [pP, if_neg h91]
        refine ⟨fun t k' ht hp' q hq E G D' T => ⟨_, rfl, Or.inr ⟨_, rfl⟩, ?_⟩, fun hno hp' x E G D' => ⟨_, rfl, Or.inl rfl, ?_⟩⟩
        · rw [Option.map_eq_some_iff] at ht
          obtain ⟨p, hp1, e1⟩ := ht
          cases e1
          have hlt := pS_lt hk (show pS D k = some (p.1, p.2) from hp1)
          have hlg := pS_lg hD.1 (show pS D k = some (p.1, p.2) from hp1)
          refine H1 _ p.2 (by rw [eP, hp1]; rfl) (mt_gl_leaf hlg) hlt.1 hlt.2 hp' q hq E (G.mono (by omega)) D' T
        · rw [Option.map_eq_none_iff] at hno
          refine H0 ?_ hp' x E (G.mono (by omega)) D'
          intro t k' ht
          rw [eP, hno] at ht
          cases ht
      refine w29_0 ⟨⟨1, _, rfl, hD.2.1⟩, ?_⟩
      obtain ⟨e, rfl⟩ : ∃ e', e = e' + 10 := ⟨e - 10, by omega⟩
      refine k30 hD (by omega) ⟨_, rfl, ?_⟩
      refine pk_eq (mc D k) 91 (B := _) (A := _) (fun e91 => ?_) (fun e91 => ?_) |>.symm
      · refine pk_lt 3 (l + 1) (fun h3 => ?_) (fun h3 => ⟨⟨1, _, rfl, hD.2.1⟩, ?_⟩)
        · refine H0 ?_ hp _ cE.rf (cG.rf.mono (by omega)) hD
          intro t k' ht hg
          rw [pP, if_pos e91] at ht
          have hL : mt_isL t = true := by
            split at ht
            · cases ht; rfl
            · rw [Option.map_eq_some_iff] at ht
              obtain ⟨p, _, e1⟩ := ht
              cases e1
              exact mt_isL_mk _
          have := ((mt_gl_list hL).mp hg).1
          omega
        · have hkl : k < D.length := mc_ne (by omega)
          refine w31_0 (k9 (room := 8) (by omega) (by omega) ?_)
          rintro r rfl
          have hl0 : ∀ a b : mm_C, (hp ++ [a, b]).length = hp.length + 2 := fun a b => by simp
          have D0 : cD (hp ++ [(2, [.null, .ref (hp.length + 1), .int 3, .int 0, .int 0, .int 1, .int 2]), (2002, List.replicate 8 .null)]) D (nI k) := by
            refine hD.eq ?_ ?_ <;> exact List.getElem?_append_left (by omega)
          have G0 : cG 2 hp (hp ++ [(2, [.null, .ref (hp.length + 1), .int 3, .int 0, .int 0, .int 1, .int 2]), (2002, List.replicate 8 .null)]) := c2_appG (by simp)
          refine ⟨_, rfl, rfl, D0.gi (D0.pt ?_)⟩
          rw [nI_1]
          intro hp1 E1 G1 L1 D1
          rw [hl0] at L1
          have O1 : cO (fun x => hp.length + 2 ≤ x) hp1 hp.length [] 8 := ⟨0, _, E1.at c2_app0 (by omega), E1.at c2_app1 (by omega), by simp, by omega, fun j hj => absurd hj (by simp)⟩
          have fr : ∀ hp', cE (fun x => x = 1 ∨ hp.length ≤ x) hp1 hp' → cE (fun x => x = 1) hp hp' := fun hp' E =>
            ((cE.app (W := fun x => x = 1 ∨ hp.length ≤ x)).tr ((E1.mono (fun x _ h => Or.inl h)).tr E)).mono (fun x hx h => by omega)
          refine ⟨⟨1, _, rfl, D1.2.1⟩, k30 D1 (by omega) ⟨_, rfl, ?_⟩⟩
          have hml1 := mc_lt hD.1 (k + 1)
          refine pk_eq (mc D (k + 1)) 93 (B := _) (A := _) (fun e93 => D1.gi (D1.pt ?_)) (fun e93 => ?_) |>.symm
          · rw [nI_1]
            intro hp2 E2 G2 L2 D2
            have hk2 := mc_ne (D := D) (k := k + 1) (by omega)
            refine ⟨Or.inr ⟨_, rfl⟩, ⟨_, rfl, Or.inr ⟨_, rfl⟩, H1 (mt_mk []) (k + 2) (by rw [pP, if_pos e91, if_pos e93]) (mt_gl_mk.mpr ⟨by omega, by simp, fun y hy => nomatch hy⟩) (by omega) (by omega) hp2 hp.length (Nat.le_refl _) (fr hp2 (E2.mono (fun x _ h => Or.inl h))) (((G0.tr G1).tr G2).mono (by omega)) D2 ?_⟩⟩
            exact ((O1.keep E2 (by omega) (by omega) (fun q hq => ⟨by omega, by omega⟩)).t).mono (fun q _ h => by omega)
          · have ePn : pP D (n + 1) false k = (pP D n true (k + 1)).map (fun p => ([mt_mk p.1], p.2)) := by rw [pP, if_pos e91, if_neg e93]
            refine ihl (k + 1) l (e + 9 + 1) hp.length [] none hp1 _ D1 (by omega) (by omega) (by omega) (by omega) (by omega) (by omega) O1 (fun x hx => nomatch hx) (by omega) ?_ ?_
            · intro ys k' hys hle hgy hkk hkl' hp2 E2 G2 D2 O2
              refine ⟨_, rfl, Or.inr ⟨_, rfl⟩, H1 (mt_mk ys) k' (by rw [ePn, hys]; rfl) (mt_gl_mk.mpr ⟨by omega, by simpa using hle, hgy⟩) (by omega) hkl' hp2 hp.length (Nat.le_refl _) (fr hp2 E2) (((G0.tr G1).tr G2).mono (by omega)) D2 ?_⟩
              exact (O2.t).mono (fun q _ h => by omega)
            · intro hno hp2 x E2 G2 D2
              refine ⟨_, rfl, Or.inl rfl, H0 ?_ hp2 x (fr hp2 E2) (((G0.tr G1).tr G2).mono (by omega)) D2⟩
              intro t k' ht hg
              rw [ePn, Option.map_eq_some_iff] at ht
              obtain ⟨p, hp1, e1⟩ := ht
              cases e1
              obtain ⟨_, g2, g3⟩ := mt_gl_mk.mp hg
              exact hno p.1 p.2 hp1 ⟨by simpa using g2, g3⟩
      · refine pk_eq (mc D k) 34 (B := _) (A := _) (fun e34 => ⟨⟨1, _, rfl, hD.2.1⟩, k33 hD (by omega) (by omega) e34 (leaf e91)⟩) (fun e34 => ?_) |>.symm
        refine pk_eq (mc D k) 110 (B := _) (A := _) (fun e110 => ⟨⟨1, _, rfl, hD.2.1⟩, k35 (by omega) hD (by omega) (by omega) e110 (leaf e91)⟩) (fun e110 => ⟨⟨1, _, rfl, hD.2.1⟩, k36 hD hlen hk e110 e34 (leaf e91)⟩) |>.symm
    · intro k l e r xs o4 hp Q hD hk hn hl he hlen hr O hx hrl H1 H0
      have h60 := hD.1.1
      obtain ⟨n0, it0, z1, z2, _⟩ := id O
      obtain ⟨e, rfl⟩ : ∃ e', e = e' + 1 := ⟨e - 1, by omega⟩
      have hxm := O.le
      refine w31_39 (pk_le 8 xs.length (fun h8 => ?_) (fun h8 => ⟨rfl, ⟨1, _, rfl, hD.2.1⟩, ?_⟩))
      · refine H0 ?_ hp _ cE.rf (cG.rf.mono (by omega)) hD
        intro ys k' hys hb
        have := pP_ne hys
        omega
      rw [nI_1 (l + 1)]
      refine ihv k (l + 1) e hp _ hD hk (by omega) (by omega) (by omega) hlen ?_ ?_
      · intro t k1 ht hg hkk hkl1 hp1 q hq E1 G1 D1 T1
        have hdp := mt_gl_dp t (l + 1) hg (by omega)
        have O1 : cO (fun x => r + 2 ≤ x) hp1 r xs 8 := O.keep E1 (by omega) (by omega) (fun q hq => ⟨by omega, by omega⟩)
        have E1' : cE (fun x => x = 1 ∨ r ≤ x) hp hp1 := E1.mono (fun x _ h => Or.inl h)
        obtain ⟨e, rfl⟩ : ∃ e', e = e' + 1 := ⟨e - 1, by omega⟩
        have ePn : pP D (n + 1) true k = if mc D k1 = 93 then some ([t], k1 + 1) else if mc D k1 = 44 then (pP D n true (k1 + 1)).map (fun r => ([t] ++ r.1, r.2)) else none := by
          rw [pP, ht]; rfl
        refine ⟨_, rfl, ⟨r, _, rfl, E1.at z1 (by omega)⟩, rfl, k32 O1 (T1.mono (fun q _ h => by omega)) (by omega) (by omega) (by omega) (by have := mt_dp_mk3 hx; omega) (fun a1 a2 hp2 E2 G2 O2 => ⟨_, rfl, fun _ => ?_, fun h => absurd h (by decide)⟩) (fun hno _ => absurd ⟨by omega, by omega⟩ hno)⟩
        have D2 : cD hp2 D (nI k1) := D1.keep E2 (by omega) (by omega)
        have E2' : cE (fun x => x = 1 ∨ r ≤ x) hp hp2 := E1'.tr (E2.mono (fun x _ h => by omega))
        have hml1 := mc_lt hD.1 k1
        have hx2 : ∀ x ∈ xs ++ [t], mt_dp x ≤ 3 := by
          intro x hx'
          rcases List.mem_append.mp hx' with h | h
          · exact hx x h
          · rw [List.mem_singleton] at h; rw [h]; omega
        have hl2 : r + 2 ≤ hp2.length := Nat.le_trans hrl E2'.1
        have hl3 : 113 ≤ hp2.length := Nat.le_trans hlen E2'.1
        refine ⟨⟨1, _, rfl, D2.2.1⟩, k30 D2 (by omega) ⟨_, rfl, D2.gi (D2.pt ?_)⟩⟩
        rw [nI_1 k1]
        intro hp3 E3 G3 L3 D3
        have O3 : cO (fun x => r + 2 ≤ x) hp3 r (xs ++ [t]) 8 := O2.keep E3 (by omega) (by omega) (fun q hq => ⟨by omega, by omega⟩)
        have E3' : cE (fun x => x = 1 ∨ r ≤ x) hp hp3 := E2'.tr (E3.mono (fun x _ h => Or.inl h))
        have G3' : cG (2 * (k1 - k)) hp hp3 := ((G1.tr G2).tr G3).mono (by omega)
        refine pk_eq (mc D k1) 93 (B := _) (A := _) (fun e93 => ?_) (fun e93 => ?_) |>.symm
        · have hk1l := mc_ne (D := D) (k := k1) (by omega)
          exact ⟨Or.inr ⟨_, rfl⟩, H1 [t] (k1 + 1) (by rw [ePn, if_pos e93]) (by simp; omega) (fun y hy => by rw [List.mem_singleton] at hy; rw [hy]; exact hg) (by omega) (by omega) hp3 E3' (G3'.mono (by omega)) D3 O3⟩
        · refine pk_eq (mc D k1) 44 (fun e44 => ?_) (fun e44 => ?_)
          · have hk1l := mc_ne (D := D) (k := k1) (by omega)
            have ePm : pP D (n + 1) true k = (pP D n true (k1 + 1)).map (fun r => ([t] ++ r.1, r.2)) := by rw [ePn, if_neg e93, if_pos e44]
            have el : (xs ++ [t]).length = xs.length + 1 := by simp
            have hl4 : r + 2 ≤ hp3.length := Nat.le_trans hrl E3'.1
            have hl5 : 113 ≤ hp3.length := Nat.le_trans hlen E3'.1
            have := ihl (k1 + 1) l (e + 1 + 1) r (xs ++ [t]) (some (.int (nI (mc D k1)))) hp3 Q D3 (by omega) (by omega) hl (by omega) hl5 hr O3 hx2 hl4 ?_ ?_
            · rw [el] at this; rw [nI_1 xs.length]; exact this
            · intro ys k' hys hle hgy hkk' hkl' hp4 E4 G4 D4 O4
              rw [el] at hle
              refine H1 (t :: ys) k' (by rw [ePm, hys]; rfl) (by rw [List.length_cons]; omega) ?_ (by omega) hkl' hp4 (E3'.tr E4) ((G3'.tr G4).mono (by omega)) D4 (by simpa using O4)
              intro y hy
              rcases List.mem_cons.mp hy with rfl | hy
              · exact hg
              · exact hgy y hy
            · intro hno hp4 x E4 G4 D4
              refine H0 ?_ hp4 x (E3'.tr E4) ((G3'.tr G4).mono (by omega)) D4
              intro ys k' hys
              rw [ePm, Option.map_eq_some_iff] at hys
              obtain ⟨p, hp1, e1⟩ := hys
              cases e1
              rintro ⟨b1, b2⟩
              simp only [List.length_append, List.length_cons, List.length_nil] at b1
              refine hno p.1 p.2 hp1 ⟨by rw [el]; omega, fun y hy => b2 y (List.mem_append_right _ hy)⟩
          · refine H0 ?_ hp3 _ E3' (G3'.mono (by omega)) D3
            intro ys k' hys
            rw [ePn, if_neg e93, if_neg e44] at hys
            cases hys
      · intro hno hp1 x E1 G1 D1
        have O1 : cO (fun x => r + 2 ≤ x) hp1 r xs 8 := O.keep E1 (by omega) (by omega) (fun q hq => ⟨by omega, by omega⟩)
        have E1' : cE (fun x => x = 1 ∨ r ≤ x) hp hp1 := E1.mono (fun x _ h => Or.inl h)
        obtain ⟨e, rfl⟩ : ∃ e', e = e' + 1 := ⟨e - 1, by omega⟩
        refine ⟨_, rfl, ⟨r, _, rfl, E1.at z1 (by omega)⟩, rfl, k32n O1 ⟨_, rfl, fun h => absurd rfl h, fun _ => ?_⟩⟩
        refine H0 ?_ hp1 x E1' (G1.mono (by omega)) D1
        intro ys k' hys
        rw [pP, Option.bind_eq_some_iff] at hys
        obtain ⟨p, h1, h2⟩ := hys
        obtain ⟨t, ht⟩ := pP_one (xs := p.1) (k' := p.2) h1
        have hng := hno t p.2 (by rw [← ht]; exact h1)
        rintro ⟨b1, b2⟩
        apply hng
        split at h2
        · cases h2
          exact b2 t (by rw [ht]; exact List.mem_cons_self)
        · split at h2
          · rw [Option.map_eq_some_iff] at h2
            obtain ⟨r, _, e1⟩ := h2
            cases e1
            exact b2 t (by rw [ht]; exact List.mem_cons_self)
          · cases h2
/-- what a draft is as a value -/
def pD (D : List Nat) : Option mT := (pP D 200 false 0).bind (fun p => p.1.head?.bind (fun t => if p.2 = D.length ∧ mt_dp t ≤ 3 ∧ mt_wd t = true then some t else none))
theorem pP_al (hD : mD_ok D) : ∀ (n : Nat) (b : Bool) (k k' : Nat) (xs : List mT), pP D n b k = some (xs, k') → ∀ x ∈ xs, mt_al x := by
  intro n
  induction n with
  | zero => intro b k k' xs h; cases h
  | succ n ih =>
    intro b k k' xs h
    cases b with
    | false =>
      rw [pP] at h
      split at h
      · split at h
        · cases h
          intro x hx
          rw [List.mem_singleton] at hx
          subst hx
          exact (mt_al_list (mt_isL_mk [])).mpr (fun y hy => by rw [mt_els_mk] at hy; cases hy)
        · rw [Option.map_eq_some_iff] at h
          obtain ⟨p, h1, e⟩ := h
          cases e
          intro x hx
          rw [List.mem_singleton] at hx
          subst hx
          exact (mt_al_list (mt_isL_mk _)).mpr (fun y hy => by rw [mt_els_mk] at hy; exact ih true _ p.2 p.1 h1 y hy)
      · rw [Option.map_eq_some_iff] at h
        obtain ⟨p, h1, e⟩ := h
        cases e
        intro x hx
        rw [List.mem_singleton] at hx
        subst hx
        exact pS_lg hD (show pS D k = some (p.1, p.2) from h1)
    | true =>
      rw [pP, Option.bind_eq_some_iff] at h
      obtain ⟨p, h1, h2⟩ := h
      have a := ih false k p.2 p.1 h1
      split at h2
      · cases h2; exact a
      · split at h2
        · rw [Option.map_eq_some_iff] at h2
          obtain ⟨r, h3, e⟩ := h2
          cases e
          intro x hx
          rcases List.mem_append.mp hx with hx | hx
          · exact a x hx
          · exact ih true _ r.2 r.1 h3 x hx
        · cases h2
theorem pD_e {t : mT} {k : Nat} (h : pP D 200 false 0 = some ([t], k)) : pD D = if k = D.length ∧ mt_dp t ≤ 3 ∧ mt_wd t = true then some t else none := by
  unfold pD; rw [h]; rfl
theorem pD_n (h : pP D 200 false 0 = none) : pD D = none := by
  unfold pD; rw [h]; rfl
theorem pD_gd (hD : mD_ok D) {t : mT} (h : pD D = some t) : mt_gd t ∧ pP D 200 false 0 = some ([t], D.length) := by
  cases hp : pP D 200 false 0 with
  | none => rw [pD_n hp] at h; cases h
  | some p =>
    obtain ⟨xs, k⟩ := p
    obtain ⟨t', rfl⟩ := pP_one hp
    rw [pD_e hp] at h
    split at h
    · rename_i hc
      cases h
      obtain ⟨e, ho⟩ := hc
      exact ⟨⟨mt_okl_0.mpr ho, pP_al hD 200 false 0 k _ hp t List.mem_cons_self⟩, by rw [e]⟩
    · cases h
variable {d : Nat} {hp : mm_H} {Q : Option Value → mm_H → Prop}
/-- the draft is emptied -/
theorem cD.cut {x : Int32} {K : mm_H → Prop} (h : cD hp D x) (H : ∀ hp', cE (fun z => z = 1) hp hp' → cG 0 hp hp' → cD hp' [] x → K hp') : mw_pt 1 1 (.ref 1) (.int 0) hp K := by
  obtain ⟨a, b, j, c, e⟩ := h
  have hl := (List.getElem?_eq_some_iff.mp b).1
  refine ⟨1, _, rfl, b, Nat.le_of_ble_eq_true rfl, rfl, H _ (cE.set rfl) ⟨by simp, by rw [mm_sz_set b (by rfl)]; omega⟩ ⟨⟨by simp, fun c hc => nomatch hc⟩, List.getElem?_set_self hl, D.map mI ++ j, ?_, ?_⟩⟩
  · rw [List.getElem?_set_ne (by decide)]; exact c
  · simp; omega
/-- takeValue -/
theorem k28 {x0 : Int32} (hD : cD hp D x0) (hl : 113 ≤ hp.length)
    (H1 : ∀ t, pD D = some t → mt_gd t → ∀ hp' q x, hp.length ≤ q → cE (fun z => z = 1) hp hp' → cG 122 hp hp' → cD hp' [] x → cT (fun z => hp.length ≤ z) hp' t q → Q (some (.ref q)) hp')
    (H0 : pD D = none → ∀ hp' x, cE (fun z => z = 1) hp hp' → cG 122 hp hp' → cD hp' [] x → Q (some .null) hp') : mm_R X (d + 26) 28 0 (mm_L0 28 [.ref 1]) [] hp Q := by
  have h60 := hD.1.1
  refine w28_0 (hD.pt ?_)
  intro hp1 E1 G1 L1 D1
  have hl1 : 113 ≤ hp1.length := by omega
  refine ⟨⟨1, _, rfl, D1.2.1⟩, ?_⟩
  refine (k29_k31 (X := X) (D := D) 200).1 0 0 (d + 25) hp1 _ D1 (by omega) (by omega) (by omega) (by omega) hl1 ?_ ?_
  · intro t k' ht hg hk hkl hp2 q hq E2 G2 D2 T2
    refine ⟨_, rfl, rfl, D2.gi ⟨1, _, _, rfl, D2.2.1, rfl, ?_⟩⟩
    have hok := mt_okl_0.mp hg.1
    refine pk_eq k' D.length (B := _) (A := _) (fun e => D2.cut ?_) (fun e => D2.cut ?_) |>.symm
    · intro hp3 E3 G3 D3
      refine ⟨fun h => absurd h (by decide), fun _ => ⟨Or.inr ⟨_, rfl⟩, H1 t ?_ hg hp3 q _ (by omega) ((E1.tr E2).tr E3) (((G1.tr G2).tr G3).mono (by omega)) D3 ?_⟩⟩
      · rw [pD_e ht, if_pos ⟨e, hok⟩]
      · refine T2.keep2 (E3.x (fun q' vs hq' _ => ⟨?_, fun _ _ _ _ => ?_⟩)) ?_ ?_ |>.mono (fun q' _ h => ?_)
        · have : hp1.length ≤ q' := hq'
          omega
        · have : hp1.length ≤ q' := hq'
          omega
        · obtain ⟨vs, hx⟩ := T2.tag
          exact E3.2 q (List.getElem?_eq_some_iff.mp hx).1 (by omega)
        · intro vs u cs _ hc _ _
          exact E3.2 _ (List.getElem?_eq_some_iff.mp hc).1 (by omega)
        · have : hp1.length ≤ q' := h
          show hp.length ≤ q'
          omega
    · intro hp3 E3 G3 D3
      exact ⟨fun _ => H0 (by rw [pD_e ht, if_neg (fun h => e h.1)]) hp3 _ ((E1.tr E2).tr E3) (((G1.tr G2).tr G3).mono (by omega)) D3, fun h => absurd rfl h⟩
  · intro hno hp2 x E2 G2 D2
    refine ⟨_, rfl, rfl, D2.gi ⟨1, _, _, rfl, D2.2.1, rfl, ?_⟩⟩
    have hn : pD D = none := by
      cases h : pD D with
      | none => rfl
      | some t =>
        obtain ⟨g1, g2⟩ := pD_gd hD.1 h
        exact absurd g1 (hno t _ g2)
    refine ⟨fun _ => D2.cut (fun hp3 E3 G3 D3 => ⟨fun _ => H0 hn hp3 _ ((E1.tr E2).tr E3) (((G1.tr G2).tr G3).mono (by omega)) D3, fun h => absurd rfl h⟩), fun _ => D2.cut (fun hp3 E3 G3 D3 => ⟨fun h => absurd h (by decide), fun _ => ⟨Or.inl rfl, H0 hn hp3 _ ((E1.tr E2).tr E3) (((G1.tr G2).tr G3).mono (by omega)) D3⟩⟩)⟩
end CVA
