/-! THE REFERENCE KEEPS A VALUE -/
theorem pP_rw {D : List Nat} : ∀ (n : Nat) (b : Bool) (k k' l : Nat) (xs : List mT), k ≤ D.length → pP D n b k = some (xs, k') → 2 * (mt_tks xs l).length + k ≤ k' + (if b then 0 else 1) := by
  intro n
  induction n with
  | zero => intro b k k' l xs _ h; cases h
  | succ n ih =>
    intro b k k' l xs hk h
    cases b with
    | false =>
      rw [pP] at h
      split at h
      · rename_i h91
        have hkl := mc_ne (D := D) (k := k) (by omega)
        split at h
        · cases h
          rw [mt_tks_one, mt_tk_mk, mt_tks_nil]
          simp
          omega
        · rw [Option.map_eq_some_iff] at h
          obtain ⟨p, h1, e⟩ := h
          cases e
          have := ih true (k + 1) p.2 (l + 1) p.1 hkl h1
          rw [mt_tks_one, mt_tk_mk]
          simp only [List.length_cons, if_true, Bool.false_eq_true, if_false] at this ⊢
          omega
      · rw [Option.map_eq_some_iff] at h
        obtain ⟨p, h1, e⟩ := h
        cases e
        have hlt := pS_lt hk (show pS D k = some (p.1, p.2) from h1)
        rw [mt_tks_one, mt_tk_leaf]
        simp
        omega
    | true =>
      rw [pP, Option.bind_eq_some_iff] at h
      obtain ⟨p, h1, h2⟩ := h
      have a := ih false k p.2 l p.1 hk h1
      simp only [Bool.false_eq_true, if_false] at a
      split at h2
      · cases h2
        simp only [if_true]
        omega
      · split at h2
        · rename_i h44
          have hkl := mc_ne (D := D) (k := p.2) (by omega)
          rw [Option.map_eq_some_iff] at h2
          obtain ⟨r, h3, e⟩ := h2
          cases e
          have a2 := ih true (p.2 + 1) r.2 l r.1 hkl h3
          rw [mt_tks_app, List.length_append]
          simp only [if_true] at a2 ⊢
          omega
        · cases h2
theorem pD_sz {D : List Nat} (hD : mD_ok D) {t : mT} (h : pD D = some t) : (mt_tk t 0).length ≤ 30 ∧ mt_tl (mt_tk t 0) ≤ D.length := by
  obtain ⟨_, hp⟩ := pD_gd hD h
  have h1 := pP_rw 200 false 0 D.length 0 [t] (by omega) hp
  have h2 := (pP_sz 200 false 0 D.length 0 [t] (by omega) hp).2.1
  rw [mt_tks_one] at h1 h2
  simp only [Bool.false_eq_true, if_false] at h1
  have := hD.1
  omega
theorem mRow.keep {σ σ' : mS} {A : Nat → Prop} {r : Nat} {u : mTk} (R : mRow σ A r u) (h1 : σ'.2.2 89 r = σ.2.2 89 r) (h2 : ∀ p, A p → mg σ' p = mg σ p) : mRow σ' A r u := by
  obtain ⟨g1, g2, g3, a, g4, g5, g6⟩ := R
  exact ⟨g1, g2, g3, a, g4, h1.trans g5, fun j hj => ⟨(g6 j hj).1, (h2 _ (g6 j hj).1).trans (g6 j hj).2⟩⟩
theorem mRow.weak {σ : mS} {A B : Nat → Prop} {r : Nat} {u : mTk} (R : mRow σ A r u) (h : ∀ p, A p → B p) : mRow σ B r u := by
  obtain ⟨g1, g2, g3, a, g4, g5, g6⟩ := R
  exact ⟨g1, g2, g3, a, g4, g5, fun j hj => ⟨h _ (g6 j hj).1, (g6 j hj).2⟩⟩
def kA (p0 n p : Nat) : Prop := p0 ≤ p ∧ p < p0 + n
/-- rows up to i are kept already, those behind it lie where they were read -/
def kI (σ0 σ : mS) (p0 s : Nat) (ts : List mTk) (i : Nat) : Prop := σ.2.1 90 s = nI ts.length ∧ σ.1 1 = nI (p0 + mt_tl (ts.take i)) ∧ (∀ j (h : j < ts.length), mRow σ (if j < i then kA p0 (mt_tl (ts.take i)) else rA 60) (mb s + j) ts[j]) ∧ mKp (fun k => k = 1) mN2 (kA p0 (mt_tl ts)) (fun x => x = s) σ0 σ
theorem mt_tl_take {ts : List mTk} {i : Nat} (h : i < ts.length) : mt_tl (ts.take (i + 1)) = mt_tl (ts.take i) + ts[i].2.2.2.length := by
  rw [List.take_succ, List.getElem?_eq_getElem h, mt_tl_app]
  simp [mt_tl]
theorem mt_tl_le (ts : List mTk) (i : Nat) : mt_tl (ts.take i) ≤ mt_tl ts := by
  have := mt_tl_app (ts.take i) (ts.drop i)
  rw [List.take_append_drop] at this
  omega
section RK
variable {X : List Int32} {d : Nat} {Q : Option Value → mS → Prop} {D : List Nat}
theorem t148_33 {σ0 : mS} {p0 s i : Nat} {ts : List mTk} (hs : s < 27) (hcap : ts.length ≤ 32) (hb : p0 + mt_tl ts ≤ 600) (hi : i < ts.length) (hk : ts[i].1 = 2)
    (H : ∀ σ' i3, kI σ0 σ' p0 s ts (i + 1) → mM X (d + 3) 148 13 [some (.ref 86), some (.int (nI s)), some (.int (nI (mb s + (i + 1)))), some (.int i3)] [] σ' Q) : ∀ (m j : Nat) (σ : mS), j + m = ts[i].2.2.2.length → kI σ0 σ p0 s ts i → (∀ j' (h : j' < ts[i].2.2.2.length), j' < j → mg σ (p0 + mt_tl (ts.take i) + j') = ts[i].2.2.2[j']) →
    mM X (d + 3) 148 33 [some (.ref 86), some (.int (nI s)), some (.int (nI (mb s + i))), some (.int (nI j))] [] σ Q := by
  have hms : mb s + 32 ≤ 9856 := by unfold mb; rw [if_pos hs]; omega
  have htk := mt_tl_take hi
  have hle1 := mt_tl_le ts (i + 1)
  intro m
  induction m with
  | zero =>
    intro j σ hj I hg
    obtain ⟨i1, i2, i3, i4⟩ := I
    have R := i3 i hi
    rw [if_neg (Nat.lt_irrefl i)] at R
    obtain ⟨a, w, hta, htx⟩ := R.w
    have hk4 := R.1
    have hl64 := R.2.1
    have hn64 := R.2.2.1
    have hr : mb s + i < 9856 := by omega
    refine u148_33 (s153 hr w ⟨_, rfl, pk_le ts[i].2.2.2.length j (fun _ => s153 hr w ⟨_, rfl, ?_⟩) (fun h => absurd h (by omega))⟩)
    dsimp only
    rw [i2]
    refine s140 hr w hn64 (by omega) ?_
    rintro σ1 rfl
    have w1 : mW ((uL σ 89 (mb s + i) (lN (ml_p ts[i].1 ts[i].2.1 ts[i].2.2.2.length (p0 + mt_tl (ts.take i)) ts[i].2.2.1.toBitVec.toNat))).2.2 89 (mb s + i)) ts[i].1 ts[i].2.1 ts[i].2.2.2.length (p0 + mt_tl (ts.take i)) ts[i].2.2.1.toBitVec.toNat := by
      refine ⟨by unfold uL; simp, hk4, hl64, hn64, by omega, ts[i].2.2.1.toBitVec.isLt⟩
    refine ⟨rfl, s153 hr w1 ⟨_, rfl, ?_⟩⟩
    dsimp only
    rw [show (uL σ 89 (mb s + i) (lN (ml_p ts[i].1 ts[i].2.1 ts[i].2.2.2.length (p0 + mt_tl (ts.take i)) ts[i].2.2.1.toBitVec.toNat))).1 1 = nI (p0 + mt_tl (ts.take i)) from i2, nI_add, Nat.add_assoc, ← htk, nI_1, Nat.add_assoc]
    rintro σ2 rfl
    refine H _ _ ⟨?_, ?_, ?_, ?_⟩
    · exact i1
    · unfold mSet; simp
    · intro j' hj'
      by_cases e : j' = i
      · subst e
        rw [if_pos (Nat.lt_succ_self _)]
        refine ⟨hk4, hl64, hn64, p0 + mt_tl (ts.take j'), by omega, ?_, fun q hq => ⟨?_, ?_⟩⟩
        · unfold mSet uL; simp
        · unfold kA; omega
        · exact hg q hq (by omega)
      · have Rj := i3 j' hj'
        have e2 : (if j' < i + 1 then kA p0 (mt_tl (ts.take (i + 1))) else rA 60) = (if j' < i then kA p0 (mt_tl (ts.take (i + 1))) else rA 60) := by
          by_cases h : j' < i
          · rw [if_pos h, if_pos (by omega)]
          · rw [if_neg h, if_neg (by omega)]
        rw [e2]
        have Rk := Rj.keep (σ' := mSet (uL σ 89 (mb s + i) (lN (ml_p ts[i].1 ts[i].2.1 ts[i].2.2.2.length (p0 + mt_tl (ts.take i)) ts[i].2.2.1.toBitVec.toNat))) 1 (nI (p0 + mt_tl (ts.take (i + 1))))) (by unfold mSet uL; simp; intro h; omega) (fun p _ => rfl)
        refine Rk.weak (fun p => ?_)
        by_cases h : j' < i
        · rw [if_pos h, if_pos h]; unfold kA; omega
        · rw [if_neg h, if_neg h]; exact id
    · refine i4.tr ⟨fun k hk => ?_, fun b j' _ _ => rfl, fun p _ => rfl, fun s' hs' hw => ⟨rfl, fun q hq => ?_⟩⟩
      · unfold mSet uL; simp only; rw [if_neg hk]
      · have : mb s' + q ≠ mb s + i := mb_dis hw hs' (by omega) hq (by unfold mcp; rw [if_pos hs]; omega)
        unfold mSet uL; simp [this]
  | succ m ih =>
    intro j σ hj I hg
    obtain ⟨i1, i2, i3, i4⟩ := id I
    have R := i3 i hi
    rw [if_neg (Nat.lt_irrefl i)] at R
    obtain ⟨a, w, hta, htx⟩ := R.w
    have hr : mb s + i < 9856 := by omega
    have hjl : j < ts[i].2.2.2.length := by omega
    have hn64 := R.2.2.1
    obtain ⟨x1, x2⟩ := htx j hjl
    have x3 := mg_lt σ (a + j)
    refine u148_33 (s153 hr w ⟨_, rfl, pk_le ts[i].2.2.2.length j (fun h => absurd h (by omega)) (fun _ => s152 hr w ⟨_, rfl, ?_⟩)⟩)
    dsimp only
    rw [nI_add]
    refine s154 (by omega) ⟨_, rfl, ?_⟩
    dsimp only
    rw [i2, nI_add]
    refine s138 (by omega) x3 ?_
    rintro σ1 rfl
    have K1 : mKp mN1 mN2 (fun q => q = p0 + mt_tl (ts.take i) + j) mN1 σ (gP σ (p0 + mt_tl (ts.take i) + j) (mg σ (a + j))) := gP_kp x3
    refine ⟨rfl, ?_⟩
    rw [nI_1]
    refine ih (j + 1) _ (by omega) ⟨i1, i2, fun j' hj' => ?_, i4.tr (K1.mono (fun _ h => h.elim) (fun _ _ h => h) (fun p h => by unfold kA; omega) (fun _ h => h.elim))⟩ ?_
    · refine (i3 j' hj').keep ?_ (fun p hp => K1.2.2.1 p ?_)
      · unfold gP uL; simp
      · by_cases h : j' < i
        · rw [if_pos h] at hp; unfold kA at hp; omega
        · rw [if_neg h] at hp; unfold rA at hp; omega
    · intro j' hj' hlt
      rw [mg_gP x3]
      by_cases e : j' = j
      · subst e
        rw [if_pos rfl]; exact x2
      · rw [if_neg (by omega)]
        exact hg j' hj' (by omega)
theorem t148_13 {σ0 : mS} {p0 s : Nat} {ts : List mTk} (hs : s < 27) (hcap : ts.length ≤ 32) (hb : p0 + mt_tl ts ≤ 600) (htx : ∀ u ∈ ts, u.1 ≠ 2 → u.2.2.2 = []) (H : ∀ σ', kI σ0 σ' p0 s ts ts.length → Q none σ') : ∀ (m i : Nat) (σ : mS) (o3 : Option Value), i + m = ts.length → kI σ0 σ p0 s ts i →
    mM X (d + 3) 148 13 [some (.ref 86), some (.int (nI s)), some (.int (nI (mb s + i))), o3] [] σ Q := by
  have hms : mb s + 32 ≤ 9856 := by unfold mb; rw [if_pos hs]; omega
  intro m
  induction m with
  | zero =>
    intro i σ o3 hi I
    have e : i = ts.length := by omega
    subst e
    exact u148_13 (s143 (by omega) I.1 ⟨_, rfl, ⟨fun _ => H σ I, fun h => absurd (Int32.le_refl _) h⟩⟩)
  | succ m ih =>
    intro i σ o3 hi I
    have hil : i < ts.length := by omega
    obtain ⟨i1, i2, i3, i4⟩ := id I
    have R := i3 i hil
    rw [if_neg (Nat.lt_irrefl i)] at R
    obtain ⟨a, w, hta, htx'⟩ := R.w
    have hk4 := R.1
    have hr : mb s + i < 9856 := by omega
    refine u148_13 (s143 (by omega) i1 ⟨_, rfl, pk_le (mb s + ts.length) (mb s + i) (fun h => absurd h (by omega)) (fun _ => s144 hr w ⟨_, rfl, ?_⟩)⟩)
    refine pk_eq ts[i].1 2 (B := _) (A := _) (fun e2 => ?_) (fun e2 => ?_) |>.symm
    · refine t148_33 (d := d) hs hcap hb hil e2 (fun σ' i3 I' => ih (i + 1) σ' _ (by omega) I') ts[i].2.2.2.length 0 σ (by omega) I (fun j' _ h => absurd h (by omega))
    · rw [nI_1, Nat.add_assoc]
      have e0 := htx ts[i] (List.getElem_mem hil) e2
      have htk := mt_tl_take hil
      rw [e0] at htk
      simp only [List.length_nil, Nat.add_zero] at htk
      refine ih (i + 1) σ _ (by omega) ⟨i1, by rw [htk]; exact i2, fun j' hj' => ?_, i4⟩
      by_cases e : j' = i
      · subst e
        rw [if_pos (Nat.lt_succ_self _)]
        obtain ⟨g1, g2, g3, a, g4, g5, g6⟩ := R
        exact ⟨g1, g2, g3, a, g4, g5, fun q hq => absurd hq (by rw [e0]; simp)⟩
      · have := i3 j' hj'
        by_cases h : j' < i
        · rw [if_pos h] at this
          rw [if_pos (by omega), htk]; exact this
        · rw [if_neg h] at this
          rw [if_neg (by omega)]; exact this
theorem mt_tk_tx : ∀ (t : mT) (l : Nat), ∀ u ∈ mt_tk t l, u.1 ≠ 2 → u.2.2.2 = [] := by
  intro t
  induction t using mt_ind with
  | hs s =>
    intro l u hu h
    rw [mt_tk_leaf, List.mem_singleton] at hu
    subst hu
    rcases s with _ | n | s
    · rfl
    · rfl
    · exact absurd rfl h
  | hl t ht ih =>
    intro l u hu h
    rw [mt_tk_list ht] at hu
    rcases List.mem_cons.mp hu with rfl | hu
    · rfl
    · simp only [mt_tks, List.mem_flatten, List.mem_map] at hu
      obtain ⟨_, ⟨x, hx, rfl⟩, hu⟩ := hu
      exact ih x hx (l + 1) u hu h
/-- keep -/
theorem t148 {σ : mS} {t : mT} {p0 s : Nat} (S : mSlot σ (rA D.length) 141 (mt_tk t 0)) (hD : D.length ≤ 60) (hs : s < 27) (hp : σ.1 1 = nI p0) (hb : p0 + mt_tl (mt_tk t 0) ≤ 600) (hrw : (mt_tk t 0).length ≤ 30) (hdp : mt_dp t < 64)
    (H : ∀ σ', mKp (fun k => k = 1) mN2 (kA p0 (mt_tl (mt_tk t 0))) (fun x => x = s) σ σ' → σ'.1 1 = nI (p0 + mt_tl (mt_tk t 0)) → mSlot σ' (kA p0 (mt_tl (mt_tk t 0))) s (mt_tk t 0) → Q none σ') : mM X (d + 5) 148 0 (mm_L0 148 [.ref 86, .int (nI s)]) [] σ Q := by
  have hcp : mcp s = 32 := by unfold mcp; rw [if_pos hs]
  refine u148_0 (t149 (s := 141) S (by omega) (by omega) (by rw [hcp]; omega) hdp ?_)
  intro σ1 K1 S1
  refine ⟨rfl, s123 (by omega) ⟨_, rfl, ?_⟩⟩
  obtain ⟨h1, h2, h3, h4⟩ := S1
  refine t148_13 (d := d + 2) (σ0 := σ) (p0 := p0) (ts := mt_tk t 0) hs (by omega) hb (mt_tk_tx t 0) ?_ (mt_tk t 0).length 0 σ1 none (by omega) ⟨h3, ?_, fun j hj => ?_, ?_⟩
  · intro σ2 ⟨j1, j2, j3, j4⟩
    rw [List.take_length] at j2 j3
    refine H σ2 j4 j2 ⟨h1, h2, j1, fun j hj => ?_⟩
    have := j3 j hj
    rw [if_pos hj] at this; exact this
  · rw [K1.1 1 id, hp]; simp [mt_tl]
  · rw [if_neg (by omega)]
    exact (h4 j hj).weak (fun p a => rA_up hD a)
  · exact K1.mono (fun _ h => h.elim) (fun _ _ h => h) (fun _ h => h.elim) (fun _ h => h)
/-- keepValue -/
theorem t134 {σ : mS} {g : Int32} {p0 s : Nat} (hg : g = 0 ∨ g = 1) (hD : sD σ D) (hs : s < 27) (hp : σ.1 1 = nI p0) (hb : p0 + D.length ≤ 600)
    (H1 : g = 1 → ∀ t, pD D = some t → ∀ σ', mKp (fun k => k = 1 ∨ k = 3) mN2 (fun p => kA p0 (mt_tl (mt_tk t 0)) p ∨ rP 0 p) (fun x => x = s ∨ x = 141) σ σ' → sD σ' [] → σ'.1 1 = nI (p0 + mt_tl (mt_tk t 0)) → mSlot σ' (kA p0 (mt_tl (mt_tk t 0))) s (mt_tk t 0) → Q (some (.int 1)) σ')
    (H0 : g = 0 ∨ pD D = none → ∀ σ', mKp (fun k => k = 3) mN2 (rP 0) (fun x => x = 141) σ σ' → sD σ' [] → Q (some (.int 0)) σ') : mM X (d + 7) 134 0 (mm_L0 134 [.ref 86, .int g, .int (nI s)]) [] σ Q := by
  have dn : ∀ σ1 : mS, sD (mSet σ1 3 0) [] := fun σ1 => ⟨⟨by simp, fun c hc => nomatch hc⟩, by unfold mSet; simp; rfl, fun i hi => absurd hi (by simp)⟩
  have ks : ∀ σ1 : mS, mKp (fun k => k = 3) mN2 mN1 mN1 σ1 (mSet σ1 3 0) := fun σ1 => ⟨fun k hk => by unfold mSet; simp [hk], fun _ _ _ _ => rfl, fun _ _ => rfl, fun _ _ _ => ⟨rfl, fun _ _ => rfl⟩⟩
  have low : ∀ σ1, rK σ σ1 → (g = 0 ∨ pD D = none) → mM X (d + 7) 134 16 [some (.ref 86), some (.int g), some (.int (nI s)), none] [.int 0] σ1 Q := by
    intro σ1 K1 hz
    refine u134_16 ⟨fun _ σ2 e => ⟨Or.inl rfl, ?_⟩, fun h => absurd rfl h⟩
    subst e
    refine H0 hz _ ?_ (dn σ1)
    exact (K1.mono (fun _ h => h.elim) (fun _ _ h => h) (fun _ h => h) (fun _ h => h)).tr ((ks σ1).mono (fun _ h => h) (fun _ _ h => h) (fun _ h => h.elim) (fun _ h => h.elim))
  refine u134_0 ⟨fun h => low σ mKp.rf (Or.inl h), fun h => ?_⟩
  have g1 : g = 1 := by rcases hg with hg | hg; exact absurd hg h; exact hg
  refine t135 hD ?_ ?_
  · intro t ht σ1 K1 S1
    obtain ⟨z1, z2⟩ := pD_sz hD.1 ht
    obtain ⟨gd, _⟩ := pD_gd hD.1 ht
    have hdp := mt_gl_dp t 0 gd (by omega)
    refine ⟨_, rfl, fun h => absurd h (by decide), fun _ => ?_⟩
    refine u134_16 ⟨fun h => absurd h (by decide), fun _ => ?_⟩
    refine t148 (d := d + 1) (D := D) S1 hD.1.1 hs (by rw [K1.1 1 id]; exact hp) (by omega) z1 (by omega) ?_
    intro σ2 K2 p2 S2
    refine ⟨rfl, ?_⟩
    rintro σ3 rfl
    refine ⟨Or.inr rfl, H1 g1 t ht _ ?_ (dn σ2) ?_ ?_⟩
    · exact ((K1.mono (fun _ h => h.elim) (fun _ _ h => h) (fun _ h => Or.inr h) (fun _ h => Or.inr h)).tr (K2.mono (fun _ h => Or.inl h) (fun _ _ h => h) (fun _ h => Or.inl h) (fun _ h => Or.inl h))).tr ((ks σ2).mono (fun _ h => Or.inr h) (fun _ _ h => h) (fun _ h => h.elim) (fun _ h => h.elim))
    · unfold mSet; simp; exact p2
    · exact S2.keep (ks σ2) id (fun _ _ => id)
  · intro hn σ1 K1
    exact ⟨_, rfl, fun _ => low σ1 K1 (Or.inr hn), fun h => absurd rfl h⟩
end RK
