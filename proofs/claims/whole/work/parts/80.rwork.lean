/-! RULES WORKED by the reference: follow -/
section RF
variable {X : List Int32} {d : Nat} {σ : mS} {Q : Option Value → mS → Prop} {D : List Nat} {w : Nat}
theorem sRu.keep {σ σ' : mS} {F : Nat → Prop} {B : Nat → Nat → Prop} {P W : Nat → Prop} (h : sRu σ w D) (K : mKp F B P W σ σ') (h4 : ∀ j, ¬ B 104 j) (h5 : ∀ j, ¬ B 105 j) : sRu σ' w D :=
  ⟨h.1, (K.2.1 105 w (by decide) (h5 w)).trans h.2.1, fun i hi => (K.2.1 104 _ (by decide) (h4 _)).trans (h.2.2 i hi)⟩
/-- ruleAt -/
theorem t180 {k : Nat} {x : Int32} (h : sRu σ w D) (hw : w < 30) (hx : x = nI k) (hk : k < 2 ^ 30) (H : Q (some (.int (nI (mc D k)))) σ) : mM X (d + 1) 180 0 (mm_L0 180 [.ref 86, .int (nI w), .int x]) [] σ Q := by
  subst hx
  obtain ⟨⟨h1, h1'⟩, h2, h3⟩ := h
  refine u180_0 ⟨m_ix hw (by decide), ?_⟩
  rw [mGet_e (by omega), h2]
  refine pk_le D.length k (fun g => ?_) (fun g => ?_)
  · rw [mc_0 g] at H; exact H
  · have := (h1' _ (mc_in g)).2
    rw [show (60 : Int32) = nI 60 from rfl, pk_mul, nI_add, mGet_e (by omega), h3 k g]
    exact ⟨m_ix (by omega) (by decide), m_cb (by omega), H⟩
theorem t180c {k c : Nat} {x C : Int32} {NA NB : mS → Prop} (h : sRu σ w D) (hw : w < 30) (hx : x = nI k) (hC : C = nI c) (hk : k < 2 ^ 30) (hc : c < 2 ^ 30) (HA : mc D k = c → NA σ) (HB : mc D k ≠ c → NB σ) : mM X (d + 1) 180 0 (mm_L0 180 [.ref 86, .int (nI w), .int x]) [] σ (mi_K (fun y σ' => ((¬ y = C → NB σ') ∧ (y = C → NA σ')))) := by
  subst hC
  have := mc_lt h.1 k
  exact t180 h hw hx hk ⟨_, rfl, ⟨fun e => HB (fun g => e (by rw [g])), fun e => HA ((nI_eq (by omega) (by omega)).mp e)⟩⟩
/-- where a reference has led: row (35), counted (36), slot z -/
def fI (A : Nat → Prop) (σ : mS) (z : Int32) (v : Option mT) : Prop := match v with
  | none => σ.1 35 = -2
  | some t => mt_g t ∧ ((σ.1 35 = -3 ∧ t = .leaf none) ∨ (σ.1 35 = -1 ∧ ∃ n, n ≤ 24 ∧ t = .leaf (some (.inl (nI n))) ∧ σ.1 36 = nI n) ∨ ∃ s pre l rest ts, z = nI s ∧ σ.1 35 = nI (mb s + pre.length) ∧ mSlot σ A s ts ∧ ts = pre ++ (mt_tk t l ++ rest) ∧ mt_cl l rest)
def fK (σ σ' : mS) : Prop := mKp (fun k => k = 35 ∨ k = 36 ∨ k = 38) mN2 mN1 mN1 σ σ'
theorem fK.rf {σ : mS} : fK σ σ := mKp.rf
theorem fK.tr {a b c : mS} (h : fK a b) (k : fK b c) : fK a c := mKp.tr h k
theorem fK.set {σ : mS} {k : Nat} {v : Int32} (hk : k = 35 ∨ k = 36 ∨ k = 38) : fK σ (mSet σ k v) := ⟨fun j hj => by rw [mSet_g, if_neg (fun e => hj (by omega))], fun _ _ _ _ => rfl, fun _ _ => rfl, fun _ _ _ => ⟨rfl, fun _ _ => rfl⟩⟩
theorem mSlot.set {A : Nat → Prop} {σ : mS} {s k : Nat} {v : Int32} {ts : List mTk} (S : mSlot σ A s ts) : mSlot (mSet σ k v) A s ts := S
theorem mt_g_neg {t : mT} {a : Nat} (h : t = .leaf none ∨ ∃ n, t = .leaf (some (.inl n))) : rSt (some t) a = none := by
  unfold rSt
  rw [Option.bind_some]
  rcases h with rfl | ⟨n, rfl⟩
  · split
    · rw [if_neg (by simp [mt_k])]
    · simp [mt_els]
  · split
    · rw [if_neg (by simp [mt_k])]
    · simp [mt_els]
theorem t181_83 {A : Nat → Prop} {i2 i3 i4 i5 z : Int32} (hw : w < 30) : ∀ (n k : Nat) (as : List Nat) (k' : Nat) (v : Option mT) (σ : mS) (o8 o9 o10 : Option Value), sRu σ w D → k ≤ D.length → D.length - k + 1 ≤ n → rAcc D n k = some (as, k') → fI A σ z v →
    (∀ σ', fK σ σ' → fI A σ' z (rGo v as) → σ'.1 38 = z → Q (some (.int (nI k'))) σ') →
    mM X (d + 4) 181 83 [some (.ref 86), some (.int (nI w)), some (.int i2), some (.int i3), some (.int i4), some (.int i5), some (.int z), some (.int (nI k)), o8, o9, o10] [] σ Q := by
  intro n
  induction n with
  | zero => intro k as k' v σ o8 o9 o10 _ _ h; omega
  | succ n ih =>
    intro k as k' v σ o8 o9 o10 hR hk hn hacc hf H
    have h60 := hR.1.1
    have b0 := mc_lt hR.1 k
    have b1 := mc_lt hR.1 (k + 1)
    refine u181_83 (t180 hR hw rfl (by omega) ⟨_, rfl, pk_eq (mc D k) 41 (fun e41 => ?_) (fun e41 => ?_)⟩)
    · rw [rAcc, if_pos e41] at hacc
      cases hacc
      rintro σ1 rfl
      rw [nI_1]
      refine H _ (fK.set (Or.inr (Or.inr rfl))) ?_ (by rw [mSet_g, if_pos rfl])
      show fI A (mSet σ 38 z) z v
      cases v with
      | none => exact hf
      | some t => exact hf
    · -- what stands here
      have step : ∀ (a : Nat) (j : Nat) (i8 i9 : Int32), (a = 308 ∧ i8 = 0 ∧ j = 7 ∨ ∃ m : Nat, m ≤ 7 ∧ a = 300 + m ∧ i8 = 1 ∧ i9 = nI m ∧ j = 3) → (∀ σ' o10, fK σ σ' → fI A σ' z (rSt v a) → mM X (d + 4) 181 83 [some (.ref 86), some (.int (nI w)), some (.int i2), some (.int i3), some (.int i4), some (.int i5), some (.int z), some (.int (nI k + nI j)), some (.int i8), some (.int i9), o10] [] σ' Q) → mM X (d + 4) 181 135 [some (.ref 86), some (.int (nI w)), some (.int i2), some (.int i3), some (.int i4), some (.int i5), some (.int z), some (.int (nI k)), some (.int i8), o9, o10] [.int i9] σ Q := by
        intro a j i8 i9 ha HS
        have go : ∀ σ' o10, fK σ σ' → fI A σ' z (rSt v a) → mM X (d + 4) 181 268 [some (.ref 86), some (.int (nI w)), some (.int i2), some (.int i3), some (.int i4), some (.int i5), some (.int z), some (.int (nI k)), some (.int i8), some (.int i9), o10] [] σ' Q := by
          intro σ' o10 K F
          have := HS σ' o10 K F
          rcases ha with ⟨_, rfl, rfl⟩ | ⟨m, _, _, rfl, _, rfl⟩
          · exact u181_268 ⟨fun _ => this, fun g => absurd rfl g⟩
          · exact u181_268 ⟨fun g => absurd g (by decide), fun _ => this⟩
        have bad : rSt v a = none → ∀ o10, ∀ σ1, σ1 = mSet σ 35 (-2 : Int32) → mM X (d + 4) 181 268 [some (.ref 86), some (.int (nI w)), some (.int i2), some (.int i3), some (.int i4), some (.int i5), some (.int z), some (.int (nI k)), some (.int i8), some (.int i9), o10] [] σ1 Q := by
          rintro e o10 σ1 rfl
          refine go _ o10 (fK.set (Or.inl rfl)) ?_
          rw [e]
          show (mSet σ 35 (-2)).1 35 = -2
          rw [mSet_g, if_pos rfl]
        refine u181_135 ?_
        cases v with
        | none =>
          have e : σ.1 35 = -2 := hf
          rw [e]
          exact ⟨fun _ => bad rfl _, fun g => absurd (by decide) g⟩
        | some t =>
          obtain ⟨g, hf | hf | hf⟩ := hf
          · rw [hf.1]
            exact ⟨fun _ => bad (mt_g_neg (Or.inl hf.2)) _, fun g => absurd (by decide) g⟩
          · obtain ⟨e, m, _, et, _⟩ := hf
            rw [e]
            exact ⟨fun _ => bad (mt_g_neg (Or.inr ⟨_, et⟩)) _, fun g => absurd (by decide) g⟩
          · obtain ⟨s, pre, l, rest, ts, ez, er, S, et, hc⟩ := hf
            obtain ⟨u, us, eu, ek, el, en, ex⟩ := mt_tk_ne t l
            have hu : ts[pre.length]? = some u := by rw [et, eu]; simp
            have hlt := S.lt
            have hpl := (List.getElem?_eq_some_iff.mp hu).1
            obtain ⟨hr, R⟩ := S.at hu
            have hk4 := R.1
            have hn64 := R.2.2.1
            obtain ⟨gz, g8⟩ := mt_g_sz g
            rw [er]
            refine ⟨fun g => absurd g (nI_pos (by omega)), fun _ => t144 S hu ⟨_, rfl, ?_⟩⟩
            -- a length, or an element of a list
            have mid : mt_k t = 3 ∨ (i8 = 0 ∧ mt_k t = 2) → mM X (d + 4) 181 182 [some (.ref 86), some (.int (nI w)), some (.int i2), some (.int i3), some (.int i4), some (.int i5), some (.int z), some (.int (nI k)), some (.int i8), some (.int i9), o10] [] σ Q := by
              intro hk3
              have low : ∀ e : Nat, e = mt_sz t → (i8 = 0 ∨ mt_k t = 3) → mM X (d + 4) 181 219 [some (.ref 86), some (.int (nI w)), some (.int i2), some (.int i3), some (.int i4), some (.int i5), some (.int z), some (.int (nI k)), some (.int i8), some (.int i9), o10] [.int (nI e)] σ Q := by
                intro e he hx
                refine u181_219 ?_
                rintro σ1 rfl
                have K1 : fK σ (mSet σ 36 (nI e)) := fK.set (Or.inr (Or.inl rfl))
                rcases ha with ⟨ea, rfl, rfl⟩ | ⟨m, hm, ea, rfl, rfl, rfl⟩
                · refine ⟨fun g => absurd rfl g, fun _ => ?_⟩
                  rintro σ2 rfl
                  refine go _ _ (K1.tr (fK.set (Or.inl rfl))) ?_
                  have eS : rSt (some t) a = some (.leaf (some (.inl (nI (mt_sz t))))) := by
                    unfold rSt
                    rw [Option.bind_some, if_pos ea, if_pos (by rcases hk3 with h | h <;> omega)]
                  rw [eS]
                  have rg := (mn_rg (a := mt_sz t) (by omega)).1
                  have lg : mt_lg (some (.inl (nI (mt_sz t)))) := rg
                  refine ⟨⟨3, by omega, mt_gl_leaf lg⟩, Or.inr (Or.inl ⟨by rw [mSet_g, if_pos rfl], mt_sz t, gz, rfl, ?_⟩)⟩
                  rw [mSet_g, if_neg (by decide), mSet_g, if_pos rfl, he]
                · have h3 : mt_k t = 3 := by
                    rcases hx with h | h
                    · exact absurd h (by decide)
                    · exact h
                  have hL := mt_k3.mp h3
                  have esz : mt_sz t = (mt_els t).length := by unfold mt_sz; rw [if_pos hL]
                  have eS : rSt (some t) a = (mt_els t)[m]? := by
                    unfold rSt
                    rw [Option.bind_some, if_neg (by omega), show a - 300 = m by omega]
                  refine ⟨fun _ => pk_le e m (fun hle => ?_) (fun hgt => ?_), fun g => absurd g (by decide)⟩
                  · rintro σ2 rfl
                    refine go _ _ (K1.tr (fK.set (Or.inl rfl))) ?_
                    rw [eS, List.getElem?_eq_none (by omega)]
                    show (mSet (mSet σ 36 (nI e)) 35 (-2)).1 35 = -2
                    rw [mSet_g, if_pos rfl]
                  · have hml : m < (mt_els t).length := by omega
                    rw [ez, show (mSet σ 36 (nI e)).1 35 = nI (mb s + pre.length) from er]
                    refine s143 (σ := mSet σ 36 (nI e)) S.1 S.2.2.1 ⟨_, rfl, t178 (σ := mSet σ 36 (nI e)) S.set et hc rfl rfl hml (by omega) ⟨_, rfl, ?_⟩⟩
                    rintro σ2 rfl
                    rw [ez] at go
                    refine go _ _ (K1.tr (fK.set (Or.inl rfl))) ?_
                    rw [eS, List.getElem?_eq_getElem hml]
                    refine ⟨mt_g_el g (List.getElem_mem hml), Or.inr (Or.inr ⟨s, pre ++ ((3, l, 0, []) :: mt_tks ((mt_els t).take m) (l + 1)), l + 1, mt_tks ((mt_els t).drop (m + 1)) (l + 1) ++ rest, ts, rfl, ?_, S.set.set, ?_, ?_⟩)⟩
                    · rw [mSet_g, if_pos rfl]
                      congr 1
                      simp; omega
                    · rw [et, mt_tk_list hL]
                      have : mt_els t = (mt_els t).take m ++ ((mt_els t)[m] :: (mt_els t).drop (m + 1)) := by
                        rw [← List.drop_eq_getElem_cons hml, List.take_append_drop]
                      have e2 : mt_tks (mt_els t) (l + 1) = mt_tks ((mt_els t).take m) (l + 1) ++ (mt_tk (mt_els t)[m] (l + 1) ++ mt_tks ((mt_els t).drop (m + 1)) (l + 1)) := by
                        rw [← mt_tks_cons, ← mt_tks_app, ← this]
                      rw [e2]
                      simp
                    · exact mt_cl_tks (mt_cl_up hc)
              refine u181_182 ?_
              rw [er]
              refine t144 S hu ⟨_, rfl, pk_ne u.1 3 (fun e3 => ?_) (fun e3 => ?_)⟩
              · have h3 : mt_k t = 3 := by rw [← ek]; exact e3
                have hL := mt_k3.mp h3
                rw [ez, er]
                refine s143 S.1 S.2.2.1 ⟨_, rfl, t146 S et hc rfl rfl ⟨_, rfl, ?_⟩⟩
                have := low (mt_els t).length (by unfold mt_sz; rw [if_pos hL]) (Or.inr h3)
                rw [ez] at this
                exact this
              · have h3 : ¬ mt_k t = 3 := fun g => e3 (by rw [ek]; exact g)
                have hL : ¬ mt_isL t = true := fun g => h3 (mt_k3.mpr g)
                rw [er]
                refine t153 S hu ⟨_, rfl, ?_⟩
                rw [ex]
                refine low (mt_txt t).length (by unfold mt_sz; rw [if_neg hL]) ?_
                rcases hk3 with h | h
                · exact absurd h h3
                · exact Or.inl h.1
            refine pk_eq u.1 3 (fun e3 => mid (Or.inl (by rw [← ek]; exact e3))) (fun e3 => ?_)
            have h3 : ¬ mt_k t = 3 := fun g => e3 (by rw [ek]; exact g)
            have hL : ¬ mt_isL t = true := fun g => h3 (mt_k3.mpr g)
            obtain ⟨sc, esc⟩ := mt_leaf hL
            have hels : mt_els t = [] := by rw [esc]; rfl
            rcases ha with ⟨ea, e8, ej⟩ | ⟨m, hm, ea, e8, e9, ej⟩
            · refine ⟨fun g => absurd e8 g, fun _ => ?_⟩
              rw [er]
              refine t144 S hu ⟨_, rfl, pk_eq u.1 2 (fun e2 => mid (Or.inr ⟨e8, by rw [← ek]; exact e2⟩)) (fun e2 => bad ?_ _)⟩
              unfold rSt
              rw [Option.bind_some, if_pos ea, if_neg (by rw [← ek]; omega)]
            · refine ⟨fun _ => bad ?_ _, fun g => absurd g (by rw [e8]; decide)⟩
              unfold rSt
              rw [Option.bind_some, if_neg (by omega), hels]; rfl
      rw [rAcc, if_neg e41] at hacc
      refine t180c (k := k) (c := 91) hR hw rfl rfl (by omega) (by decide) (fun e91 => ?_) (fun e91 => ?_)
      · have hns : ¬ st [46, 108, 101, 110, 103, 116, 104] D k = true := fun g => by have := (st_len.mp g).1; omega
        rw [if_neg hns] at hacc
        by_cases he : mc D k = 91 ∧ 48 ≤ mc D (k + 1) ∧ mc D (k + 1) ≤ 55 ∧ mc D (k + 2) = 93
        · rw [if_pos he, Option.map_eq_some_iff] at hacc
          obtain ⟨p, h1, e⟩ := hacc
          cases e
          have hl := mc_ne (D := D) (k := k + 2) (by omega)
          refine u181_112 ⟨fun g => absurd g (by decide), fun _ => t180 hR hw (nI_add k 1) (by omega) ⟨_, rfl, ?_⟩⟩
          dsimp only
          rw [show (48 : Int32) = nI 48 from rfl, pk_sub he.2.1]
          refine step (300 + (mc D (k + 1) - 48)) 3 1 _ (Or.inr ⟨mc D (k + 1) - 48, by omega, rfl, rfl, rfl, rfl⟩) (fun σ1 o10' K1 F1 => ?_)
          rw [nI_add]
          exact ih (k + 3) p.1 p.2 _ σ1 _ _ _ (hR.keep K1 (fun _ => id) (fun _ => id)) (by omega) (by omega) h1 F1 (fun σ2 K2 F2 z2 => H σ2 (K1.tr K2) F2 z2)
        · rw [if_neg he] at hacc; cases hacc
      · by_cases hs : st [46, 108, 101, 110, 103, 116, 104] D k = true
        · rw [if_pos hs, Option.map_eq_some_iff] at hacc
          obtain ⟨p, h1, e⟩ := hacc
          cases e
          have hl := st_le (by decide) hk hs
          simp only [List.length_cons, List.length_nil] at hl
          refine u181_112 ⟨fun _ => ?_, fun g => absurd rfl g⟩
          refine step 308 7 0 0 (Or.inl ⟨rfl, rfl, rfl⟩) (fun σ1 o10' K1 F1 => ?_)
          rw [nI_add]
          exact ih (k + 7) p.1 p.2 _ σ1 _ _ _ (hR.keep K1 (fun _ => id) (fun _ => id)) (by omega) (by omega) h1 F1 (fun σ2 K2 F2 z2 => H σ2 (K1.tr K2) F2 z2)
        · rw [if_neg hs, if_neg (fun g => e91 g.1)] at hacc; cases hacc
end RF
