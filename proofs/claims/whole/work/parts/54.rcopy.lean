/-! THE REFERENCE WRITES TREES -/
/-- all but the fields F, the places B of arrays, the letters P of the pool and the slots W is as it was -/
def mKp (F : Nat → Prop) (B : Nat → Nat → Prop) (P W : Nat → Prop) (σ σ' : mS) : Prop := (∀ k, ¬ F k → σ'.1 k = σ.1 k) ∧ (∀ b j, b ≠ 90 → ¬ B b j → σ'.2.1 b j = σ.2.1 b j) ∧ (∀ p, ¬ P p → mg σ' p = mg σ p) ∧ ∀ s, s < 142 → ¬ W s → σ'.2.1 90 s = σ.2.1 90 s ∧ ∀ i, i < mcp s → σ'.2.2 89 (mb s + i) = σ.2.2 89 (mb s + i)
def mN1 : Nat → Prop := fun _ => False
def mN2 : Nat → Nat → Prop := fun _ _ => False
theorem mKp.rf {F : Nat → Prop} {B : Nat → Nat → Prop} {P W : Nat → Prop} {σ : mS} : mKp F B P W σ σ := ⟨fun _ _ => rfl, fun _ _ _ _ => rfl, fun _ _ => rfl, fun _ _ _ => ⟨rfl, fun _ _ => rfl⟩⟩
theorem mKp.tr {F : Nat → Prop} {B : Nat → Nat → Prop} {P W : Nat → Prop} {a b c : mS} (h : mKp F B P W a b) (k : mKp F B P W b c) : mKp F B P W a c :=
  ⟨fun x hx => (k.1 x hx).trans (h.1 x hx), fun x j hb hx => (k.2.1 x j hb hx).trans (h.2.1 x j hb hx), fun p hp => (k.2.2.1 p hp).trans (h.2.2.1 p hp), fun s hs hw => ⟨((k.2.2.2 s hs hw).1).trans (h.2.2.2 s hs hw).1, fun i hi => ((k.2.2.2 s hs hw).2 i hi).trans ((h.2.2.2 s hs hw).2 i hi)⟩⟩
theorem mKp.mono {F F' : Nat → Prop} {B B' : Nat → Nat → Prop} {P P' W W' : Nat → Prop} {a b : mS} (h : mKp F B P W a b) (hF : ∀ x, F x → F' x) (hB : ∀ x j, B x j → B' x j) (hP : ∀ x, P x → P' x) (hW : ∀ x, W x → W' x) : mKp F' B' P' W' a b :=
  ⟨fun x hx => h.1 x (fun z => hx (hF x z)), fun x j hb hx => h.2.1 x j hb (fun z => hx (hB x j z)), fun p hp => h.2.2.1 p (fun z => hp (hP p z)), fun s hs hw => h.2.2.2 s hs (fun z => hw (hW s z))⟩
theorem mSlot.keep {F : Nat → Prop} {B : Nat → Nat → Prop} {P W A : Nat → Prop} {σ σ' : mS} {s : Nat} {ts : List mTk} (S : mSlot σ A s ts) (K : mKp F B P W σ σ') (hw : ¬ W s) (hp : ∀ p, A p → ¬ P p) : mSlot σ' A s ts := by
  obtain ⟨h1, h2, h3, h4⟩ := S
  obtain ⟨k1, k2⟩ := K.2.2.2 s h1 hw
  refine ⟨h1, h2, k1.trans h3, fun i hi => ?_⟩
  obtain ⟨g1, g2, g3, a, g4, g5, g6⟩ := h4 i hi
  refine ⟨g1, g2, g3, a, g4, (k2 i (by omega)).trans g5, fun j hj => ⟨(g6 j hj).1, ?_⟩⟩
  rw [K.2.2.1 _ (hp _ (g6 j hj).1)]
  exact (g6 j hj).2
theorem mSlot.weak {A A' : Nat → Prop} {σ : mS} {s : Nat} {ts : List mTk} (S : mSlot σ A s ts) (h : ∀ p, A p → A' p) : mSlot σ A' s ts := by
  obtain ⟨h1, h2, h3, h4⟩ := S
  refine ⟨h1, h2, h3, fun i hi => ?_⟩
  obtain ⟨g1, g2, g3, a, g4, g5, g6⟩ := h4 i hi
  exact ⟨g1, g2, g3, a, g4, g5, fun j hj => ⟨h _ (g6 j hj).1, (g6 j hj).2⟩⟩
/-- a further row -/
def mPush (σ : mS) (s z k l n a : Nat) (v : Int32) : mS := uI (uL σ 89 (mb s + z) (lN (ml_p k l n a v.toBitVec.toNat))) 90 s (nI (z + 1))
theorem mAdd_e (σ : mS) (s z k l : Nat) (v : Int32) : mAdd σ s z k l v = mPush σ s z k l 0 0 v := rfl
theorem mPush_mg (σ : mS) (s z k l n a : Nat) (v : Int32) (p : Nat) : mg (mPush σ s z k l n a v) p = mg σ p := by
  unfold mg mPush uI uL
  simp
theorem mPush_row (σ : mS) (s z k l n a : Nat) (v : Int32) (r : Nat) : (mPush σ s z k l n a v).2.2 89 r = if r = mb s + z then lN (ml_p k l n a v.toBitVec.toNat) else σ.2.2 89 r := by
  unfold mPush uI uL
  simp
theorem mPush_sz (σ : mS) (s z k l n a : Nat) (v : Int32) (s' : Nat) : (mPush σ s z k l n a v).2.1 90 s' = if s' = s then nI (z + 1) else σ.2.1 90 s' := by
  unfold mPush uI uL
  simp
theorem mPush_kp {σ : mS} {s z k l n a : Nat} {v : Int32} (hs : s < 142) (hz : z < mcp s) : mKp mN1 mN2 mN1 (· = s) σ (mPush σ s z k l n a v) := by
  refine ⟨fun _ _ => rfl, fun b j hb _ => ?_, fun p _ => mPush_mg _ _ _ _ _ _ _ _ _, fun s' hs' hw => ⟨?_, fun i hi => ?_⟩⟩
  · unfold mPush uI uL
    simp [hb]
  · rw [mPush_sz, if_neg hw]
  · rw [mPush_row, if_neg (mb_dis hw hs' hs hi hz)]
theorem mPush_slot {σ : mS} {A : Nat → Prop} {s : Nat} {us : List mTk} {k l a : Nat} {v : Int32} {txt : List Nat} (D : mSlot σ A s us) (hc : us.length < mcp s) (hk : k < 4) (hl : l < 64) (hn : txt.length < 64) (ha : a + txt.length ≤ 19200) (hx : ∀ j (h : j < txt.length), A (a + j) ∧ mg σ (a + j) = txt[j]) : mSlot (mPush σ s us.length k l txt.length a v) A s (us ++ [(k, l, v, txt)]) := by
  obtain ⟨h1, h2, h3, h4⟩ := D
  refine ⟨h1, by simp; omega, by rw [mPush_sz, if_pos rfl]; simp, fun i hi => ?_⟩
  rw [List.length_append] at hi
  simp only [List.length_cons, List.length_nil] at hi
  by_cases e : i = us.length
  · subst e
    rw [List.getElem_append_right (Nat.le_refl _)]
    simp only [Nat.sub_self, List.getElem_cons_zero]
    refine ⟨hk, hl, hn, a, ha, by rw [mPush_row, if_pos rfl], fun j hj => ⟨(hx j hj).1, ?_⟩⟩
    rw [mPush_mg]; exact (hx j hj).2
  · have hi2 : i < us.length := by omega
    rw [List.getElem_append_left hi2]
    obtain ⟨g1, g2, g3, a', g4, g5, g6⟩ := h4 i hi2
    refine ⟨g1, g2, g3, a', g4, ?_, fun j hj => ⟨(g6 j hj).1, ?_⟩⟩
    · rw [mPush_row, if_neg (by omega)]; exact g5
    · rw [mPush_mg]; exact (g6 j hj).2
theorem mPush_set (σ : mS) (s z k l n a n' a' : Nat) (v : Int32) : uL (mPush σ s z k l n a v) 89 (mb s + z) (lN (ml_p k l n' a' v.toBitVec.toNat)) = mPush σ s z k l n' a' v := by
  unfold mPush uI uL
  refine Prod.ext rfl (Prod.ext rfl ?_)
  funext b j
  by_cases h : b = 89 ∧ j = mb s + z <;> simp [h]
/-- the same tree at another level -/
def mt_lv (l deep : Nat) (u : mTk) : mTk := (u.1, deep + u.2.1 - l, u.2.2)
theorem mt_lv_tk : ∀ (t : mT) (l deep m : Nat), (mt_tk t (l + m)).map (mt_lv l deep) = mt_tk t (deep + m) := by
  intro t
  induction t using mt_ind with
  | hs sc =>
    intro l deep m
    rw [mt_tk_leaf, mt_tk_leaf]
    simp only [List.map_cons, List.map_nil, mt_lv, mt_st]
    congr 2
    congr 1
    omega
  | hl t ht ih =>
    intro l deep m
    rw [mt_tk_list ht, mt_tk_list ht, List.map_cons]
    congr 1
    · simp only [mt_lv]
      congr 2
      omega
    · have : ∀ xs : List mT, (∀ x ∈ xs, x ∈ mt_els t) → (mt_tks xs (l + m + 1)).map (mt_lv l deep) = mt_tks xs (deep + m + 1) := by
        intro xs
        induction xs with
        | nil => intro _; rfl
        | cons x xs ihx =>
          intro hm
          rw [mt_tks_cons, mt_tks_cons, List.map_append, ihx (fun y hy => hm y (List.mem_cons_of_mem _ hy))]
          rw [Nat.add_assoc, ih x (hm x List.mem_cons_self), Nat.add_assoc]
      exact this _ (fun x hx => hx)
theorem mt_lv_tk0 (t : mT) (l deep : Nat) : (mt_tk t l).map (mt_lv l deep) = mt_tk t deep := mt_lv_tk t l deep 0
/-- no row of a tree lies deeper than its depth -/
theorem mt_tk_top : ∀ (t : mT) (l : Nat), ∀ u ∈ mt_tk t l, u.2.1 ≤ l + mt_dp t := by
  intro t
  induction t using mt_ind with
  | hs sc => intro l u hu; rw [mt_tk_leaf] at hu; rcases List.mem_singleton.mp hu with rfl; exact Nat.le_refl _
  | hl t ht ih =>
    intro l u hu
    rw [mt_tk_list ht] at hu
    rcases List.mem_cons.mp hu with rfl | hu
    · exact Nat.le_add_right _ _
    · simp only [mt_tks, List.mem_flatten, List.mem_map] at hu
      obtain ⟨_, ⟨x, hx, rfl⟩, hu⟩ := hu
      have h1 := ih x hx (l + 1) u hu
      have h2 : mt_dp x + 1 ≤ mt_dp t := by
        have h3 : mt_dp t ≤ (mt_dp t - 1) + 1 := by omega
        have h4 := (mt_dp_le ht).mp h3 x hx
        have h5 : 1 ≤ mt_dp t := by rw [mt_dp_list ht]; omega
        omega
      omega
section RC
variable {X : List Int32} {d : Nat} {Q : Option Value → mS → Prop} {A : Nat → Prop} {s : Nat} {ts : List mTk}
theorem t150_11 {i l e to deep st : Nat} {u0 : mTk} {rest : List mTk} (h0 : ts[i]? = some u0) (hl : u0.2.1 = l) (hne : s ≠ to) (hdp : deep < 64) : ∀ (vs : List mTk) (pre us : List mTk) (σ : mS) (q : Nat), mSlot σ A s ts → mSlot σ A to us → ts = pre ++ (vs ++ rest) → q = mb s + pre.length → st = mb s + (pre.length + vs.length) → us.length + vs.length ≤ mcp to → (∀ v ∈ vs, l ≤ v.2.1 ∧ deep + v.2.1 - l < 64) →
    (∀ σ', mKp mN1 mN2 mN1 (· = to) σ σ' → mSlot σ' A to (us ++ vs.map (mt_lv l deep)) → Q none σ') →
    mM X (d + 3) 150 11 [some (.ref 86), some (.int (nI (mb s + i))), some (.int (nI e)), some (.int (nI to)), some (.int (nI deep)), some (.int (nI st)), some (.int (nI q))] [] σ Q := by
  intro vs
  induction vs with
  | nil =>
    intro pre us σ q S D et hq hst hcap hlv H
    subst hq; subst hst
    refine u150_11 ⟨fun _ => H σ mKp.rf (by simpa using D), fun h => absurd (by simp) h⟩
  | cons v vs ih =>
    intro pre us σ q S D et hq hst hcap hlv H
    have hlt := S.lt
    have hg : ts[pre.length]? = some v := by rw [et]; simp
    have hle : pre.length + (v :: vs).length ≤ ts.length := by rw [et]; simp
    rw [List.length_cons] at hst hcap hle
    obtain ⟨hr, R⟩ := S.at hg
    obtain ⟨a, w, hta, htx⟩ := R.w
    obtain ⟨hk4, hl64, hn64, -⟩ := R
    obtain ⟨hv1, hv2⟩ := hlv v List.mem_cons_self
    have hc : us.length < mcp to := by omega
    have hend := mb_end D.1
    subst hq
    have K1 : mKp mN1 mN2 mN1 (· = to) σ (mPush σ to us.length v.1 (deep + v.2.1 - l) 0 0 v.2.2.1) := mPush_kp D.1 hc
    have K2 : mKp mN1 mN2 mN1 (· = to) σ (mPush σ to us.length v.1 (deep + v.2.1 - l) v.2.2.2.length a v.2.2.1) := mPush_kp D.1 hc
    have S1 := S.keep K1 hne (fun _ _ h => h)
    have S2 := S.keep K2 hne (fun _ _ h => h)
    have D2 : mSlot (mPush σ to us.length v.1 (deep + v.2.1 - l) v.2.2.2.length a v.2.2.1) A to (us ++ [mt_lv l deep v]) := mPush_slot (txt := v.2.2.2) D hc hk4 hv2 hn64 hta htx
    obtain ⟨_, R1⟩ := S1.at hg
    have w1 : mW ((mPush σ to us.length v.1 (deep + v.2.1 - l) 0 0 v.2.2.1).2.2 89 (mb s + pre.length)) v.1 v.2.1 v.2.2.2.length a v.2.2.1.toBitVec.toNat := by
      rw [mPush_row, if_neg (mb_dis hne S.1 D.1 (by have := S.2.1; omega) hc)]; exact w
    have w2 : mW ((mPush σ to us.length v.1 (deep + v.2.1 - l) 0 0 v.2.2.1).2.2 89 (mb to + us.length)) v.1 (deep + v.2.1 - l) 0 0 v.2.2.1.toBitVec.toNat := by
      rw [mPush_row, if_pos rfl]
      exact ⟨rfl, hk4, hv2, by decide, by decide, v.2.2.1.toBitVec.isLt⟩
    refine u150_11 (pk_le st (mb s + pre.length) (fun h => absurd h (by omega)) (fun _ => t144 S hg ⟨_, rfl, t145 S hg ⟨_, rfl, t145 S h0 ⟨_, rfl, t151 S hg ⟨_, rfl, ?_⟩⟩⟩⟩))
    rw [hl, nI_add, pk_sub (by omega)]
    refine s122 (z := us.length) D.1 D.2.2.1 hc hk4 hv2 ?_
    rintro σ9 rfl
    rw [mAdd_e]
    refine ⟨rfl, s143 (z := us.length + 1) D.1 (by rw [mPush_sz, if_pos rfl]) ⟨_, rfl, s152 hr w1 ⟨_, rfl, s153 hr w1 ⟨_, rfl, ?_⟩⟩⟩⟩
    rw [← Nat.add_assoc, nI_pred]
    refine s140 (by omega) w2 hn64 (by omega) ?_
    rintro σ16 rfl
    rw [mPush_set]
    refine ⟨rfl, ?_⟩
    rw [nI_1, Nat.add_assoc]
    refine ih (pre ++ [v]) (us ++ [mt_lv l deep v]) _ _ S2 D2 (by rw [et]; simp) (by rw [List.length_append]; rfl) (by rw [hst, List.length_append]; simp only [List.length_cons, List.length_nil]; omega) (by rw [List.length_append]; simp only [List.length_cons, List.length_nil]; omega) (fun x hx => hlv x (List.mem_cons_of_mem _ hx)) ?_
    intro σ' K' D'
    refine H σ' (K2.tr K') ?_
    simpa using D'
/-- copy -/
theorem t150 {σ : mS} {pre rest us : List mTk} {t : mT} {l i e to deep : Nat} (S : mSlot σ A s ts) (et : ts = pre ++ (mt_tk t l ++ rest)) (hc : mt_cl l rest) (hi : i = mb s + pre.length) (he : e = mb s + ts.length) (D : mSlot σ A to us) (hne : s ≠ to) (hcap : us.length + (mt_tk t deep).length ≤ mcp to) (hdp : deep + mt_dp t < 64)
    (H : ∀ σ', mKp mN1 mN2 mN1 (· = to) σ σ' → mSlot σ' A to (us ++ mt_tk t deep) → Q none σ') : mM X (d + 3) 150 0 (mm_L0 150 [.ref 86, .int (nI i), .int (nI e), .int (nI to), .int (nI deep)]) [] σ Q := by
  obtain ⟨u, vs, e1, _, e2, _⟩ := mt_tk_ne t l
  have hg : ts[pre.length]? = some u := by rw [et, e1]; simp
  have hlen : (mt_tk t deep).length = (mt_tk t l).length := by rw [← mt_lv_tk0 t l deep, List.length_map]
  refine u150_0 (t147 S et hc hi he ⟨_, rfl, ?_⟩)
  subst hi
  refine t150_11 (rest := rest) hg e2 hne (by omega) (mt_tk t l) pre us σ _ S D et rfl rfl (by omega) ?_ ?_
  · intro v hv
    have h1 := mt_tk_deep t l v hv
    have h2 := mt_tk_top t l v hv
    omega
  · intro σ' K D'
    rw [mt_lv_tk0] at D'
    exact H σ' K D'
/-- copySlot -/
theorem t149 {σ : mS} {t : mT} {to : Nat} (S : mSlot σ A s (mt_tk t 0)) (hto : to < 142) (hne : s ≠ to) (hcap : (mt_tk t 0).length ≤ mcp to) (hdp : mt_dp t < 64)
    (H : ∀ σ', mKp mN1 mN2 mN1 (· = to) σ σ' → mSlot σ' A to (mt_tk t 0) → Q none σ') : mM X (d + 4) 149 0 (mm_L0 149 [.ref 86, .int (nI s), .int (nI to)]) [] σ Q := by
  have K0 : mKp mN1 mN2 mN1 (· = to) σ (uI σ 90 to 0) := by
    refine ⟨fun _ _ => rfl, fun b j hb _ => ?_, fun p _ => rfl, fun s' hs' hw => ⟨?_, fun i hi => rfl⟩⟩
    · unfold uI; simp [hb]
    · unfold uI; simp [hw]
  have D0 : mSlot (uI σ 90 to 0) A to [] := ⟨hto, Nat.zero_le _, by unfold uI; simp; rfl, fun i hi => absurd hi (by simp)⟩
  have S0 := S.keep K0 hne (fun _ _ h => h)
  refine u149_0 (s121 hto ?_)
  rintro σ1 rfl
  refine ⟨rfl, s123 S.1 ⟨_, rfl, s143 S0.1 S0.2.2.1 ⟨_, rfl, ?_⟩⟩⟩
  refine t150 (t := t) (l := 0) (deep := 0) (pre := []) (rest := []) (us := []) S0 (by simp) (mt_cl_nil 0) rfl rfl D0 hne (by simpa using hcap) (by omega) ?_
  intro σ' K D
  exact ⟨rfl, H σ' (K0.tr K) (by simpa using D)⟩
end RC
