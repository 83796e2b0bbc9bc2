/-! THE REFERENCE PUTS LETTERS -/
def oK (A : Nat → Prop) (σ σ' : mS) : Prop := mKp (fun k => k = 40 ∨ k = 42 ∨ k = 43) mN2 A mN1 σ σ'
theorem oK.rf {A : Nat → Prop} {σ : mS} : oK A σ σ := mKp.rf
theorem oK.tr {A : Nat → Prop} {a b c : mS} (h : oK A a b) (k : oK A b c) : oK A a c := mKp.tr h k
/-- P w: the letters w have been put since the beginning -/
def oP (X : List Int32) (P : List Nat → mS → Prop) (A : Nat → Prop) : Prop :=
  (∀ (d : Nat) (w : List Nat) (σ : mS) (c : Nat) (Q : Option Value → mS → Prop), c < 128 → w.length < 2 ^ 30 → P w σ → (∀ σ', oK A σ σ' → P (w ++ [c]) σ' → Q none σ') → mM X (d + 2) 184 0 (mm_L0 184 [.ref 86, .int (nI c)]) [] σ Q) ∧
  (∀ (w v : List Nat) (σ : mS), P w σ → σ.1 43 = 0 → P (w ++ v) σ) ∧
  (∀ (d : Nat) (w : List Nat) (σ : mS) (c : Nat) (Q : Option Value → mS → Prop), c < 128 → P w σ → σ.1 43 = 0 → (∀ σ', oK A σ σ' → P w σ' → σ'.1 43 = 0 → Q none σ') → mM X (d + 2) 184 0 (mm_L0 184 [.ref 86, .int (nI c)]) [] σ Q)
/-- letters written at m; too many; telling letter i -/
def oL (σ : mS) (m : Nat) (w : List Nat) : Prop := σ.1 44 = 0 ∧ σ.1 39 = nI m ∧ σ.1 43 = 1 ∧ w.length ≤ 24 ∧ σ.1 40 = nI w.length ∧ ∀ i (h : i < w.length), mg σ (m + i) = w[i]
def oX (σ : mS) (m : Nat) : Prop := σ.1 44 = 0 ∧ σ.1 39 = nI m ∧ σ.1 43 = 0 ∧ ∃ e : Nat, e ≤ 24 ∧ σ.1 40 = nI e
def oT (σ : mS) (i : Nat) (w : List Nat) : Prop := ¬ σ.1 44 = 0 ∧ σ.1 41 = nI i ∧ σ.1 43 = 1 ∧ σ.1 40 = nI w.length ∧ σ.1 42 = mt_at w i
def oA (m p : Nat) : Prop := m ≤ p ∧ p < m + 24
def oW (m : Nat) (w0 w : List Nat) (σ : mS) : Prop := (w0.length + w.length ≤ 24 ∧ oL σ m (w0 ++ w)) ∨ (24 < w0.length + w.length ∧ oX σ m)
theorem mSet_g (σ : mS) (k : Nat) (v : Int32) (j : Nat) : (mSet σ k v).1 j = if j = k then v else σ.1 j := rfl
section PU
variable {X : List Int32} {d : Nat} {σ : mS} {Q : Option Value → mS → Prop}
theorem oX.put {m c : Nat} (hm : m + 24 ≤ 19200) (hc : c < 128) (h : oX σ m) (H : ∀ σ', oK (oA m) σ σ' → oX σ' m → Q none σ') : mM X (d + 2) 184 0 (mm_L0 184 [.ref 86, .int (nI c)]) [] σ Q := by
  obtain ⟨h1, h2, h3, e, he, h4⟩ := h
  refine u184_0 ⟨fun _ => ?_, fun g => absurd h1 g⟩
  rw [h4, h2]
  refine pk_lt e 24 (fun hlt => ?_) (fun hge => ?_)
  · rw [nI_add]
    refine s138 (by omega) hc ?_
    rintro σ1 rfl
    have K1 : mKp mN1 mN2 (fun q => q = m + e) mN1 σ (gP σ (m + e) c) := gP_kp hc
    refine ⟨rfl, ?_⟩
    rintro σ2 rfl
    refine H _ ⟨fun k hk => ?_, K1.2.1, fun p hp => (K1.2.2.1 p (fun g => hp (by unfold oA; omega))), K1.2.2.2⟩ ⟨?_, ?_, ?_, e + 1, by omega, ?_⟩
    · rw [mSet_g, if_neg (fun g => hk (Or.inl g))]; rfl
    · rw [mSet_g, if_neg (by decide)]; exact h1
    · rw [mSet_g, if_neg (by decide)]; exact h2
    · rw [mSet_g, if_neg (by decide)]; exact h3
    · rw [mSet_g, if_pos rfl]
      show σ.1 40 + 1 = _
      rw [h4, nI_1]
  · rintro σ1 rfl
    refine H _ ⟨fun k hk => ?_, fun _ _ _ _ => rfl, fun _ _ => rfl, fun _ _ _ => ⟨rfl, fun _ _ => rfl⟩⟩ ⟨?_, ?_, ?_, e, he, ?_⟩
    · rw [mSet_g, if_neg (fun g => hk (Or.inr (Or.inr g)))]
    · rw [mSet_g, if_neg (by decide)]; exact h1
    · rw [mSet_g, if_neg (by decide)]; exact h2
    · rw [mSet_g, if_pos rfl]
    · rw [mSet_g, if_neg (by decide)]; exact h4
theorem oL.put {m c : Nat} {w : List Nat} (hm : m + 24 ≤ 19200) (hc : c < 128) (h : oL σ m w) (H1 : w.length < 24 → ∀ σ', oK (oA m) σ σ' → oL σ' m (w ++ [c]) → Q none σ') (H0 : 24 ≤ w.length → ∀ σ', oK (oA m) σ σ' → oX σ' m → Q none σ') : mM X (d + 2) 184 0 (mm_L0 184 [.ref 86, .int (nI c)]) [] σ Q := by
  obtain ⟨h1, h2, h3, h4, h5, h6⟩ := h
  refine u184_0 ⟨fun _ => ?_, fun g => absurd h1 g⟩
  rw [h5, h2]
  refine pk_lt w.length 24 (fun hlt => ?_) (fun hge => ?_)
  · rw [nI_add]
    refine s138 (by omega) hc ?_
    rintro σ1 rfl
    have K1 : mKp mN1 mN2 (fun q => q = m + w.length) mN1 σ (gP σ (m + w.length) c) := gP_kp hc
    refine ⟨rfl, ?_⟩
    rintro σ2 rfl
    refine H1 hlt _ ⟨fun k hk => ?_, K1.2.1, fun p hp => (K1.2.2.1 p (fun g => hp (by unfold oA; omega))), K1.2.2.2⟩ ⟨?_, ?_, ?_, by simp; omega, ?_, fun i hi => ?_⟩
    · rw [mSet_g, if_neg (fun g => hk (Or.inl g))]; rfl
    · rw [mSet_g, if_neg (by decide)]; exact h1
    · rw [mSet_g, if_neg (by decide)]; exact h2
    · rw [mSet_g, if_neg (by decide)]; exact h3
    · rw [mSet_g, if_pos rfl]
      show σ.1 40 + 1 = _
      rw [h5, nI_1]; simp
    · rw [List.length_append] at hi
      simp only [List.length_cons, List.length_nil] at hi
      show mg (gP σ (m + w.length) c) (m + i) = _
      rw [mg_gP hc]
      by_cases e : i = w.length
      · subst e
        rw [if_pos rfl, List.getElem_append_right (Nat.le_refl _)]; simp
      · rw [if_neg (by omega), List.getElem_append_left (by omega)]
        exact h6 i (by omega)
  · rintro σ1 rfl
    refine H0 hge _ ⟨fun k hk => ?_, fun _ _ _ _ => rfl, fun _ _ => rfl, fun _ _ _ => ⟨rfl, fun _ _ => rfl⟩⟩ ⟨?_, ?_, ?_, w.length, h4, ?_⟩
    · rw [mSet_g, if_neg (fun g => hk (Or.inr (Or.inr g)))]
    · rw [mSet_g, if_neg (by decide)]; exact h1
    · rw [mSet_g, if_neg (by decide)]; exact h2
    · rw [mSet_g, if_pos rfl]
    · rw [mSet_g, if_neg (by decide)]; exact h5
/-- writing, after w0 -/
theorem oW_ok {m : Nat} {w0 : List Nat} (hm : m + 24 ≤ 19200) : oP X (oW m w0) (oA m) := by
  refine ⟨fun d w σ c Q hc _ h H => ?_, fun w v σ h h43 => ?_, fun d w σ c Q hc h h43 H => ?_⟩
  · rcases h with ⟨hl, h⟩ | ⟨hl, h⟩
    · refine h.put hm hc (fun hlt σ' K h' => H σ' K (Or.inl ⟨?_, by rw [← List.append_assoc]; exact h'⟩)) (fun hge σ' K h' => H σ' K (Or.inr ⟨?_, h'⟩))
      · rw [List.length_append] at hlt ⊢; simp; omega
      · rw [List.length_append] at hge ⊢; simp; omega
    · exact h.put hm hc (fun σ' K h' => H σ' K (Or.inr ⟨by rw [List.length_append]; omega, h'⟩))
  · rcases h with ⟨hl, h⟩ | ⟨hl, h⟩
    · rw [h.2.2.1] at h43; exact absurd h43 (by decide)
    · exact Or.inr ⟨by rw [List.length_append]; omega, h⟩
  · rcases h with ⟨hl, h⟩ | ⟨hl, h⟩
    · rw [h.2.2.1] at h43; exact absurd h43 (by decide)
    · exact h.put hm hc (fun σ' K h' => H σ' K (Or.inr ⟨hl, h'⟩) h'.2.2.1)
theorem oX_ok {m : Nat} (hm : m + 24 ≤ 19200) : oP X (fun _ σ => oX σ m) (oA m) :=
  ⟨fun d w σ c Q hc _ h H => h.put hm hc (fun σ' K h' => H σ' K h'), fun w v σ h _ => h, fun d w σ c Q hc h _ H => h.put hm hc (fun σ' K h' => H σ' K h' h'.2.2.1)⟩
theorem oT_ok {i : Nat} (hi : i < 2 ^ 31) : oP X (fun w σ => oT σ i w) mN1 := by
  refine ⟨fun d w σ c Q hc hw h H => ?_, fun w v σ h h43 => ?_, fun d w σ c Q hc h h43 H => ?_⟩
  · obtain ⟨h1, h2, h3, h4, h5⟩ := h
    have kp : ∀ g : Int32, oK mN1 σ (mSet (mSet σ 42 g) 40 (nI (w.length + 1))) := fun g => ⟨fun k hk => by rw [mSet_g, if_neg (fun e => hk (Or.inl e)), mSet_g, if_neg (fun e => hk (Or.inr (Or.inl e)))], fun _ _ _ _ => rfl, fun _ _ => rfl, fun _ _ _ => ⟨rfl, fun _ _ => rfl⟩⟩
    have fin : ∀ g : Int32, g = mt_at (w ++ [c]) i → oT (mSet (mSet σ 42 g) 40 (nI (w.length + 1))) i (w ++ [c]) := by
      intro g hg
      refine ⟨?_, ?_, ?_, ?_, ?_⟩
      · rw [mSet_g, if_neg (by decide), mSet_g, if_neg (by decide)]; exact h1
      · rw [mSet_g, if_neg (by decide), mSet_g, if_neg (by decide)]; exact h2
      · rw [mSet_g, if_neg (by decide), mSet_g, if_neg (by decide)]; exact h3
      · rw [mSet_g, if_pos rfl]; simp
      · rw [mSet_g, if_neg (by decide), mSet_g, if_pos rfl]; exact hg
    refine u184_0 ⟨fun g => absurd g h1, fun _ => ?_⟩
    rw [h4, h2]
    refine pk_eq w.length i (B := _) (A := _) (fun e => ?_) (fun e => ?_) |>.symm
    · rintro σ1 rfl σ2 rfl
      rw [show (mSet σ 42 (nI c)).1 40 = nI w.length from h4, nI_1]
      refine H _ (kp _) (fin _ ?_)
      rw [mt_at_some (c := c)]
      rw [← e]; simp
    · rintro σ1 rfl σ2 rfl
      rw [show (mSet σ 42 (σ.1 42)).1 40 = nI w.length from h4, nI_1, h5]
      refine H _ (kp _) (fin _ ?_)
      unfold mt_at
      rcases Nat.lt_or_ge i w.length with h | h
      · rw [List.getElem?_append_left h]
      · rw [List.getElem?_eq_none (by simpa using h), List.getElem?_eq_none (by simp; omega)]
  · rw [h.2.2.1] at h43; exact absurd h43 (by decide)
  · rw [h.2.2.1] at h43; exact absurd h43 (by decide)
variable {P : List Nat → mS → Prop} {A : Nat → Prop}
/-- the letters of a list, one after another -/
theorem t183_2 (hP : oP X P A) {a n : Nat} {txt : List Nat} (hn : n = txt.length) (ha : a + txt.length ≤ 19200) (hx : ∀ c ∈ txt, c < 128) (hA : ∀ i, i < txt.length → ¬ A (a + i)) : ∀ (m i : Nat) (w : List Nat) (σ : mS), i + m = txt.length → w.length + m < 2 ^ 30 → (∀ j (h : j < txt.length), mg σ (a + j) = txt[j]) → P w σ → (∀ σ', oK A σ σ' → P (w ++ txt.drop i) σ' → Q none σ') →
    mM X (d + 3) 183 2 [some (.ref 86), some (.int (nI a)), some (.int (nI n)), some (.int (nI i))] [] σ Q := by
  subst hn
  intro m
  induction m with
  | zero =>
    intro i w σ hi hw hg h H
    have e : i = txt.length := by omega
    subst e
    refine u183_2 ⟨fun _ => H σ oK.rf (by simpa using h), fun h => absurd (Int32.le_refl _) h⟩
  | succ m ih =>
    intro i w σ hi hw hg h H
    have hil : i < txt.length := by omega
    have hc := hx _ (List.getElem_mem hil)
    refine u183_2 (pk_le txt.length i (fun h => absurd h (by omega)) (fun _ => ?_))
    rw [nI_add]
    refine s154 (by omega) ⟨_, rfl, ?_⟩
    rw [hg i hil]
    refine hP.1 (d) w σ txt[i] _ hc (by omega) h (fun σ1 K1 h1 => ⟨rfl, ?_⟩)
    rw [nI_1]
    refine ih (i + 1) (w ++ [txt[i]]) σ1 (by omega) (by simp; omega) (fun j hj => ?_) h1 (fun σ2 K2 h2 => H σ2 (K1.tr K2) ?_)
    · rw [K1.2.2.1 _ (hA j hj)]; exact hg j hj
    · rw [List.drop_eq_getElem_cons hil]; simpa using h2
theorem t183 (hP : oP X P A) {a n : Nat} {txt w : List Nat} (hn : n = txt.length) (ha : a + txt.length ≤ 19200) (hx : ∀ c ∈ txt, c < 128) (hA : ∀ i, i < txt.length → ¬ A (a + i)) (hw : w.length + txt.length < 2 ^ 30) (hg : ∀ j (h : j < txt.length), mg σ (a + j) = txt[j]) (h : P w σ) (H : ∀ σ', oK A σ σ' → P (w ++ txt) σ' → Q none σ') : mM X (d + 3) 183 0 (mm_L0 183 [.ref 86, .int (nI a), .int (nI n)]) [] σ Q :=
  u183_0 (t183_2 hP hn ha hx hA txt.length 0 w σ (by omega) hw hg h (by simpa using H))
/-- putNull -/
theorem t187 (hP : oP X P A) {w : List Nat} (hw : w.length + 4 < 2 ^ 30) (h : P w σ) (H : ∀ σ', oK A σ σ' → P (w ++ [110, 117, 108, 108]) σ' → Q none σ') : mM X (d + 3) 187 0 (mm_L0 187 [.ref 86]) [] σ Q := by
  refine u187_0 (hP.1 d w σ 110 _ (by decide) (by omega) h (fun σ1 K1 h1 => ⟨rfl, ?_⟩))
  refine hP.1 d _ σ1 117 _ (by decide) (by simp; omega) h1 (fun σ2 K2 h2 => ⟨rfl, ?_⟩)
  refine hP.1 d _ σ2 108 _ (by decide) (by simp; omega) h2 (fun σ3 K3 h3 => ⟨rfl, ?_⟩)
  refine hP.1 d _ σ3 108 _ (by decide) (by simp; omega) h3 (fun σ4 K4 h4 => ⟨rfl, H σ4 (((K1.tr K2).tr K3).tr K4) (by simpa using h4)⟩)
theorem mt_ds_cons (m v : Nat) (hv : v < 10 ^ (m + 1)) : mt_ds (m + 1) v = (48 + v / 10 ^ m) :: mt_ds m v := by
  unfold mt_ds
  rw [List.range_succ_eq_map, List.map_cons, List.map_map]
  congr 1
  · rw [show m + 1 - 1 - 0 = m by omega, Nat.mod_eq_of_lt]
    rw [Nat.div_lt_iff_lt_mul (Nat.pow_pos (by decide))]
    rw [Nat.pow_succ] at hv; omega
  · apply List.map_congr_left
    intro i _
    show 48 + v / 10 ^ (m + 1 - 1 - (i + 1)) % 10 = _
    rw [show m + 1 - 1 - (i + 1) = m - 1 - i by omega]
theorem t186_39 (hP : oP X P A) {i1 : Int32} {v : Nat} (hv : v ≤ 999999) : ∀ (m : Nat) (w : List Nat) (σ : mS), m ≤ 6 → w.length + m < 2 ^ 30 → P w σ → (∀ σ', oK A σ σ' → P (w ++ mt_ds m v) σ' → Q none σ') →
    mM X (d + 3) 186 39 [some (.ref 86), some (.int i1), some (.int (nI v)), some (.int (nI (if m = 0 then 0 else 10 ^ (m - 1))))] [] σ Q := by
  intro m
  induction m with
  | zero =>
    intro w σ _ hw h H
    refine u186_39 ⟨fun _ => H σ oK.rf (by simpa [mt_ds] using h), fun h => absurd (by decide) h⟩
  | succ m ih =>
    intro w σ hm hw h H
    rw [if_neg (by omega), Nat.add_sub_cancel]
    have hp : 1 ≤ 10 ^ m := Nat.one_le_pow _ _ (by decide)
    have hp6 : 10 ^ m ≤ 10 ^ 5 := Nat.pow_le_pow_right (by decide) (by omega)
    have ed : nI v / nI (10 ^ m) = nI (v / 10 ^ m) := pk_div (by omega) (by omega) (by omega)
    have hq : v / 10 ^ m ≤ 999999 := Nat.le_trans (Nat.div_le_self _ _) hv
    have ec : ((Int32.toUInt32 ((48 : Int32) + (nI (v / 10 ^ m) - nI (v / 10 ^ m) / (10 : Int32) * (10 : Int32)))) % 65536).toInt32 = nI (48 + v / 10 ^ m % 10) := by
      rw [show (10 : Int32) = nI 10 from rfl, pk_rem (by omega) (by decide) (by decide), show (48 : Int32) = nI 48 from rfl, nI_add, m_ch (by omega)]
    refine u186_39 (pk_le (10 ^ m) 0 (fun h => absurd h (by omega)) (fun _ => ⟨nI_ne0 (by omega) (by omega), ?_⟩))
    rw [ed, ec]
    refine hP.1 d w σ _ _ (by omega) (by omega) h (fun σ1 K1 h1 => ⟨rfl, ?_⟩)
    have en : nI (10 ^ m) / (10 : Int32) = nI (if m = 0 then 0 else 10 ^ (m - 1)) := by
      rw [show (10 : Int32) = nI 10 from rfl, pk_div (by omega) (by decide) (by decide)]
      congr 1
      cases m with
      | zero => rfl
      | succ m => rw [if_neg (by omega), Nat.add_sub_cancel, Nat.pow_succ, Nat.mul_div_cancel _ (by decide)]
    rw [en]
    refine ih _ σ1 (by omega) (by simp; omega) h1 (fun σ2 K2 h2 => H σ2 (K1.tr K2) ?_)
    have e1 : mt_ds (m + 1) v = (48 + v / 10 ^ m % 10) :: mt_ds m v := by
      unfold mt_ds
      rw [List.range_succ_eq_map, List.map_cons, List.map_map]
      congr 1
      apply List.map_congr_left
      intro i _
      show 48 + v / 10 ^ (m + 1 - 1 - (i + 1)) % 10 = _
      rw [show m + 1 - 1 - (i + 1) = m - 1 - i by omega]
    rw [e1]; simpa using h2
theorem t186_23 {i1 : Int32} {v : Nat} (hv : v ≤ 999999) (H : mM X (d + 1) 186 39 [some (.ref 86), some (.int i1), some (.int (nI v)), some (.int (nI (10 ^ (mt_nd v - 1))))] [] σ Q) : mM X (d + 1) 186 23 [some (.ref 86), some (.int i1), some (.int (nI v)), some (.int 1)] [] σ Q := by
  have step : ∀ k, k ≤ 5 → nI v / nI (10 ^ k) = nI (v / 10 ^ k) := fun k hk => by
    have : 1 ≤ 10 ^ k := Nat.one_le_pow _ _ (by decide)
    have : 10 ^ k ≤ 10 ^ 5 := Nat.pow_le_pow_right (by decide) hk
    exact pk_div (by omega) (by omega) (by omega)
  refine u186_23 ⟨by decide, ?_⟩
  rw [show (1 : Int32) = nI (10 ^ 0) from rfl, step 0 (by omega)]
  refine pk_lt (v / 10 ^ 0) 10 (fun h => ?_) (fun h1 => ?_)
  · have e : mt_nd v = 1 := by unfold mt_nd; rw [if_pos (by simpa using h)]
    rw [e] at H; exact H
  refine u186_23 ⟨by decide, ?_⟩
  rw [show (10 : Int32) * nI (10 ^ 0) = nI (10 ^ 1) from rfl, step 1 (by omega)]
  refine pk_lt (v / 10 ^ 1) 10 (fun h => ?_) (fun h2 => ?_)
  · have e : mt_nd v = 2 := by unfold mt_nd; rw [if_neg (by omega), if_pos (by omega)]
    rw [e] at H; exact H
  refine u186_23 ⟨by decide, ?_⟩
  rw [show (10 : Int32) * nI (10 ^ 1) = nI (10 ^ 2) from rfl, step 2 (by omega)]
  refine pk_lt (v / 10 ^ 2) 10 (fun h => ?_) (fun h3 => ?_)
  · have e : mt_nd v = 3 := by unfold mt_nd; rw [if_neg (by omega), if_neg (by omega), if_pos (by omega)]
    rw [e] at H; exact H
  refine u186_23 ⟨by decide, ?_⟩
  rw [show (10 : Int32) * nI (10 ^ 2) = nI (10 ^ 3) from rfl, step 3 (by omega)]
  refine pk_lt (v / 10 ^ 3) 10 (fun h => ?_) (fun h4 => ?_)
  · have e : mt_nd v = 4 := by unfold mt_nd; rw [if_neg (by omega), if_neg (by omega), if_neg (by omega), if_pos (by omega)]
    rw [e] at H; exact H
  refine u186_23 ⟨by decide, ?_⟩
  rw [show (10 : Int32) * nI (10 ^ 3) = nI (10 ^ 4) from rfl, step 4 (by omega)]
  refine pk_lt (v / 10 ^ 4) 10 (fun h => ?_) (fun h5 => ?_)
  · have e : mt_nd v = 5 := by unfold mt_nd; rw [if_neg (by omega), if_neg (by omega), if_neg (by omega), if_neg (by omega), if_pos (by omega)]
    rw [e] at H; exact H
  refine u186_23 ⟨by decide, ?_⟩
  rw [show (10 : Int32) * nI (10 ^ 4) = nI (10 ^ 5) from rfl, step 5 (by omega)]
  refine pk_lt (v / 10 ^ 5) 10 (fun h => ?_) (fun h6 => absurd h6 (by omega))
  have e : mt_nd v = 6 := by unfold mt_nd; rw [if_neg (by omega), if_neg (by omega), if_neg (by omega), if_neg (by omega), if_neg (by omega)]
  rw [e] at H; exact H
/-- putNumber -/
theorem t186 (hP : oP X P A) {n : Int32} {w : List Nat} (n1 : -999999 ≤ n) (n2 : n ≤ 999999) (hw : w.length + 10 < 2 ^ 30) (h : P w σ) (H : ∀ σ', oK A σ σ' → P (w ++ mt_nf n) σ' → Q none σ') : mM X (d + 3) 186 0 (mm_L0 186 [.ref 86, .int n]) [] σ Q := by
  have ha := mn_abs n1 n2
  obtain ⟨nd1, nd6⟩ := mt_nd_le n.toInt.natAbs
  have low : ∀ (w : List Nat) (σ : mS), w.length + 8 < 2 ^ 30 → P w σ → (∀ σ', oK A σ σ' → P (w ++ mt_dg n.toInt.natAbs) σ' → Q none σ') → mM X (d + 3) 186 23 [some (.ref 86), some (.int n), some (.int (nI n.toInt.natAbs)), some (.int 1)] [] σ Q := by
    intro w σ hw h H
    refine t186_23 ha ?_
    have := t186_39 (X := X) (d := d) (Q := Q) hP (i1 := n) ha (mt_nd n.toInt.natAbs) w σ nd6 (by omega) h H
    rw [if_neg (by omega)] at this
    exact this
  refine u186_0 ⟨fun h0 => ?_, fun h0 => ?_⟩
  · refine u186_10 ⟨fun _ => ?_, fun g => absurd h0 g⟩
    have en : mt_nf n = mt_dg n.toInt.natAbs := by unfold mt_nf; rw [if_neg (fun g => absurd h0 (Int32.not_le.mpr g))]
    rw [en] at H
    have e := mn_pos h0
    have g := low w σ (by omega) h H
    rw [← e] at g
    exact g
  · have en : mt_nf n = 45 :: mt_dg n.toInt.natAbs := by unfold mt_nf; rw [if_pos (Int32.not_le.mp h0)]
    refine hP.1 d w σ 45 _ (by decide) (by omega) h (fun σ1 K1 h1 => ⟨rfl, ?_⟩)
    refine u186_10 ⟨fun g => absurd g h0, fun _ => ?_⟩
    rw [mn_neg h0 n1]
    refine low _ σ1 (by simp; omega) h1 (fun σ2 K2 h2 => H σ2 (K1.tr K2) ?_)
    rw [en]; simpa using h2
end PU
