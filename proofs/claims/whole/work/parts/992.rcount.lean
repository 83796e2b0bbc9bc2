/-! THE REFERENCE COUNTS AND CHOOSES -/
section RCO
variable {X : List Int32} {d : Nat} {σ : mS} {Q : Option Value → mS → Prop} {A : Nat → Prop}
theorem t174 {E : mEv} {s : Nat} (hE : sE σ E) (hs : s < 6) (hm : sMk (eSt E s) ≤ 15) (ht : sTl (eSt E s) < 4) (h4 : (eTo E s).2.length ≤ 4) (H : Q (some (.int (nI (aOv (eSt E s) (eTo E s))))) σ) : mM X (d + 1) 174 0 (mm_L0 174 [.ref 86, .int (nI s)]) [] σ Q := by
  obtain ⟨_, _, e3, e4, _⟩ := hE
  obtain ⟨a1, a2, a3, _⟩ := e4 s hs
  obtain ⟨b1, b2, _⟩ := e3 _ ht
  refine u174_0 ⟨m_ix hs (by decide), m_ix hs (by decide), ?_⟩
  rw [mGet_e (by omega), mGet_e (by omega), a1, a2]
  refine ⟨m_ix ht (by decide), ?_⟩
  rw [mGet_e (by omega), b2]
  have := m_mask hm h4
  rw [show (eTi E (sTl (eSt E s))).2.length = (eTo E s).2.length from rfl, this]
  exact H
theorem s143g {s : Nat} (hs : s < 142) (H : ∀ e : Int32, Q (some (.int e)) σ) : mM X (d + 2) 143 0 (mm_L0 143 [.ref 86, .int (nI s)]) [] σ Q :=
  u143_0 (s123 hs ⟨_, rfl, m_ix hs (by decide), H _⟩)
theorem bitc {ov p : Nat} (ho : ov < 16) (hp : p < 4) {A B : Prop} (f : aBit ov p = true → A) (g : aBit ov p = false → B) : (¬ ((nI ov >>> (nI p &&& 31)) &&& (1 : Int32)) = (1 : Int32) → B) ∧ (((nI ov >>> (nI p &&& 31)) &&& (1 : Int32)) = (1 : Int32) → A) := by
  rw [m_bit ho hp]
  cases h : aBit ov p with
  | true => exact ⟨fun z => absurd rfl z, fun _ => f h⟩
  | false => exact ⟨fun _ => g h, fun z => absurd z (by decide)⟩
theorem bitc0 {ov p : Nat} (ho : ov < 16) (hp : p < 4) {A B : Prop} (f : aBit ov p = true → A) (g : aBit ov p = false → B) : (¬ ((nI ov >>> (nI p &&& 31)) &&& (1 : Int32)) = (0 : Int32) → A) ∧ (((nI ov >>> (nI p &&& 31)) &&& (1 : Int32)) = (0 : Int32) → B) := by
  rw [m_bit ho hp]
  cases h : aBit ov p with
  | true => exact ⟨fun _ => f h, fun z => absurd z (by decide)⟩
  | false => exact ⟨fun z => absurd rfl z, fun _ => g h⟩
theorem t175_8 {s ov me : Nat} {wh : Nat → mT} (hs : s < 6) (ho : ov < 16) (hme : me ≤ 2) (h98 : σ.2.1 98 s = nI me) (SS : ∀ p, p < 4 → aBit ov p = true → mSlot σ A (129 + p) (mt_tk (wh p) 0) ∧ mt_gd (wh p)) : ∀ (m p : Nat) (j : Option Nat) (i4 : Int32) (o6 o7 : Option Value), p + m = 4 → (me = 0 → i4 = aJi j) → j.getD 1 ≤ 8 ^ p → (j ≠ none ∨ aLr ov m p ≠ []) →
    (∀ n, (aCf me wh (aLr ov m p) j).bind (fun j => j.bind (fun n => if n ≤ 16 then some n else none)) = some n → Q (some (.int (nI n))) σ) → ((aCf me wh (aLr ov m p) j).bind (fun j => j.bind (fun n => if n ≤ 16 then some n else none)) = none → Q (some (.int (-1))) σ) →
    mM X (d + 4) 175 8 [some (.ref 86), some (.int (nI s)), some (.int (nI ov)), some (.int (nI (j.getD 1))), some (.int i4), some (.int (nI p)), o6, o7] [] σ Q := by
  intro m
  induction m with
  | zero =>
    intro p j i4 o6 o7 hm hi hj hne H1 H0
    have e4 : p = 4 := by omega
    subst e4
    have hj' : j.getD 1 ≤ 4096 := hj
    cases j with
    | none => exact hne.elim (fun h => absurd rfl h) (fun h => absurd rfl h)
    | some n =>
      have hn : n ≤ 4096 := hj'
      refine u175_8 ⟨fun _ => pk_le n 16 (fun h => H1 n (by show (if n ≤ 16 then some n else none) = some n; rw [if_pos h])) (fun h => H0 (by show (if n ≤ 16 then some n else none) = none; rw [if_neg (by omega)])), fun g => absurd (Int32.le_refl _) g⟩
  | succ m ih =>
    intro p j i4 o6 o7 hm hi hj hne H1 H0
    have hp4 : p < 4 := by omega
    have hj4 : j.getD 1 ≤ 4096 := Nat.le_trans hj (Nat.pow_le_pow_right (by decide) (show p ≤ 4 by omega))
    have hpw : 8 ^ p ≤ 8 ^ 3 := Nat.pow_le_pow_right (by decide) (show p ≤ 3 by omega)
    have hpw' : (8 : Nat) ^ 3 = 512 := by decide
    have ps : 8 ^ (p + 1) = 8 ^ p * 8 := Nat.pow_succ 8 p
    have eL : aLr ov (m + 1) p = if aBit ov p = true then p :: aLr ov m (p + 1) else aLr ov m (p + 1) := rfl
    rw [eL] at H1 H0 hne
    refine u175_8 (pk_le 4 p (fun g => absurd g (by omega)) (fun _ => bitc ho hp4 (fun hb => ?_) (fun hb => ?_)))
    · rw [if_pos hb] at H1 H0
      obtain ⟨S, hg⟩ := SS p hp4 hb
      obtain ⟨u, us', etk, eu, _⟩ := mt_tk_ne (wh p) 0
      have hk4 := mt_k_lt (wh p)
      have eC : aCf me wh (p :: aLr ov m (p + 1)) j = if mt_isL (wh p) = true ∧ aBad me j (aLen wh p) = false then aCf me wh (aLr ov m (p + 1)) (some (if me = 0 then aLen wh p else j.getD 1 * aLen wh p)) else none := rfl
      rw [eC] at H1 H0
      rw [show (129 : Int32) = nI 129 from rfl, nI_add]
      refine s123 S.1 ⟨_, rfl, t144 (i := 0) (u := u) S (by rw [etk]; rfl) ⟨_, rfl, ?_⟩⟩
      rw [eu]
      refine pk_eq (mt_k (wh p)) 3 (fun h3 => ?_) (fun h3 => ?_)
      · have hL := mt_k3.mp h3
        have h8 := ((mt_gl_list hL).mp hg).2.1
        have hlen : aLen wh p ≤ 8 := h8
        refine s143 S.1 S.2.2.1 ⟨_, rfl, t146 (pre := []) (rest := []) (t := wh p) (l := 0) S (by simp) (mt_cl_nil 0) rfl rfl ⟨_, rfl, m_ix hs (by decide), ?_⟩⟩
        rw [mGet_e (by omega), h98]
        have go : aBad me j (aLen wh p) = false → ∀ (o6 o7 : Option Value), mM X (d + 4) 175 88 [some (.ref 86), some (.int (nI s)), some (.int (nI ov)), some (.int (nI (j.getD 1))), some (.int i4), some (.int (nI p)), some (.int (nI (mb (129 + p)))), some (.int (nI (mt_els (wh p)).length))] [] σ Q := by
          intro hbad o6 o7
          rw [if_pos ⟨hL, hbad⟩] at H1 H0
          refine u175_88 ⟨m_ix hs (by decide), ?_⟩
          rw [mGet_e (by omega), h98]
          have hmul : j.getD 1 * aLen wh p ≤ 8 ^ p * 8 := Nat.mul_le_mul hj hlen
          refine pk_ne me 0 (fun h0 => ?_) (fun h0 => ?_)
          · rw [if_pos h0] at H1 H0
            rw [nI_1]
            have h1p : 0 < 8 ^ p := Nat.pow_pos (by decide)
            exact ih (p + 1) (some (aLen wh p)) _ _ _ (by omega) (fun _ => rfl) (by show aLen wh p ≤ _; omega) (Or.inl (by intro z; cases z)) H1 H0
          · rw [if_neg h0] at H1 H0
            rw [pk_mul, nI_1]
            exact ih (p + 1) (some (j.getD 1 * aLen wh p)) _ _ _ (by omega) (fun z => absurd z h0) (by show j.getD 1 * aLen wh p ≤ _; omega) (Or.inl (by intro z; cases z)) H1 H0
        refine pk_ne me 0 (fun h0 => ?_) (fun h0 => go ?_ none none)
        · rw [hi h0]
          cases j with
          | none =>
            refine ⟨fun _ => ?_, fun g => absurd (by decide) g⟩
            have := go rfl none none
            rw [hi h0] at this
            exact this
          | some x =>
            have hx : x ≤ 4096 := hj4
            refine pk_lt x 0 (fun g => absurd g (by omega)) (fun _ => pk_eq (mt_els (wh p)).length x (fun e => ?_) (fun e => ?_))
            · have e' : (x == aLen wh p) = true := by rw [beq_iff_eq]; exact e.symm
              have hbad : aBad me (some x) (aLen wh p) = false := by
                show (me == 0 && !(x == aLen wh p)) = false
                rw [e', Bool.not_true, Bool.and_false]
              have := go hbad none none
              rw [hi h0] at this
              exact this
            · refine H0 ?_
              rw [if_neg (fun g => ?_)]
              · rfl
              · have g2 : (me == 0 && !(x == aLen wh p)) = false := g.2
                have e' : (x == aLen wh p) = false := by simpa using (fun z : x = aLen wh p => e z.symm)
                rw [h0, e'] at g2
                cases g2
        · have : (me == 0) = false := by simpa using h0
          unfold aBad
          cases j with
          | none => rfl
          | some x => show (me == 0 && _) = false; rw [this]; rfl
      · refine H0 ?_
        rw [if_neg (fun g => h3 (mt_k3.mpr g.1))]; rfl
    · have hb' : ¬ aBit ov p = true := by rw [hb]; decide
      rw [if_neg hb'] at H1 H0 hne
      rw [nI_1]
      exact ih (p + 1) j i4 _ _ (by omega) hi (by rw [ps]; omega) hne H1 H0
theorem t175 {s ov me : Nat} {wh : Nat → mT} (hs : s < 6) (ho : ov < 16) (ho0 : ov ≠ 0) (hme : me ≤ 2) (h98 : σ.2.1 98 s = nI me) (SS : ∀ p, p < 4 → aBit ov p = true → mSlot σ A (129 + p) (mt_tk (wh p) 0) ∧ mt_gd (wh p))
    (H1 : ∀ n, aJobs me ov wh = some n → Q (some (.int (nI n))) σ) (H0 : aJobs me ov wh = none → Q (some (.int (-1))) σ) : mM X (d + 4) 175 0 (mm_L0 175 [.ref 86, .int (nI s), .int (nI ov)]) [] σ Q := by
  have eJ : aJobs me ov wh = (aCf me wh (aLr ov 4 0) none).bind (fun j => j.bind (fun n => if n ≤ 16 then some n else none)) := if_neg ho0
  rw [eJ] at H1 H0
  exact u175_0 (t175_8 hs ho hme h98 SS 4 0 none (-1) none none (by omega) (fun _ => rfl) (by show 1 ≤ 1; omega) (Or.inr (aLr_ne ho0 ho)) H1 H0)
theorem t177_17 {s ov n p N me : Nat} {wh : Nat → mT} {i1 i2 : Int32} (ho : ov < 16) (hp4 : p < 4) (hN : aJobs me ov wh = some N) (hn : n < N) (hbp : aBit ov p = true) (SS : ∀ p, p < 4 → aBit ov p = true → mSlot σ A (129 + p) (mt_tk (wh p) 0) ∧ mt_gd (wh p)) (H : Q (some (.int (nI (aRs ov wh n (3 - p) % aLen wh p)))) σ) : ∀ (m k : Nat), k + m = 3 - p → (∀ x, aRs ov wh n x ≤ n) →
    mM X (d + 4) 177 17 [some (.ref 86), some (.int i1), some (.int i2), some (.int (nI ov)), some (.int (nI p)), some (.int (nI (aRs ov wh n k))), some (.int (nI (3 - k)))] [] σ Q := by
  obtain ⟨h16, hpos⟩ := aJobs_pos hN
  have hpos := hpos (by omega)
  intro m
  induction m with
  | zero =>
    intro k hm hle
    have e : k = 3 - p := by omega
    subst e
    obtain ⟨S, hg⟩ := SS p hp4 hbp
    obtain ⟨hL, hl0, _⟩ := hpos p hp4 hbp ho
    have h8 : aLen wh p ≤ 8 := ((mt_gl_list hL).mp hg).2.1
    have hr := hle (3 - p)
    refine u177_17 (pk_le (3 - (3 - p)) p (fun _ => ?_) (fun g => absurd g (by omega)))
    rw [show (129 : Int32) = nI 129 from rfl, nI_add]
    refine s123 S.1 ⟨_, rfl, s143 S.1 S.2.2.1 ⟨_, rfl, t146 (pre := []) (rest := []) (t := wh p) (l := 0) S (by simp) (mt_cl_nil 0) rfl rfl ⟨_, rfl, ?_⟩⟩⟩
    have hl0' : 0 < (mt_els (wh p)).length := hl0
    have h8' : (mt_els (wh p)).length ≤ 8 := h8
    refine ⟨fun e => ?_, ?_⟩
    · have := (nI_eq (b := 0) (by omega) (by omega)).mp e; omega
    · rw [pk_div (by omega) hl0' (by omega), pk_mul, pk_sub (Nat.div_mul_le_self _ _)]
      have : aRs ov wh n (3 - p) - aRs ov wh n (3 - p) / (mt_els (wh p)).length * (mt_els (wh p)).length = aRs ov wh n (3 - p) % aLen wh p := by
        unfold aLen
        rw [Nat.mod_def, Nat.mul_comm]
      rw [this]; exact H
  | succ m ih =>
    intro k hm hle
    have hk3 : 3 - k < 4 := by omega
    have hr := hle k
    have e1 : nI (3 - k) + (-1 : Int32) = nI (3 - (k + 1)) := by
      have : 3 - k = (3 - (k + 1)) + 1 := by omega
      rw [this, ← Int32.sub_eq_add_neg, nI_pred]
    refine u177_17 (pk_le (3 - k) p (fun g => absurd g (by omega)) (fun _ => bitc ho hk3 (fun hb => ?_) (fun hb => ?_)))
    · obtain ⟨S, hg⟩ := SS (3 - k) hk3 hb
      obtain ⟨hL, hl0, _⟩ := hpos (3 - k) hk3 hb ho
      have h8 : aLen wh (3 - k) ≤ 8 := ((mt_gl_list hL).mp hg).2.1
      rw [show (129 : Int32) = nI 129 from rfl, nI_add]
      refine s123 S.1 ⟨_, rfl, s143 S.1 S.2.2.1 ⟨_, rfl, t146 (pre := []) (rest := []) (t := wh (3 - k)) (l := 0) S (by simp) (mt_cl_nil 0) rfl rfl ⟨_, rfl, ?_⟩⟩⟩
      have hl0' : 0 < (mt_els (wh (3 - k))).length := hl0
      have h8' : (mt_els (wh (3 - k))).length ≤ 8 := h8
      refine ⟨fun e => ?_, ?_⟩
      · have := (nI_eq (b := 0) (by omega) (by omega)).mp e; omega
      · rw [pk_div (by omega) hl0' (by omega), e1]
        have e2 : aRs ov wh n (k + 1) = aRs ov wh n k / (mt_els (wh (3 - k))).length := if_pos hb
        rw [← e2]
        exact ih (k + 1) (by omega) hle
    · rw [e1]
      have e2 : aRs ov wh n (k + 1) = aRs ov wh n k := if_neg (by rw [hb]; decide)
      rw [← e2]
      exact ih (k + 1) (by omega) hle
theorem aRs_le (ov : Nat) (wh : Nat → mT) (n : Nat) : ∀ k, aRs ov wh n k ≤ n
  | 0 => Nat.le_refl _
  | k + 1 => by
    have := aRs_le ov wh n k
    show (if aBit ov (3 - k) = true then aRs ov wh n k / aLen wh (3 - k) else aRs ov wh n k) ≤ n
    split
    · exact Nat.le_trans (Nat.div_le_self _ _) this
    · exact this
theorem t177 {s ov n p N me : Nat} {wh : Nat → mT} (hs : s < 6) (hme : me ≤ 2) (h98 : σ.2.1 98 s = nI me) (ho : ov < 16) (hp4 : p < 4) (hN : aJobs me ov wh = some N) (hn : n < N) (hbp : aBit ov p = true) (SS : ∀ p, p < 4 → aBit ov p = true → mSlot σ A (129 + p) (mt_tk (wh p) 0) ∧ mt_gd (wh p)) (H : Q (some (.int (nI (if me = 0 then n else aRs ov wh n (3 - p) % aLen wh p)))) σ) : mM X (d + 4) 177 0 (mm_L0 177 [.ref 86, .int (nI s), .int (nI n), .int (nI ov), .int (nI p)]) [] σ Q := by
  refine u177_0 ⟨m_ix hs (by decide), ?_⟩
  rw [mGet_e (by omega), h98]
  refine pk_ne me 0 (fun h0 => ?_) (fun h0 => ?_)
  · rw [if_pos h0] at H; exact H
  · rw [if_neg h0] at H
    exact t177_17 (s := s) ho hp4 hN hn hbp SS H (3 - p) 0 (by omega) (aRs_le ov wh n)
/-- the values of a job -/
theorem t176_16 {s ov me n N np : Nat} {wh : Nat → mT} (hs : s < 6) (hme : me ≤ 2) (ho : ov < 16) (hnp : np ≤ 4) (hN : aJobs me ov wh = some N) (hn : n < N) (hg : ∀ i, mt_gd (wh i)) (hbit : ∀ p, p < 4 → aBit ov p = true → p < np) (hwh : ∀ p, np ≤ p → wh p = .leaf none) : ∀ (m p : Nat) (σ : mS) (o6 : Option Value), p + m = 4 → σ.2.1 98 s = nI me → (∀ p, p < np → mSlot σ A (129 + p) (mt_tk (wh p) 0)) → (∀ i, i < p → mSlot σ A (133 + i) (mt_tk (aBf me ov wh n i) 0)) →
    (∀ σ' o6, mKp mN1 mN2 mN1 (fun x => 133 ≤ x ∧ x < 137) σ σ' → (∀ i, i < 4 → mSlot σ' A (133 + i) (mt_tk (aBf me ov wh n i) 0)) → mM X (d + 5) 176 147 [some (.ref 86), some (.int (nI s)), some (.int (nI n)), some (.int (nI ov)), some (.int (nI np)), some (.int 0), o6] [] σ' Q) →
    mM X (d + 5) 176 16 [some (.ref 86), some (.int (nI s)), some (.int (nI n)), some (.int (nI ov)), some (.int (nI np)), some (.int (nI p)), o6] [] σ Q := by
  obtain ⟨h16, _⟩ := aJobs_pos hN
  intro m
  induction m with
  | zero =>
    intro p σ o6 hm h98 SP SJ H
    have e4 : p = 4 := by omega
    subst e4
    exact u176_16 ⟨fun _ => H σ o6 mKp.rf SJ, fun g => absurd (Int32.le_refl _) g⟩
  | succ m ih =>
    intro p σ o6 hm h98 SP SJ H
    have hp4 : p < 4 := by omega
    have hcap : mcp (133 + p) = 544 := by unfold mcp; rw [if_neg (by omega), if_neg (by omega), if_neg (by omega)]
    have next : ∀ (σ' : mS) (o6 : Option Value), mKp mN1 mN2 mN1 (fun x => x = 133 + p) σ σ' → mSlot σ' A (133 + p) (mt_tk (aBf me ov wh n p) 0) → mM X (d + 5) 176 16 [some (.ref 86), some (.int (nI s)), some (.int (nI n)), some (.int (nI ov)), some (.int (nI np)), some (.int (nI p + 1)), o6] [] σ' Q := by
      intro σ' o6 K S
      rw [nI_1]
      refine ih (p + 1) σ' o6 (by omega) ((K.2.1 98 _ (by decide) id).trans h98) (fun i hi => (SP i hi).keep K (by omega) (fun _ _ h => h)) (fun i hi => ?_) (fun σ2 o6 K2 S2 => H σ2 o6 ((K.mono (fun _ h => h) (fun _ _ h => h) (fun _ h => h) (fun x h => by omega)).tr K2) S2)
      by_cases e : i = p
      · subst e; exact S
      · exact (SJ i (by omega)).keep K (by omega) (fun _ _ h => h)
    refine u176_16 (pk_le 4 p (fun g => absurd g (by omega)) (fun _ => ?_))
    rw [show (133 : Int32) = nI 133 from rfl, nI_add, show (129 : Int32) = nI 129 from rfl, nI_add]
    refine mSlot.clear (A := A) (by omega) (fun σ1 K1 D1 => ⟨rfl, ?_⟩)
    have SP1 : ∀ i, i < np → mSlot σ1 A (129 + i) (mt_tk (wh i) 0) := fun i hi => (SP i hi).keep K1 (by omega) (fun _ _ h => h)
    rcases Nat.lt_or_ge p np with hlt | hge
    · have S := SP1 p hlt
      have hrow := S.2.1
      have hcap2 : mcp (129 + p) = 544 := by unfold mcp; rw [if_neg (by omega), if_neg (by omega), if_neg (by omega)]
      rw [hcap2] at hrow
      have hdp := mt_gd_dp (hg p)
      refine s143 S.1 S.2.2.1 ⟨_, rfl, pk_lt p np (fun _ => bitc0 ho hp4 (fun hb => ?_) (fun hb => ?_)) (fun g => absurd g (by omega))⟩
      · refine s123 S.1 ⟨_, rfl, t177 (d := d) hs hme ((K1.2.1 98 _ (by decide) id).trans h98) ho hp4 hN hn hb (fun i hi hb' => ⟨SP1 i (hbit i hi hb'), hg i⟩) ⟨_, rfl, ?_⟩⟩
        have hk := aBf_lt hN hn hp4 hb ho
        obtain ⟨kx, ekx⟩ : ∃ kx, kx = (if me = 0 then n else aRs ov wh n (3 - p) % aLen wh p) := ⟨_, rfl⟩
        rw [← ekx] at hk ⊢
        have hL : mt_isL (wh p) = true := ((aJobs_pos hN).2 (by omega) p hp4 hb ho).1
        have h8 := ((mt_gl_list hL).mp (hg p)).2.1
        refine t178 (pre := []) (rest := []) (t := wh p) (l := 0) (k := kx) S (by simp) (mt_cl_nil 0) rfl rfl hk (by omega) ⟨_, rfl, ?_⟩
        have esp : mt_els (wh p) = (mt_els (wh p)).take kx ++ ((mt_els (wh p))[kx] :: (mt_els (wh p)).drop (kx + 1)) := by rw [← List.drop_eq_getElem_cons hk, List.take_append_drop]
        have etk : mt_tk (wh p) 0 = ((3, 0, 0, []) :: mt_tks ((mt_els (wh p)).take kx) 1) ++ (mt_tk (mt_els (wh p))[kx] 1 ++ mt_tks ((mt_els (wh p)).drop (kx + 1)) 1) := by
          rw [mt_tk_list hL]
          conv => lhs; rw [esp]
          rw [mt_tks_app, mt_tks_cons]; simp
        have hcl : mt_cl 1 (mt_tks ((mt_els (wh p)).drop (kx + 1)) 1) := by have := mt_cl_tks (l := 1) (ts := (mt_els (wh p)).drop (kx + 1)) (mt_cl_nil 1); rwa [List.append_nil] at this
        have hel := mt_dp_el hL (List.getElem_mem hk)
        have hrl : (mt_tk (mt_els (wh p))[kx] 1).length ≤ (mt_tk (wh p) 0).length := by rw [etk]; simp only [List.length_append]; omega
        refine t150 (t := (mt_els (wh p))[kx]) (l := 1) (deep := 0) (pre := (3, 0, 0, []) :: mt_tks ((mt_els (wh p)).take kx) 1) (rest := mt_tks ((mt_els (wh p)).drop (kx + 1)) 1) S etk hcl (by rw [List.length_cons, List.length_nil]; show _ = mb (129 + p) + ((mt_tks ((mt_els (wh p)).take kx) (0 + 1)).length + 1); omega) rfl (D1 A) (by omega) (by rw [hcap, mt_tk_ln _ 0 1]; simp only [List.length_nil]; omega) (by omega) (fun σ2 K2 S2 => ⟨rfl, next σ2 _ (K1.tr K2) ?_⟩)
        have eB : aBf me ov wh n p = (mt_els (wh p))[kx] := by
          unfold aBf
          rw [if_pos hb, ← ekx, List.getElem?_eq_getElem hk]; rfl
        rw [eB]; exact S2
      · have eB : aBf me ov wh n p = wh p := by unfold aBf; rw [if_neg (by rw [hb]; decide)]
        refine s123 S.1 ⟨_, rfl, t150 (t := wh p) (l := 0) (deep := 0) (pre := []) (rest := []) S (by simp) (mt_cl_nil 0) rfl rfl (D1 A) (by omega) (by rw [hcap]; simp only [List.length_nil]; omega) (by omega) (fun σ2 K2 S2 => ⟨rfl, next σ2 _ (K1.tr K2) (by rw [eB]; exact S2)⟩)⟩
    · have hb : ¬ aBit ov p = true := fun h => by have := hbit p hp4 h; omega
      have eB : aBf me ov wh n p = .leaf none := by unfold aBf; rw [if_neg hb, hwh p hge]
      refine s143g (by omega) (fun e => ⟨_, rfl, pk_lt p np (fun g => absurd g (by omega)) (fun _ => (D1 A).add (k := 0) (l := 0) (v := 0) (by rw [hcap]; show 0 < 544; omega) (by omega) (by omega) (fun σ2 K2 D2 => ⟨rfl, next σ2 _ (K1.tr K2) (by rw [eB]; exact D2)⟩))⟩)
end RCO
