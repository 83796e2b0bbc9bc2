/-! THE REFERENCE ENDS A STEP: end -/
section REN4
variable {X : List Int32} {d : Nat} {σ : mS} {Q : Option Value → mS → Prop} {A : Nat → Prop}
def lvO (ov me N : Nat) (ln : Nat → Nat) : List Nat := if ov = 0 then [] else if me = 2 then (aLr ov 4 0).map ln else [N]
def eB (s b j : Nat) : Prop := b = 106 ∧ j = s
theorem t194_100 {s l : Nat} {t T : mT} {σ0 : mS} {i3 : Int32} {o4 : Option Value} (hs : s < 6) (K0 : mKp mN1 mN2 mN1 (fun x => x = 123 + s) σ0 σ) (S : mSlot σ A (123 + s) (mt_tk t l)) (hiff : mt_okl l t ↔ mt_ok T) (hT : mt_ok T → t = T ∧ l = 0)
    (H1 : mt_ok T → ∀ σ', mKp mN1 (eB s) mN1 (fun x => x = 123 + s) σ0 σ' → σ'.2.1 106 s = 2 → mSlot σ' A (123 + s) (mt_tk T 0) → Q none σ')
    (H0 : ¬ mt_ok T → ∀ σ', mKp (fun k => k = 28) (fB s) mN1 (fun x => x = 123 + s) σ0 σ' → σ'.1 28 = 1 → σ'.2.1 106 s = 3 → (∀ n, n < 16 → σ'.2.1 108 (16 * s + n) = if σ0.2.1 108 (16 * s + n) = 1 then 0 else σ0.2.1 108 (16 * s + n)) → Q none σ') : mM X (d + 5) 194 100 [some (.ref 86), some (.int (nI s)), some (.int (nI (123 + s))), some (.int i3), o4] [] σ Q := by
  refine u194_100 ⟨m_ix hs (by decide), ?_⟩
  rintro σ2 rfl
  rw [uI_e (by omega)]
  have K1 : mKp mN1 (eB s) mN1 mN1 σ (uI σ 106 s 2) := uI_kp (by decide) ⟨rfl, rfl⟩
  have S1 := S.keep K1 id (fun _ _ h => h)
  refine t142l (d := d) S1 (fun hok => ?_) (fun hok => ?_)
  · have hT' := hiff.mp hok
    obtain ⟨rfl, rfl⟩ := hT hT'
    refine ⟨_, rfl, fun _ => H1 hT' _ ((K0.mono (fun _ h => h) (fun _ _ h => h.elim) (fun _ h => h) (fun _ h => h)).tr (K1.mono (fun _ h => h) (fun _ _ h => h) (fun _ h => h) (fun _ h => h.elim))) ?_ S1, fun g => absurd g (by decide)⟩
    rw [uI_at, if_pos ⟨rfl, rfl⟩]
  · refine ⟨_, rfl, fun g => absurd rfl g, fun _ => t173 hs (fun σ3 F3 => ⟨rfl, ?_⟩)⟩
    obtain ⟨f1, f2, f3, f4⟩ := F3
    refine H0 (fun g => hok (hiff.mpr g)) σ3 (((K0.mono (fun _ h => h.elim) (fun _ _ h => h.elim) (fun _ h => h) (fun _ h => h)).tr (K1.mono (fun _ h => h.elim) (fun b j h => Or.inl h) (fun _ h => h) (fun _ h => h.elim))).tr (f1.mono (fun _ h => h) (fun _ _ h => h) (fun _ h => h) (fun _ h => h.elim))) f2 f3 (fun n hn => ?_)
    have e : (uI σ 106 s 2).2.1 108 (16 * s + n) = σ0.2.1 108 (16 * s + n) := by rw [uI_at, if_neg (by omega), K0.2.1 108 _ (by decide) id]
    rw [f4 n hn, e]
theorem t194_74 {s N : Nat} {rs : Nat → mT} {i3 : Int32} {σ0 : mS} (hs : s < 6) (hN : N ≤ 16) (hdp : ∀ i, mt_dp (rs i) ≤ 3) (h9 : ∀ i, (mt_tk (rs i) 0).length ≤ 9)
    (H : ∀ σ' o4, mKp mN1 mN2 mN1 (fun x => x = 123 + s) σ0 σ' → mSlot σ' A (123 + s) (mt_tk (mt_mk ((List.range N).map rs)) 0) → mM X (d + 5) 194 100 [some (.ref 86), some (.int (nI s)), some (.int (nI (123 + s))), some (.int i3), o4] [] σ' Q) : ∀ (m n : Nat) (σ : mS), n + m = N → σ.2.1 107 s = nI N → mKp mN1 mN2 mN1 (fun x => x = 123 + s) σ0 σ → (∀ i, i < N → mSlot σ A (27 + (16 * s + i)) (mt_tk (rs i) 0)) → mSlot σ A (123 + s) ((3, 0, 0, []) :: mt_tks ((List.range n).map rs) 1) →
    mM X (d + 5) 194 74 [some (.ref 86), some (.int (nI s)), some (.int (nI (123 + s))), some (.int i3), some (.int (nI n))] [] σ Q := by
  have hcap : mcp (123 + s) = 176 := by unfold mcp; rw [if_neg (by omega), if_neg (by omega), if_pos (by omega)]
  have hl : ∀ n, (mt_tks ((List.range n).map rs) 1).length ≤ 9 * n := by
    intro n
    induction n with
    | zero => exact Nat.le_refl _
    | succ n ih =>
      rw [List.range_succ, List.map_append, mt_tks_app, List.length_append]
      have := h9 n
      show _ + (mt_tks [rs n] 1).length ≤ _
      rw [mt_tks_one, mt_tk_ln _ 1 0]; omega
  intro m
  induction m with
  | zero =>
    intro n σ hm h107 K SS D
    have e : n = N := by omega
    subst e
    refine u194_74 ⟨m_ix hs (by decide), ?_⟩
    rw [mGet_e (by omega), h107]
    exact ⟨fun _ => H σ _ K (by rw [mt_tk_mk]; exact D), fun g => absurd (Int32.le_refl _) g⟩
  | succ m ih =>
    intro n σ hm h107 K SS D
    have hln := hl n
    have h9n := h9 n
    have hdn := hdp n
    refine u194_74 ⟨m_ix hs (by decide), ?_⟩
    rw [mGet_e (by omega), h107]
    refine pk_le N n (fun g => absurd g (by omega)) (fun _ => ?_)
    refine t197 (d := d) (deep := 1) hs (by omega) (SS n (by omega)) D (by omega) (by rw [hcap, List.length_cons, mt_tk_ln _ 1 0]; omega) (by omega) (fun σ1 K1 D1 => ⟨rfl, ?_⟩)
    rw [nI_1]
    refine ih (n + 1) σ1 (by omega) ((K1.2.1 107 _ (by decide) id).trans h107) (K.tr K1) (fun i hi => (SS i hi).keep K1 (by omega) (fun _ _ h => h)) ?_
    rw [List.range_succ, List.map_append, mt_tks_app]
    show mSlot σ1 A (123 + s) ((3, 0, 0, []) :: (mt_tks ((List.range n).map rs) 1 ++ mt_tks [rs n] 1))
    rw [mt_tks_one]; exact D1
theorem one_bit : ∀ ov, ov < 16 → ov ≠ 0 → ((nI ov &&& (nI ov - 1)) = 0 ↔ (aLr ov 4 0).length = 1) := by decide
theorem t194 {E : mEv} {s N : Nat} {ln : Nat → Nat} {rs : Nat → mT} (hE : sE σ E) (hs : s < 6) (hso : sOk (eSt E s)) (ht4 : sTl (eSt E s) < 4) (hnp4 : (eTo E s).2.length ≤ 4) (h8 : ∀ p, p < 4 → aBit (aOv (eSt E s) (eTo E s)) p = true → ln p ≤ 8) (h112 : ∀ p, p < 4 → aBit (aOv (eSt E s) (eTo E s)) p = true → σ.2.1 112 (4 * s + p) = nI (ln p)) (h107 : σ.2.1 107 s = nI N) (hN : N ≤ 16) (hdp : ∀ i, mt_dp (rs i) ≤ 3) (h9 : ∀ i, (mt_tk (rs i) 0).length ≤ 9) (hlvN : aPr (lvO (aOv (eSt E s) (eTo E s)) (sMe (eSt E s)) N ln) = N) (SS : ∀ n, n < N → mSlot σ A (27 + (16 * s + n)) (mt_tk (rs n) 0))
    (H1 : mt_ok (aNs rs (lvO (aOv (eSt E s) (eTo E s)) (sMe (eSt E s)) N ln) 0) → ∀ σ', mKp mN1 (eB s) mN1 (fun x => x = 123 + s) σ σ' → σ'.2.1 106 s = 2 → mSlot σ' A (123 + s) (mt_tk (aNs rs (lvO (aOv (eSt E s) (eTo E s)) (sMe (eSt E s)) N ln) 0) 0) → Q none σ')
    (H0 : ¬ mt_ok (aNs rs (lvO (aOv (eSt E s) (eTo E s)) (sMe (eSt E s)) N ln) 0) → ∀ σ', mKp (fun k => k = 28) (fB s) mN1 (fun x => x = 123 + s) σ σ' → σ'.1 28 = 1 → σ'.2.1 106 s = 3 → (∀ n, n < 16 → σ'.2.1 108 (16 * s + n) = if σ.2.1 108 (16 * s + n) = 1 then 0 else σ.2.1 108 (16 * s + n)) → Q none σ') : mM X (d + 6) 194 0 (mm_L0 194 [.ref 86, .int (nI s)]) [] σ Q := by
  obtain ⟨_, _, e3, e4, _⟩ := id hE
  obtain ⟨a1, a2, a3, _⟩ := e4 s hs
  have hme := hso.2.2.2.2.2
  have ho : aOv (eSt E s) (eTo E s) < 16 := aOv_lt hso.2.2.2.2.1 hnp4
  have hcap : mcp (123 + s) = 176 := by unfold mcp; rw [if_neg (by omega), if_neg (by omega), if_pos (by omega)]
  refine u194_0 (t174 hE hs hso.2.2.2.2.1 ht4 hnp4 ⟨_, rfl, ?_⟩)
  rw [show (123 : Int32) = nI 123 from rfl, nI_add]
  generalize eov : aOv (eSt E s) (eTo E s) = ov at *
  generalize eme : sMe (eSt E s) = me at *
  have ho' : ov < 16 := ho
  refine mSlot.clear (A := A) (by omega) (fun σ1 K1 D1 => ⟨rfl, ?_⟩)
  have SS1 : ∀ n, n < N → mSlot σ1 A (27 + (16 * s + n)) (mt_tk (rs n) 0) := fun n hn => (SS n hn).keep K1 (by omega) (fun _ _ h => h)
  have flat : lvO ov me N ln = [N] → mM X (d + 5) 122 0 (mm_L0 122 [.ref 86, .int (nI (123 + s)), .int (3 : Int32), .int (0 : Int32), .int (0 : Int32)]) [] σ1 (m0_K (fun σ5 => mM X (d + 6) 194 74 [some (.ref 86), some (.int (nI s)), some (.int (nI (123 + s))), some (.int (nI ov)), some (.int (0 : Int32))] [] σ5 Q)) := by
    intro el
    rw [el] at H1 H0
    have eN : aNs rs [N] 0 = mt_mk ((List.range N).map rs) := by
      show mt_mk ((List.range N).map (fun i => rs (0 + i * 1))) = _
      congr 1
      apply List.map_congr_left
      intro i _
      rw [Nat.mul_one, Nat.zero_add]
    rw [eN] at H1 H0
    refine (D1 A).add (k := 3) (l := 0) (v := 0) (by rw [hcap]; show 0 < 176; omega) (by omega) (by omega) (fun σ2 K2 D2 => ⟨rfl, ?_⟩)
    refine t194_74 (X := X) (d := d + 1) (A := A) (σ0 := σ) (rs := rs) hs hN hdp h9 (fun σ3 o4 K3 D3 => ?_) N 0 σ2 (by omega) ?_ (K1.tr K2) (fun i hi => (SS1 i hi).keep K2 (by omega) (fun _ _ h => h)) D2
    · exact t194_100 (d := d + 1) hs K3 D3 mt_okl_0 (fun _ => ⟨rfl, rfl⟩) H1 H0
    · rw [K2.2.1 107 _ (by decide) id, K1.2.1 107 _ (by decide) id]; exact h107
  refine pk_ne ov 0 (fun h0 => ?_) (fun h0 => ⟨m_ix hs (by decide), ?_⟩)
  · have el : lvO ov me N ln = [] := if_pos h0
    rw [el] at H1 H0 hlvN
    have e1 : N = 1 := hlvN.symm
    have S0 := SS1 0 (by omega)
    rw [show (16 : Int32) = nI 16 from rfl, pk_mul, show (27 : Int32) = nI 27 from rfl, nI_add]
    rw [Nat.add_zero] at S0
    have h90 := h9 0
    refine t149 S0 (by omega) (by omega) (by omega) (by have := hdp 0; omega) (fun σ2 K2 D2 => ⟨rfl, ?_⟩)
    exact t194_100 (d := d + 1) hs (K1.tr K2) D2 mt_okl_0 (fun _ => ⟨rfl, rfl⟩) H1 H0
  · rw [mGet_e (by omega), K1.2.1 98 _ (by decide) id, a3]
    refine pk_ne me 2 (fun h2 => ?_) (fun h2 => flat (by unfold lvO; rw [if_neg h0, if_neg h2]))
    have el : lvO ov me N ln = (aLr ov 4 0).map ln := by unfold lvO; rw [if_neg h0, if_pos h2]
    refine ⟨fun hb => flat ?_, fun hb => ?_⟩
    · have h1 := (one_bit ov ho' h0).mp hb
      rw [el]
      rw [el] at hlvN
      obtain ⟨p, ep⟩ := List.length_eq_one_iff.mp h1
      rw [ep] at hlvN ⊢
      have : ln p * 1 = N := hlvN
      show [ln p] = [N]
      rw [Nat.mul_one] at this
      rw [this]
    · rw [el] at H1 H0 hlvN
      refine t195 (d := d) (A := A) (rs := rs) rfl hs ho' h0 h8 (fun p hp hb' => (K1.2.1 112 _ (by decide) id).trans (h112 p hp hb')) hdp h9 (by omega) (fun n hn => SS1 n (by omega)) (D1 A) (fun σ2 t l K2 D2 hiff hT => ⟨rfl, ?_⟩)
      exact t194_100 (d := d + 1) hs (K1.tr K2) D2 hiff hT H1 H0
end REN4
