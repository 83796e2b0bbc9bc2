/-! THE REFERENCE READS ITS DRAFT AS A VALUE -/
section RRD
variable {X : List Int32} {d : Nat} {D : List Nat}
theorem t135_13 (n : Nat) :
    (∀ (k l : Nat) (us : List mTk) (σ : mS) (o4 o5 : Option Value) (Q : Option Value → mS → Prop), sD σ D → mSlot σ (rA k) 141 us → us.length ≤ k → l ≤ k → k ≤ D.length → 2 * (D.length - k) + 2 ≤ n →
      (∀ t k', pP D n false k = some ([t], k') → ∀ σ' o4 o5, rK σ σ' → mSlot σ' (rA k') 141 (us ++ mt_tk t l) → mM X (d + 6) 135 13 [some (.ref 86), some (.int (nI l)), some (.int (nI k')), some (.int 0), o4, o5] [] σ' Q) →
      (pP D n false k = none → ∀ σ', rK σ σ' → Q (some (.int 0)) σ') →
      mM X (d + 6) 135 13 [some (.ref 86), some (.int (nI l)), some (.int (nI k)), some (.int 1), o4, o5] [] σ Q) ∧
    (∀ (k l : Nat) (us : List mTk) (σ : mS) (o4 o5 : Option Value) (Q : Option Value → mS → Prop), sD σ D → mSlot σ (rA k) 141 us → us.length ≤ k → l + 1 ≤ k → k ≤ D.length → 2 * (D.length - k) + 3 ≤ n →
      (∀ ys k', pP D n true k = some (ys, k') → ∀ σ' o4 o5, rK σ σ' → mSlot σ' (rA k') 141 (us ++ mt_tks ys (l + 1)) → mM X (d + 6) 135 13 [some (.ref 86), some (.int (nI l)), some (.int (nI k')), some (.int 0), o4, o5] [] σ' Q) →
      (pP D n true k = none → ∀ σ', rK σ σ' → Q (some (.int 0)) σ') →
      mM X (d + 6) 135 13 [some (.ref 86), some (.int (nI (l + 1))), some (.int (nI k)), some (.int 1), o4, o5] [] σ Q) := by
  have up : ∀ {σ σ' : mS}, mKp mN1 mN2 mN1 (fun x => x = 141) σ σ' → rK σ σ' := fun K => K.mono (fun _ h => h) (fun _ _ h => h) (fun _ h => h.elim) (fun _ h => h)
  induction n with
  | zero => exact ⟨fun k l us σ o4 o5 Q _ _ _ _ _ h => absurd h (by omega), fun k l us σ o4 o5 Q _ _ _ _ _ h => absurd h (by omega)⟩
  | succ n ih =>
    obtain ⟨ihv, ihl⟩ := ih
    constructor
    · intro k l us σ o4 o5 Q hD S hu hl hk hn H1 H0
      have h60 := hD.1.1
      have hml := mc_lt hD.1 k
      have hcap : us.length < 544 := by omega
      refine u135_13 ⟨fun _ => ?_, fun h => absurd h (by decide)⟩
      refine u135_21 (t136 hD (by omega) ⟨_, rfl, fun h => absurd h (by decide), fun _ => ?_⟩)
      refine pk_eq (mc D k) 91 (B := _) (A := _) (fun e91 => ?_) (fun e91 => ?_) |>.symm
      · have hkl := mc_ne (D := D) (k := k) (by omega)
        refine S.add (k := 3) (v := 0) hcap (by decide) (by omega) ?_
        intro σ1 K1 S1
        have D1 := hD.keep K1 id (fun _ => id)
        have hml1 := mc_lt hD.1 (k + 1)
        refine ⟨rfl, ?_⟩
        rw [nI_1, nI_1, pk_m1]
        refine t136 D1 (by omega) ⟨_, rfl, ?_⟩
        refine pk_eq (mc D (k + 1)) 93 (B := _) (A := _) (fun e93 => ?_) (fun e93 => ?_) |>.symm
        · rw [nI_1]
          have := H1 (mt_mk []) (k + 2) (by rw [pP, if_pos e91, if_pos e93]) σ1 (some (.int (nI (mc D k)))) o5 (up K1) (by rw [mt_tk_mk, mt_tks_nil]; exact S1.weak (fun p a => rA_up (by omega) a))
          exact this
        · have ePn : pP D (n + 1) false k = (pP D n true (k + 1)).map (fun p => ([mt_mk p.1], p.2)) := by rw [pP, if_pos e91, if_neg e93]
          refine ihl (k + 1) l (us ++ [(3, l, 0, [])]) σ1 _ _ Q D1 (S1.weak (fun p a => rA_up (by omega) a)) (by simp; omega) (by omega) (by omega) (by omega) ?_ ?_
          · intro ys k' hys σ2 o4' o5' K2 S2
            refine H1 (mt_mk ys) k' (by rw [ePn, hys]; rfl) σ2 o4' o5' ((up K1).tr K2) ?_
            rw [mt_tk_mk]
            simpa using S2
          · intro hno σ2 K2
            exact H0 (by rw [ePn, hno]; rfl) σ2 ((up K1).tr K2)
      · have ePn : pP D (n + 1) false k = (pS D k).map (fun p => ([.leaf p.1], p.2)) := by rw [pP, if_neg e91]
        refine u135_76 ⟨fun h => absurd h (by decide), fun _ => t137 hD S hk (by omega) hcap ?_ ?_⟩
        · intro s k' hs σ1 K1 S1
          have hlt := pS_lt hk hs
          refine ⟨_, rfl, fun _ => ?_, fun h => absurd ((nI_eq (b := 0) (by omega) (by decide)).mp h) (by omega)⟩
          rw [nI_add, show k + (k' - k) = k' by omega]
          exact H1 (.leaf s) k' (by rw [ePn, hs]; rfl) σ1 _ _ K1 S1
        · intro hs σ1 K1
          exact ⟨_, rfl, fun h => absurd rfl h, fun _ => H0 (by rw [ePn, hs]; rfl) σ1 K1⟩
    · intro k l us σ o4 o5 Q hD S hu hl hk hn H1 H0
      have h60 := hD.1.1
      refine ihv k (l + 1) us σ o4 o5 Q hD S hu hl hk (by omega) ?_ ?_
      · intro t k1 ht σ1 o4' o5' K1 S1
        obtain ⟨z1, z2, z3, z4⟩ := pP_sz (D := D) n false k k1 (l + 1) [t] hk ht
        rw [mt_tks_one] at z1
        have D1 : sD σ1 D := hD.keep K1 id (fun _ => id)
        have hml := mc_lt hD.1 k1
        have ePn : pP D (n + 1) true k = if mc D k1 = 93 then some ([t], k1 + 1) else if mc D k1 = 44 then (pP D n true (k1 + 1)).map (fun r => ([t] ++ r.1, r.2)) else none := by
          rw [pP, ht]; rfl
        refine u135_13 ⟨fun h => absurd rfl h, fun _ => pk_le (l + 1) 0 (fun h => absurd h (by omega)) (fun _ => ?_)⟩
        refine u135_21 (t136 D1 (by omega) ⟨_, rfl, fun _ => ?_, fun h => absurd rfl h⟩)
        refine u135_76 ⟨fun _ => ?_, fun h => absurd rfl h⟩
        refine pk_eq (mc D k1) 44 (fun e44 => ⟨fun h => absurd (by rw [e44]; rfl) h, fun _ => ?_⟩) (fun e44 => pk_eq (mc D k1) 93 (fun e93 => ⟨fun _ => ?_, fun h => absurd ((nI_eq (b := 44) (by omega) (by decide)).mp h) e44⟩) (fun e93 => ?_))
        · have hkl := mc_ne (D := D) (k := k1) (by omega)
          have ePm : pP D (n + 1) true k = (pP D n true (k1 + 1)).map (fun r => ([t] ++ r.1, r.2)) := by rw [ePn, if_neg (by omega), if_pos e44]
          refine u135_133 ⟨fun h => absurd h (by decide), fun _ => ?_⟩
          rw [nI_1 k1]
          refine ihl (k1 + 1) l (us ++ mt_tk t (l + 1)) σ1 _ _ Q D1 (S1.weak (fun p a => rA_up (by omega) a)) (by rw [List.length_append]; omega) (by omega) (by omega) (by omega) ?_ ?_
          · intro ys k' hys σ2 o4'' o5'' K2 S2
            refine H1 (t :: ys) k' (by rw [ePm, hys]; rfl) σ2 o4'' o5'' (K1.tr K2) ?_
            rw [mt_tks_cons]
            simpa using S2
          · intro hno σ2 K2
            exact H0 (by rw [ePm, hno]; rfl) σ2 (K1.tr K2)
        · have hkl := mc_ne (D := D) (k := k1) (by omega)
          refine u135_133 ⟨fun _ => ?_, fun h => absurd rfl h⟩
          rw [nI_pred, nI_1]
          refine H1 [t] (k1 + 1) (by rw [ePn, if_pos e93]) σ1 _ _ K1 ?_
          rw [mt_tks_one]
          exact S1.weak (fun p a => rA_up (by omega) a)
        · exact H0 (by rw [ePn, if_neg e93, if_neg e44]) σ1 K1
      · intro hno σ1 K1
        exact H0 (by rw [pP, hno]; rfl) σ1 K1
variable {σ : mS} {Q : Option Value → mS → Prop}
theorem mSlot.clear {s : Nat} {A : Nat → Prop} (hs : s < 142) (H : ∀ σ', mKp mN1 mN2 mN1 (fun x => x = s) σ σ' → (∀ B : Nat → Prop, mSlot σ' B s []) → Q none σ') : mM X (d + 1) 121 0 (mm_L0 121 [.ref 86, .int (nI s)]) [] σ Q := by
  refine s121 hs ?_
  rintro σ1 rfl
  refine H _ ⟨fun _ _ => rfl, fun b j hb _ => ?_, fun p _ => rfl, fun s' hs' hw => ⟨?_, fun i hi => rfl⟩⟩ (fun B => ⟨hs, Nat.zero_le _, by unfold uI; simp; rfl, fun i hi => absurd hi (by simp)⟩)
  · unfold uI; simp [hb]
  · unfold uI; simp [hw]
/-- isDraftValue -/
theorem t135 (hD : sD σ D) (H1 : ∀ t, pD D = some t → ∀ σ', rK σ σ' → mSlot σ' (rA D.length) 141 (mt_tk t 0) → Q (some (.int 1)) σ') (H0 : pD D = none → ∀ σ', rK σ σ' → Q (some (.int 0)) σ') : mM X (d + 6) 135 0 (mm_L0 135 [.ref 86]) [] σ Q := by
  have h60 := hD.1.1
  refine u135_0 (mSlot.clear (s := 141) (A := mN1) (by decide) ?_)
  intro σ1 K1 S1
  have up : rK σ σ1 := K1.mono (fun _ h => h) (fun _ _ h => h) (fun _ h => h.elim) (fun _ h => h)
  refine ⟨rfl, ?_⟩
  refine (t135_13 (X := X) (d := d) (D := D) 200).1 0 0 [] σ1 _ _ Q (hD.keep K1 id (fun _ => id)) (S1 _) (by simp) (by omega) (by omega) (by omega) ?_ ?_
  · intro t k' ht σ2 o4 o5 K2 S2
    rw [List.nil_append] at S2
    obtain ⟨z1, z2, z3, z4⟩ := pP_sz (D := D) 200 false 0 k' 0 [t] (by omega) ht
    have D2 : sD σ2 D := (hD.keep up id (fun _ => id)).keep K2 id (fun _ => id)
    refine u135_13 ⟨fun h => absurd rfl h, fun _ => ⟨fun _ => ?_, fun h => absurd (by decide) h⟩⟩
    rw [D2.2.1]
    refine pk_eq k' D.length (B := _) (A := _) (fun e => t142 (s := 141) S2 (fun hok => ⟨_, rfl, fun h => absurd h (by decide), fun _ => ?_⟩) (fun hok => ⟨_, rfl, fun _ => ?_, fun h => absurd rfl h⟩)) (fun e => ?_) |>.symm
    · exact H0 (by rw [pD_e ht, if_neg (fun h => e h.1)]) σ2 (up.tr K2)
    · rw [e] at S2
      exact H1 t (by rw [pD_e ht, if_pos ⟨e, hok⟩]) σ2 (up.tr K2) S2
    · exact H0 (by rw [pD_e ht, if_neg (fun h => hok h.2)]) σ2 (up.tr K2)
  · intro hno σ2 K2
    exact H0 (pD_n hno) σ2 (up.tr K2)
end RRD
