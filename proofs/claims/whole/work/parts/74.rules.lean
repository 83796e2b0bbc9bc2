/-! RULES READ, by both -/
theorem rCs_snoc (is : List mIt) (x : mIt) : rCs (is ++ [x]) = rCs is ++ rEn x := by simp [rCs]
theorem rLc_l : ∀ (is : List mIt) (c : Nat), rLc (is ++ [.inl c]) = rLc is + 1
  | [], c => rfl
  | .inl a :: is, c => by show 1 + rLc (is ++ [.inl c]) = 1 + rLc is + 1; rw [rLc_l is c]; omega
  | .inr a :: is, c => rLc_l is c
theorem rLc_r : ∀ (is : List mIt) (p : Nat × List Nat), rLc (is ++ [.inr p]) = rLc is
  | [], c => rfl
  | .inl a :: is, c => by show 1 + rLc (is ++ [.inr c]) = 1 + rLc is; rw [rLc_r is c]
  | .inr a :: is, c => rLc_r is c
theorem rRc_l : ∀ (is : List mIt) (c : Nat), rRc (is ++ [.inl c]) = rRc is
  | [], c => rfl
  | .inl a :: is, c => rRc_l is c
  | .inr a :: is, c => by show 1 + rRc (is ++ [.inl c]) = 1 + rRc is; rw [rRc_l is c]
theorem rRc_r : ∀ (is : List mIt) (p : Nat × List Nat), rRc (is ++ [.inr p]) = rRc is + 1
  | [], c => rfl
  | .inl a :: is, c => rRc_r is c
  | .inr a :: is, c => by show 1 + rRc (is ++ [.inr c]) = 1 + rRc is + 1; rw [rRc_r is c]; omega
/-- a rule of the class -/
def cRl (hp : mm_H) (r : Nat) (is : List mIt) (N : Nat) : Prop := cRu hp r (rCs is) (rLc is) (rRc is) N
def rR (D : List Nat) : Option (List mIt) := rI D 100 0
theorem uI_g (σ : mS) (a i : Nat) (v : Int32) (b j : Nat) : (uI σ a i v).2.1 b j = if b = a ∧ j = i then v else σ.2.1 b j := rfl
section CRR
variable {X : List Int32} {d : Nat} {hp : mm_H} {Q : Option Value → mm_H → Prop} {D : List Nat}
theorem k43_19 {r : Nat} {i1 : Int32} (hd : 4 ≤ d) (hr : 3 ≤ r) : ∀ (n k : Nat) (hp : mm_H) (is : List mIt) (x : Int32) (o5 : Option Value), cD hp D x → k ≤ D.length → D.length - k + 1 ≤ n → (rCs is).length ≤ k → cRl hp r is D.length →
    (∀ js, rI D n k = some js → ∀ hp', cE (fun x => x = r ∨ x = r + 1) hp hp' → cG 0 hp hp' → cRl hp' r (is ++ js) D.length → Q (some (.ref r)) hp') →
    (rI D n k = none → ∀ hp', cE (fun x => x = r ∨ x = r + 1) hp hp' → cG 0 hp hp' → Q (some .null) hp') →
    mm_R X (d + 4) 43 19 [some (.ref 2), some (.int i1), some (.int (nI D.length)), some (.ref r), some (.int (nI k)), o5] [] hp Q := by
  intro n
  induction n with
  | zero => intro k hp is x o5 _ _ h; omega
  | succ n ih =>
    intro k hp is x o5 hD hk hn hcs R H1 H0
    have h60 := hD.1.1
    have kp : ∀ hp', cE (fun x => x = r ∨ x = r + 1) hp hp' → cD hp' D x := fun hp' E => hD.keep E (by omega) (by omega)
    refine w43_19 (pk_le D.length k (fun h => ⟨rfl, Or.inr ⟨_, rfl⟩, ?_⟩) (fun hlt => ⟨rfl, k45 (nm := [36, 40]) (by omega) rfl (by decide) (by decide) (by decide) hD hk ⟨_, rfl, ?_⟩⟩))
    · exact H1 [] (by rw [rI, if_pos h]) hp cE.rf cG.rf (by simpa using R)
    · by_cases hs : st [36, 40] D k = true
      · rw [if_pos hs]
        have hl := st_le (by decide) hk hs
        simp only [List.length_cons, List.length_nil] at hl
        have eR : rI D (n + 1) k = (rRef D k).bind (fun p => (rI D n p.2).map (fun r => .inr p.1 :: r)) := by rw [rI, if_neg (by omega), if_pos hs]
        refine ⟨fun h => absurd h (by decide), fun _ => ⟨rfl, cRu.rc R rfl, ?_⟩⟩
        rw [show nI k + (2 : Int32) = nI (k + 2) from nI_add k 2]
        refine k46 hd hr hD hl hcs R ?_ ?_
        · intro p k' hp' hp1 E1 G1 R1
          obtain ⟨z1, z2, z3, z4, z5, z6⟩ := rRef_le hl hp'
          have R2 : cRl hp1 r (is ++ [.inr p]) D.length := by
            unfold cRl
            rw [rCs_snoc, rLc_r, rRc_r]; exact R1
          refine ⟨_, rfl, pk_lt k k' (fun _ => ?_) (fun h => absurd h (by omega))⟩
          refine ih k' hp1 (is ++ [.inr p]) x _ (kp hp1 E1) z2 (by omega) ?_ R2 ?_ ?_
          · rw [rCs_snoc, List.length_append, rEn]
            simp only [List.length_cons, List.length_append, List.length_nil]
            omega
          · intro js hjs hp2 E2 G2 R3
            refine H1 (.inr p :: js) ?_ hp2 (E1.tr E2) (G1.tr G2) (by simpa using R3)
            rw [eR, hp', Option.bind_some, hjs]; rfl
          · intro hno hp2 E2 G2
            refine H0 ?_ hp2 (E1.tr E2) (G1.tr G2)
            rw [eR, hp', Option.bind_some, hno]; rfl
        · intro hno hp1 E1 G1
          refine ⟨_, rfl, ⟨fun h => ?_, fun _ => H0 (by rw [eR, hno]; rfl) hp1 E1 G1⟩⟩
          have a := Int32.lt_iff_toInt_lt.mp h
          rw [nI_toInt (by omega)] at a
          have : (-1 : Int32).toInt = -1 := by decide
          omega
      · rw [if_neg hs]
        have eR : rI D (n + 1) k = (rI D n (k + 1)).map (fun r => .inl (mc D k) :: r) := by rw [rI, if_neg (by omega), if_neg hs]
        refine ⟨fun _ => ⟨rfl, hD.ai hlt ⟨cRu.rc R rfl, k47 R (by omega) (fun hp1 E1 G1 R1 => ⟨rfl, R1.bump2 (fun hp2 E2 G2 R2 => ?_)⟩)⟩⟩, fun h => absurd rfl h⟩
        rw [nI_1]
        have R3 : cRl hp2 r (is ++ [.inl (mc D k)]) D.length := by
          unfold cRl
          rw [rCs_snoc, rLc_l, rRc_l]; exact R2
        refine ih (k + 1) hp2 (is ++ [.inl (mc D k)]) x _ (kp hp2 (E1.tr E2)) (by omega) (by omega) ?_ R3 ?_ ?_
        · rw [rCs_snoc, List.length_append, rEn]
          simp only [List.length_cons, List.length_nil]
          omega
        · intro js hjs hp3 E3 G3 R4
          exact H1 (.inl (mc D k) :: js) (by rw [eR, hjs]; rfl) hp3 ((E1.tr E2).tr E3) ((G1.tr G2).tr G3) (by simpa using R4)
        · intro hno hp3 E3 G3
          exact H0 (by rw [eR, hno]; rfl) hp3 ((E1.tr E2).tr E3) ((G1.tr G2).tr G3)
/-- takeRule -/
theorem k42 {x : Int32} (hd : 4 ≤ d) (hD : cD hp D x) (hl : 113 ≤ hp.length)
    (H1 : ∀ is, rR D = some is → ∀ hp' q, q = hp.length → cE (fun z => z = 1) hp hp' → cG 4 hp hp' → cD hp' [] x → cRl hp' q is D.length → Q (some (.ref q)) hp')
    (H0 : rR D = none → ∀ hp', cE (fun z => z = 1) hp hp' → cG 4 hp hp' → cD hp' [] x → Q (some .null) hp') : mm_R X (d + 5) 42 0 (mm_L0 42 [.ref 1]) [] hp Q := by
  have h60 := hD.1.1
  refine w42_0 ⟨1, _, _, rfl, hD.2.1, rfl, ⟨1, _, _, rfl, hD.2.1, rfl, ⟨rfl, w43_0 ⟨rfl, hD.ln ?_⟩⟩⟩⟩
  rintro r hp0 rfl rfl
  have e0 : (if nI 60 < nI D.length then nI 60 else nI D.length) = nI D.length := if_neg (nI_nlt h60 (by decide))
  rw [e0]
  have e1 : (if (0 : Int32) < nI D.length then nI D.length else 0) = nI D.length := by
    by_cases h : 0 < D.length
    · exact if_pos (show nI 0 < nI D.length from nI_lt h (by omega))
    · have : D.length = 0 := by omega
      rw [this]; rfl
  refine w44_0 ?_
  rw [e1, nI_clamp (by omega)]
  refine ⟨⟨nI_pos' (by omega), by omega⟩, ?_⟩
  rintro q hp1 rfl rfl
  have el : (hp ++ [((8 : Nat), mm_df 8)]).length = hp.length + 1 := by simp
  rw [el, List.append_assoc]
  rw [show [((8 : Nat), mm_df 8)] ++ [((1000 : Nat), List.replicate D.length (Value.int 0))] = [((8 : Nat), mm_df 8), ((1000 : Nat), List.replicate D.length (Value.int 0))] from rfl]
  have hlen : hp.length + 1 < (hp ++ [((8 : Nat), mm_df 8), ((1000 : Nat), List.replicate D.length (Value.int 0))]).length := by simp
  rw [← c2_self (hp := hp ++ _) (c2_app0 (hp := hp) (a := ((8 : Nat), mm_df 8)) (b := ((1000 : Nat), List.replicate D.length (Value.int 0)))) c2_app1]
  refine c2_pt hlen rfl rfl ⟨rfl, ?_⟩
  rw [c2_app (hp := hp) (a := ((8 : Nat), mm_df 8)) (b := ((1000 : Nat), List.replicate D.length (Value.int 0)))]
  have E0 : ∀ hp', cE (fun x => x = hp.length ∨ x = hp.length + 1) (hp ++ [((8 : Nat), (mm_df 8).set 0 (.ref (hp.length + 1))), ((1000 : Nat), List.replicate D.length (Value.int 0))]) hp' → cE (fun z => z = 1) hp hp' := fun hp' E =>
    ((cE.app (W := fun x => x = hp.length ∨ x = hp.length + 1)).tr E).mono (fun x hx h => by omega)
  have G0 : cG 4 hp (hp ++ [((8 : Nat), (mm_df 8).set 0 (.ref (hp.length + 1))), ((1000 : Nat), List.replicate D.length (Value.int 0))]) := by
    refine ⟨by simp, ?_⟩
    rw [show hp ++ [((8 : Nat), (mm_df 8).set 0 (.ref (hp.length + 1))), ((1000 : Nat), List.replicate D.length (Value.int 0))] = (hp ++ [((8 : Nat), (mm_df 8).set 0 (.ref (hp.length + 1)))]) ++ [((1000 : Nat), List.replicate D.length (Value.int 0))] by simp, mm_sz_push, mm_sz_push]
    show mm_sz hp + 4 + (List.replicate D.length (Value.int 0)).length ≤ _
    simp; omega
  have D0 : cD (hp ++ [((8 : Nat), (mm_df 8).set 0 (.ref (hp.length + 1))), ((1000 : Nat), List.replicate D.length (Value.int 0))]) D x := hD.eq (List.getElem?_append_left (by omega)) (List.getElem?_append_left (by omega))
  have R0 : cRl (hp ++ [((8 : Nat), (mm_df 8).set 0 (.ref (hp.length + 1))), ((1000 : Nat), List.replicate D.length (Value.int 0))]) hp.length [] D.length := ⟨List.replicate D.length (.int 0), c2_app0, c2_app1, by simp [rCs], h60, fun v hv => ⟨0, List.eq_of_mem_replicate hv⟩⟩
  refine k43_19 hd (by omega) 100 0 _ [] x none D0 (by omega) (by omega) (by simp [rCs]) R0 ?_ ?_
  · intro js hjs hp2 E2 G2 R2
    have D2 := D0.keep E2 (by omega) (by omega)
    refine ⟨_, rfl, rfl, D2.cut (fun hp3 E3 G3 D3 => ⟨Or.inr ⟨_, rfl⟩, H1 js hjs hp3 hp.length rfl ((E0 hp2 E2).tr E3) ((G0.tr G2).tr G3) D3 ?_⟩)⟩
    rw [List.nil_append] at R2
    exact cRu.keep R2 E3 (by omega) (by omega)
  · intro hno hp2 E2 G2
    have D2 := D0.keep E2 (by omega) (by omega)
    exact ⟨_, rfl, rfl, D2.cut (fun hp3 E3 G3 D3 => ⟨Or.inl rfl, H0 hno hp3 ((E0 hp2 E2).tr E3) ((G0.tr G2).tr G3) D3⟩)⟩
end CRR
section RRR
variable {X : List Int32} {d : Nat} {σ : mS} {Q : Option Value → mS → Prop} {D : List Nat}
theorem t136c {k c : Nat} {x C : Int32} {NA NB : mS → Prop} (h : sD σ D) (hx : x = nI k) (hC : C = nI c) (hk : k < 2 ^ 30) (hc : c < 2 ^ 30) (HA : mc D k = c → NA σ) (HB : mc D k ≠ c → NB σ) : mM X (d + 1) 136 0 (mm_L0 136 [.ref 86, .int x]) [] σ (mi_K (fun y σ' => ((¬ y = C → NB σ') ∧ (y = C → NA σ')))) := by
  subst hx; subst hC
  have := mc_lt h.1 k
  refine t136 h hk ⟨_, rfl, ⟨fun e => HB (fun g => e (by rw [g])), fun e => HA ((nI_eq (by omega) (by omega)).mp e)⟩⟩
theorem st_len {k : Nat} : st [46, 108, 101, 110, 103, 116, 104] D k = true ↔ mc D k = 46 ∧ mc D (k + 1) = 108 ∧ mc D (k + 2) = 101 ∧ mc D (k + 3) = 110 ∧ mc D (k + 4) = 103 ∧ mc D (k + 5) = 116 ∧ mc D (k + 6) = 104 := by
  simp [st, Nat.add_assoc]
theorem st_self {k : Nat} : st [115, 101, 108, 102] D k = true ↔ mc D k = 115 ∧ mc D (k + 1) = 101 ∧ mc D (k + 2) = 108 ∧ mc D (k + 3) = 102 := by
  simp [st, Nat.add_assoc]
theorem st_inp {k : Nat} : st [105, 110, 112, 117, 116, 115, 46] D k = true ↔ mc D k = 105 ∧ mc D (k + 1) = 110 ∧ mc D (k + 2) = 112 ∧ mc D (k + 3) = 117 ∧ mc D (k + 4) = 116 ∧ mc D (k + 5) = 115 ∧ mc D (k + 6) = 46 := by
  simp [st, Nat.add_assoc]
theorem st_dol {k : Nat} : st [36, 40] D k = true ↔ mc D k = 36 ∧ mc D (k + 1) = 40 := by
  simp [st]
/-- isLength -/
theorem t159 {k : Nat} (h : sD σ D) (hk : k ≤ 1000) (H : Q (some (.int (if st [46, 108, 101, 110, 103, 116, 104] D k = true then 1 else 0))) σ) : mM X (d + 2) 159 0 (mm_L0 159 [.ref 86, .int (nI k)]) [] σ Q := by
  refine u159_0 (t136c (k := k) (c := 46) h rfl rfl (by omega) (by decide) (fun e0 => ?_) (fun e => ?_))
  · refine t136c (k := k + 1) (c := 108) h (nI_add k 1) rfl (by omega) (by decide) (fun e1 => ?_) (fun e => ?_)
    · refine t136c (k := k + 2) (c := 101) h (nI_add k 2) rfl (by omega) (by decide) (fun e2 => ?_) (fun e => ?_)
      · refine t136c (k := k + 3) (c := 110) h (nI_add k 3) rfl (by omega) (by decide) (fun e3 => ?_) (fun e => ?_)
        · refine t136c (k := k + 4) (c := 103) h (nI_add k 4) rfl (by omega) (by decide) (fun e4 => ?_) (fun e => ?_)
          · refine t136c (k := k + 5) (c := 116) h (nI_add k 5) rfl (by omega) (by decide) (fun e5 => ?_) (fun e => ?_)
            · refine t136c (k := k + 6) (c := 104) h (nI_add k 6) rfl (by omega) (by decide) (fun e6 => ?_) (fun e => ?_)
              · rw [if_pos (st_len.mpr ⟨e0, e1, e2, e3, e4, e5, e6⟩)] at H; exact H
              · rw [if_neg (fun g => e (st_len.mp g).2.2.2.2.2.2)] at H; exact H
            · rw [if_neg (fun g => e (st_len.mp g).2.2.2.2.2.1)] at H; exact H
          · rw [if_neg (fun g => e (st_len.mp g).2.2.2.2.1)] at H; exact H
        · rw [if_neg (fun g => e (st_len.mp g).2.2.2.1)] at H; exact H
      · rw [if_neg (fun g => e (st_len.mp g).2.2.1)] at H; exact H
    · rw [if_neg (fun g => e (st_len.mp g).2.1)] at H; exact H
  · rw [if_neg (fun g => e (st_len.mp g).1)] at H; exact H
theorem t158_202 {i1 i3 i4 : Int32} (h : sD σ D) : ∀ (n k : Nat), k ≤ D.length → D.length - k + 1 ≤ n →
    (∀ as k', rAcc D n k = some (as, k') → Q (some (.int (nI k'))) σ) → (rAcc D n k = none → Q (some (.int (-1))) σ) →
    mM X (d + 3) 158 202 [some (.ref 86), some (.int i1), some (.int (nI k)), some (.int i3), some (.int i4)] [] σ Q := by
  have h60 := h.1.1
  intro n
  induction n with
  | zero => intro k _ hn; omega
  | succ n ih =>
    intro k hk hn H1 H0
    have b0 := mc_lt h.1 k
    have b1 := mc_lt h.1 (k + 1)
    have fb : mc D k ≠ 41 → ¬ (mc D k = 91 ∧ 48 ≤ mc D (k + 1) ∧ mc D (k + 1) ≤ 55 ∧ mc D (k + 2) = 93) → mM X (d + 2) 159 0 (mm_L0 159 [.ref 86, .int (nI k)]) [] σ (mi_K (fun x6 σ5 => ((x6 = (0 : Int32) → Q (some (.int (-1 : Int32))) σ5) ∧ (¬ x6 = (0 : Int32) → mM X (d + 2 + 1) 158 202 [some (.ref 86), some (.int i1), some (.int (nI k + (7 : Int32))), some (.int i3), some (.int i4)] [] σ5 Q)))) := by
      intro e41 hne
      refine t159 h (by omega) ⟨_, rfl, ?_⟩
      by_cases hs : st [46, 108, 101, 110, 103, 116, 104] D k = true
      · rw [if_pos hs]
        have hl := st_le (by decide) hk hs
        simp only [List.length_cons, List.length_nil] at hl
        have eR : rAcc D (n + 1) k = (rAcc D n (k + 7)).map (fun p => (308 :: p.1, p.2)) := by rw [rAcc, if_neg e41, if_pos hs]
        refine ⟨fun h => absurd h (by decide), fun _ => ?_⟩
        rw [show nI k + (7 : Int32) = nI (k + 7) from nI_add k 7]
        refine ih (k + 7) (by omega) (by omega) (fun as k' ha => H1 (308 :: as) k' (by rw [eR, ha]; rfl)) (fun hno => H0 (by rw [eR, hno]; rfl))
      · rw [if_neg hs]
        exact ⟨fun _ => H0 (by rw [rAcc, if_neg e41, if_neg hs, if_neg hne]), fun h => absurd rfl h⟩
    refine u158_202 (t136 h (by omega) ⟨_, rfl, pk_eq (mc D k) 41 (fun e41 => ?_) (fun e41 => ?_)⟩)
    · rw [nI_1]
      exact H1 [] (k + 1) (by rw [rAcc, if_pos e41])
    · refine t136c (k := k) (c := 91) h rfl rfl (by omega) (by decide) (fun e91 => ?_) (fun e91 => fb e41 (fun g => e91 g.1))
      rw [nI_1, show nI k + (2 : Int32) = nI (k + 2) from nI_add k 2]
      refine t136 h (by omega) ⟨_, rfl, pk_lt (mc D (k + 1)) 48 (fun h1 => fb e41 (by omega)) (fun h1 => t136 h (by omega) ⟨_, rfl, pk_lt 55 (mc D (k + 1)) (fun h2 => fb e41 (by omega)) (fun h2 => ?_)⟩)⟩
      refine t136c (k := k + 2) (c := 93) h rfl rfl (by omega) (by decide) (fun e93 => ?_) (fun e93 => fb e41 (fun g => e93 g.2.2.2))
      have he : mc D k = 91 ∧ 48 ≤ mc D (k + 1) ∧ mc D (k + 1) ≤ 55 ∧ mc D (k + 2) = 93 := ⟨e91, h1, h2, e93⟩
      have hns : ¬ st [46, 108, 101, 110, 103, 116, 104] D k = true := fun g => by have := (st_len.mp g).1; omega
      have hl := mc_ne (D := D) (k := k + 2) (by omega)
      have eR : rAcc D (n + 1) k = (rAcc D n (k + 3)).map (fun p => ((300 + (mc D (k + 1) - 48)) :: p.1, p.2)) := by rw [rAcc, if_neg e41, if_neg hns, if_pos he]
      rw [show nI k + (3 : Int32) = nI (k + 3) from nI_add k 3]
      exact ih (k + 3) (by omega) (by omega) (fun as k' ha => H1 _ k' (by rw [eR, ha]; rfl)) (fun hno => H0 (by rw [eR, hno]; rfl))
/-- reference -/
theorem t158 {k : Nat} (h : sD σ D) (hk : k + 2 ≤ D.length) (H1 : ∀ p k', rRef D k = some (p, k') → Q (some (.int (nI k'))) σ) (H0 : rRef D k = none → Q (some (.int (-1))) σ) : mM X (d + 3) 158 0 (mm_L0 158 [.ref 86, .int (nI k)]) [] σ Q := by
  have h60 := h.1.1
  have b9 := mc_lt h.1 (k + 9)
  have low : ∀ z : Int32, (z = if st [105, 110, 112, 117, 116, 115, 46] D (k + 2) = true then 1 else 0) → mM X (d + 3) 158 92 [some (.ref 86), some (.int (nI k)), some (.int (nI (k + 2))), none, none] [.int z] σ Q := by
    intro z hz
    have low2 : ∀ y : Int32, (y = if st [115, 101, 108, 102] D (k + 2) = true then 1 else 0) → mM X (d + 3) 158 144 [some (.ref 86), some (.int (nI k)), some (.int (nI (k + 2))), some (.int z), none] [.int y] σ Q := by
      intro y hy
      by_cases hi : st [105, 110, 112, 117, 116, 115, 46] D (k + 2) = true
      · rw [if_pos hi] at hz
        subst hz
        have hs : ¬ st [115, 101, 108, 102] D (k + 2) = true := fun g => by
          have a := (st_self.mp g).1
          have b := (st_inp.mp hi).1
          omega
        have eR : rRef D k = if 97 ≤ mc D (k + 9) ∧ mc D (k + 9) ≤ 100 then (rAcc D 100 (k + 10)).map (fun p => ((200 + (mc D (k + 9) - 97), p.1), p.2)) else none := by unfold rRef; rw [if_neg hs, if_pos hi]
        refine u158_144 ⟨fun h => absurd h (by decide), fun _ => ?_⟩
        rw [show nI (k + 2) + (7 : Int32) = nI (k + 9) from nI_add (k + 2) 7]
        refine t136 h (by omega) ⟨_, rfl, pk_lt (mc D (k + 9)) 97 (fun h1 => H0 (by rw [eR, if_neg (by omega)])) (fun h1 => t136 h (by omega) ⟨_, rfl, pk_lt 100 (mc D (k + 9)) (fun h2 => H0 (by rw [eR, if_neg (by omega)])) (fun h2 => ⟨fun _ => ?_, fun h => absurd h (by decide)⟩)⟩)⟩
        have hl := mc_ne (D := D) (k := k + 9) (by omega)
        refine u158_187 ⟨fun h => absurd h (by decide), fun _ => ?_⟩
        rw [show nI (k + 2) + (8 : Int32) = nI (k + 10) from nI_add (k + 2) 8]
        exact t158_202 h 100 (k + 10) (by omega) (by omega) (fun as k' ha => H1 _ k' (by rw [eR, if_pos ⟨h1, h2⟩, ha]; rfl)) (fun hno => H0 (by rw [eR, if_pos ⟨h1, h2⟩, hno]; rfl))
      · rw [if_neg hi] at hz
        subst hz
        refine u158_144 ⟨fun _ => ⟨fun h => absurd rfl h, fun _ => ?_⟩, fun h => absurd rfl h⟩
        by_cases hs : st [115, 101, 108, 102] D (k + 2) = true
        · rw [if_pos hs] at hy
          subst hy
          have hl := st_le (by decide) hk hs
          simp only [List.length_cons, List.length_nil] at hl
          have eR : rRef D k = (rAcc D 100 (k + 6)).map (fun p => ((204, p.1), p.2)) := by unfold rRef; rw [if_pos hs]
          refine ⟨fun _ => u158_187 ⟨fun _ => ?_, fun h => absurd rfl h⟩, fun h => absurd h (by decide)⟩
          rw [show nI (k + 2) + (4 : Int32) = nI (k + 6) from nI_add (k + 2) 4]
          exact t158_202 h 100 (k + 6) (by omega) (by omega) (fun as k' ha => H1 _ k' (by rw [eR, ha]; rfl)) (fun hno => H0 (by rw [eR, hno]; rfl))
        · rw [if_neg hs] at hy
          subst hy
          exact ⟨fun h => absurd rfl h, fun _ => H0 (by unfold rRef; rw [if_neg hs, if_neg hi])⟩
    refine u158_92 (t136c (k := k + 2) (c := 115) h rfl rfl (by omega) (by decide) (fun e0 => ?_) (fun e => low2 0 (by rw [if_neg (fun g => e (st_self.mp g).1)])))
    refine t136c (k := k + 3) (c := 101) h (nI_add (k + 2) 1) rfl (by omega) (by decide) (fun e1 => ?_) (fun e => low2 0 (by rw [if_neg (fun g => e (st_self.mp g).2.1)]))
    refine t136c (k := k + 4) (c := 108) h (nI_add (k + 2) 2) rfl (by omega) (by decide) (fun e2 => ?_) (fun e => low2 0 (by rw [if_neg (fun g => e (st_self.mp g).2.2.1)]))
    refine t136c (k := k + 5) (c := 102) h (nI_add (k + 2) 3) rfl (by omega) (by decide) (fun e3 => low2 1 (by rw [if_pos (st_self.mpr ⟨e0, e1, e2, e3⟩)])) (fun e => low2 0 (by rw [if_neg (fun g => e (st_self.mp g).2.2.2)]))
  refine u158_0 ?_
  rw [show nI k + (2 : Int32) = nI (k + 2) from nI_add k 2]
  refine t136c (k := k + 2) (c := 105) h rfl rfl (by omega) (by decide) (fun e0 => ?_) (fun e => low 0 (by rw [if_neg (fun g => e (st_inp.mp g).1)]))
  refine t136c (k := k + 3) (c := 110) h (nI_add (k + 2) 1) rfl (by omega) (by decide) (fun e1 => ?_) (fun e => low 0 (by rw [if_neg (fun g => e (st_inp.mp g).2.1)]))
  refine t136c (k := k + 4) (c := 112) h (nI_add (k + 2) 2) rfl (by omega) (by decide) (fun e2 => ?_) (fun e => low 0 (by rw [if_neg (fun g => e (st_inp.mp g).2.2.1)]))
  refine t136c (k := k + 5) (c := 117) h (nI_add (k + 2) 3) rfl (by omega) (by decide) (fun e3 => ?_) (fun e => low 0 (by rw [if_neg (fun g => e (st_inp.mp g).2.2.2.1)]))
  refine t136c (k := k + 6) (c := 116) h (nI_add (k + 2) 4) rfl (by omega) (by decide) (fun e4 => ?_) (fun e => low 0 (by rw [if_neg (fun g => e (st_inp.mp g).2.2.2.2.1)]))
  refine t136c (k := k + 7) (c := 115) h (nI_add (k + 2) 5) rfl (by omega) (by decide) (fun e5 => ?_) (fun e => low 0 (by rw [if_neg (fun g => e (st_inp.mp g).2.2.2.2.2.1)]))
  exact t136c (k := k + 8) (c := 46) h (nI_add (k + 2) 6) rfl (by omega) (by decide) (fun e6 => low 1 (by rw [if_pos (st_inp.mpr ⟨e0, e1, e2, e3, e4, e5, e6⟩)])) (fun e => low 0 (by rw [if_neg (fun g => e (st_inp.mp g).2.2.2.2.2.2)]))
theorem t157_2 (h : sD σ D) : ∀ (n k : Nat) (o2 o3 : Option Value), k ≤ D.length → D.length - k + 1 ≤ n →
    (∀ is, rI D n k = some is → Q (some (.int 1)) σ) → (rI D n k = none → Q (some (.int 0)) σ) →
    mM X (d + 4) 157 2 [some (.ref 86), some (.int (nI k)), o2, o3] [] σ Q := by
  have h60 := h.1.1
  intro n
  induction n with
  | zero => intro k _ _ _ hn; omega
  | succ n ih =>
    intro k o2 o3 hk hn H1 H0
    refine u157_2 ?_
    rw [h.2.1]
    refine pk_le D.length k (fun hle => H1 [] (by rw [rI, if_pos hle])) (fun hlt => ?_)
    have no : ¬ st [36, 40] D k = true → mM X (d + 4) 157 37 [some (.ref 86), some (.int (nI k)), o2, o3] [.int 0] σ Q := by
      intro hs
      have eR : rI D (n + 1) k = (rI D n (k + 1)).map (fun r => .inl (mc D k) :: r) := by rw [rI, if_neg (by omega), if_neg hs]
      refine u157_37 ⟨fun _ => ?_, fun h => absurd rfl h⟩
      rw [nI_1]
      refine ⟨fun _ => ?_, fun h => absurd (nI_pos' (by omega)) h⟩
      exact ih (k + 1) _ _ (by omega) (by omega) (fun is hi => H1 (.inl (mc D k) :: is) (by rw [eR, hi]; rfl)) (fun hno => H0 (by rw [eR, hno]; rfl))
    refine t136c (k := k) (c := 36) h rfl rfl (by omega) (by decide) (fun e0 => ?_) (fun e => no (fun g => e (st_dol.mp g).1))
    refine t136c (k := k + 1) (c := 40) h (nI_add k 1) rfl (by omega) (by decide) (fun e1 => ?_) (fun e => no (fun g => e (st_dol.mp g).2))
    have hs : st [36, 40] D k = true := st_dol.mpr ⟨e0, e1⟩
    have hl := st_le (by decide) hk hs
    simp only [List.length_cons, List.length_nil] at hl
    have eR : rI D (n + 1) k = (rRef D k).bind (fun p => (rI D n p.2).map (fun r => .inr p.1 :: r)) := by rw [rI, if_neg (by omega), if_pos hs]
    refine u157_37 ⟨fun h => absurd h (by decide), fun _ => t158 h hl ?_ ?_⟩
    · intro p k' hp
      obtain ⟨z1, z2, z3, z4, z5, z6⟩ := rRef_le hl hp
      refine ⟨_, rfl, ⟨fun _ => ?_, fun h => absurd (nI_pos' (by omega)) h⟩⟩
      exact ih k' _ _ z2 (by omega) (fun is hi => H1 (.inr p :: is) (by rw [eR, hp, Option.bind_some, hi]; rfl)) (fun hno => H0 (by rw [eR, hp, Option.bind_some, hno]; rfl))
    · intro hno
      exact ⟨_, rfl, ⟨fun h => absurd h (by decide), fun _ => H0 (by rw [eR, hno]; rfl)⟩⟩
/-- a rule of the reference -/
def sRu (σ : mS) (w : Nat) (D : List Nat) : Prop := mD_ok D ∧ σ.2.1 105 w = nI D.length ∧ ∀ i, i < D.length → σ.2.1 104 (60 * w + i) = nI (mc D i)
def kB (w b j : Nat) : Prop := b = 104 ∧ 60 * w ≤ j ∧ j < 60 * w + 60 ∨ b = 105 ∧ j = w
theorem t156_20 {w : Nat} {i1 : Int32} {σ0 : mS} (hw : w < 30) (hD : mD_ok D) (H : ∀ σ' i4, mKp mN1 (kB w) mN1 mN1 σ0 σ' → sD σ' D → (∀ i, i < D.length → σ'.2.1 104 (60 * w + i) = nI (mc D i)) → mM X (d + 1) 156 58 [some (.ref 86), some (.int i1), some (.int (nI w)), some (.int 1), some (.int i4)] [] σ' Q) : ∀ (m k : Nat) (σ : mS), k + m = D.length → sD σ D → mKp mN1 (kB w) mN1 mN1 σ0 σ → (∀ i, i < k → σ.2.1 104 (60 * w + i) = nI (mc D i)) →
    mM X (d + 1) 156 20 [some (.ref 86), some (.int i1), some (.int (nI w)), some (.int 1), some (.int (nI k))] [] σ Q := by
  have h60 := hD.1
  intro m
  induction m with
  | zero =>
    intro k σ hk h K hg
    refine u156_20 ?_
    rw [h.2.1]
    exact pk_le D.length k (fun _ => H σ _ K h (fun i hi => hg i (by omega))) (fun h => absurd h (by omega))
  | succ m ih =>
    intro k σ hk h K hg
    have hkl : k < D.length := by omega
    have hb := (hD.2 _ (mc_in hkl)).2
    refine u156_20 ?_
    rw [h.2.1, mGet_e (by omega), h.2.2 k hkl, show (60 : Int32) = nI 60 from rfl, pk_mul, nI_add, uI_e (by omega)]
    refine pk_le D.length k (fun h => absurd h (by omega)) (fun _ => ⟨fun h => absurd h (by decide), fun _ => ⟨m_ix (by omega) (by decide), m_ix (by omega) (by decide), m_cb (by omega), ?_⟩⟩)
    rintro σ1 rfl
    rw [nI_1]
    refine ih (k + 1) _ (by omega) ⟨h.1, h.2.1, fun i hi => ?_⟩ ?_ ?_
    · unfold uI; simp; exact h.2.2 i hi
    · refine K.tr ⟨fun _ _ => rfl, fun b j _ hB => ?_, fun _ _ => rfl, fun s hs _ => ⟨?_, fun _ _ => rfl⟩⟩
      · rw [uI_g, if_neg]
        rintro ⟨rfl, rfl⟩
        exact hB (Or.inl ⟨rfl, by omega, by omega⟩)
      · unfold uI; simp
    · intro i hi
      rw [uI_g]
      by_cases e : i = k
      · subst e; simp
      · rw [if_neg (by omega)]
        exact hg i (by omega)
/-- keepRule -/
theorem t156 {g : Int32} {w : Nat} (hg : g = 0 ∨ g = 1) (h : sD σ D) (hw : w < 30)
    (H1 : g = 1 → ∀ is, rR D = some is → ∀ σ', mKp (fun k => k = 3) (kB w) mN1 mN1 σ σ' → sD σ' [] → sRu σ' w D → Q (some (.int 1)) σ')
    (H0 : g = 0 ∨ rR D = none → ∀ σ', mKp (fun k => k = 3) mN2 mN1 mN1 σ σ' → sD σ' [] → Q (some (.int 0)) σ') : mM X (d + 6) 156 0 (mm_L0 156 [.ref 86, .int g, .int (nI w)]) [] σ Q := by
  have h60 := h.1.1
  have dn : ∀ σ1 : mS, sD (mSet σ1 3 0) [] := fun σ1 => ⟨⟨by simp, fun c hc => nomatch hc⟩, by unfold mSet; simp; rfl, fun i hi => absurd hi (by simp)⟩
  have ks : ∀ σ1 : mS, mKp (fun k => k = 3) mN2 mN1 mN1 σ1 (mSet σ1 3 0) := fun σ1 => ⟨fun k hk => by unfold mSet; simp [hk], fun _ _ _ _ => rfl, fun _ _ => rfl, fun _ _ _ => ⟨rfl, fun _ _ => rfl⟩⟩
  have low : (g = 0 ∨ rR D = none) → ∀ i4, mM X (d + 6) 156 20 [some (.ref 86), some (.int g), some (.int (nI w)), some (.int 0), some (.int i4)] [] σ Q := by
    intro hz i4
    have fin : mM X (d + 6) 156 58 [some (.ref 86), some (.int g), some (.int (nI w)), some (.int 0), some (.int i4)] [] σ Q := by
      refine u156_58 ⟨fun _ σ2 e => ⟨Or.inl rfl, ?_⟩, fun h => absurd rfl h⟩
      subst e
      exact H0 hz _ (ks σ) (dn σ)
    exact u156_20 ⟨fun _ => fin, fun _ => ⟨fun _ => fin, fun h => absurd rfl h⟩⟩
  refine u156_0 ⟨fun e => low (Or.inl e) _, fun e => ?_⟩
  have g1 : g = 1 := by rcases hg with hg | hg; exact absurd hg e; exact hg
  refine u157_0 (t157_2 h 100 0 _ _ (by omega) (by omega) ?_ ?_)
  · intro is hi
    refine ⟨_, rfl, fun h => absurd h (by decide), fun _ => ?_⟩
    refine t156_20 (d := d + 5) (σ0 := σ) hw h.1 ?_ D.length 0 σ (by omega) h mKp.rf (fun i hi => absurd hi (by omega))
    intro σ1 i4 K1 h1 hg1
    refine u156_58 ⟨fun h => absurd h (by decide), fun _ => ⟨m_ix hw (by decide), ?_⟩⟩
    rw [h1.2.1, uI_e (by omega)]
    rintro σ2 rfl σ3 rfl
    refine ⟨Or.inr rfl, H1 g1 is hi _ ?_ (dn _) ⟨h.1, ?_, fun i hi => ?_⟩⟩
    · refine ((K1.mono (fun _ h => h.elim) (fun _ _ h => h) (fun _ h => h) (fun _ h => h)).tr (c := uI σ1 105 w (nI D.length)) ⟨fun _ _ => rfl, fun b j _ hB => ?_, fun _ _ => rfl, fun s hs _ => ⟨?_, fun _ _ => rfl⟩⟩).tr ((ks _).mono (fun _ h => h) (fun _ _ h => h.elim) (fun _ h => h) (fun _ h => h))
      · rw [uI_g, if_neg]
        rintro ⟨rfl, rfl⟩
        exact hB (Or.inr ⟨rfl, rfl⟩)
      · unfold uI; simp
    · unfold mSet uI; simp
    · unfold mSet uI; simp; exact hg1 i hi
  · intro hno
    exact ⟨_, rfl, fun _ => low (Or.inr hno) _, fun h => absurd rfl h⟩
end RRR
