/-! RULES: their letters and items; the class reads them into codes -/
abbrev mIt : Type := Nat ⊕ (Nat × List Nat)
def st : List Nat → List Nat → Nat → Bool
  | [], _, _ => true
  | c :: nm, D, k => (mc D k == c) && st nm D (k + 1)
theorem st_le {D : List Nat} : ∀ {nm : List Nat} {k : Nat}, (∀ c ∈ nm, c ≠ 0) → k ≤ D.length → st nm D k = true → k + nm.length ≤ D.length
  | [], k, _, h, _ => by simpa using h
  | c :: nm, k, h0, h, hs => by
    rw [st, Bool.and_eq_true, beq_iff_eq] at hs
    have := mc_ne (D := D) (k := k) (by rw [hs.1]; exact h0 c List.mem_cons_self)
    have := st_le (nm := nm) (k := k + 1) (fun x hx => h0 x (List.mem_cons_of_mem _ hx)) this hs.2
    rw [List.length_cons]; omega
def rAcc (D : List Nat) : Nat → Nat → Option (List Nat × Nat)
  | 0, _ => none
  | n + 1, k => if mc D k = 41 then some ([], k + 1) else if st [46, 108, 101, 110, 103, 116, 104] D k = true then (rAcc D n (k + 7)).map (fun p => (308 :: p.1, p.2)) else if mc D k = 91 ∧ 48 ≤ mc D (k + 1) ∧ mc D (k + 1) ≤ 55 ∧ mc D (k + 2) = 93 then (rAcc D n (k + 3)).map (fun p => ((300 + (mc D (k + 1) - 48)) :: p.1, p.2)) else none
def rRef (D : List Nat) (k : Nat) : Option ((Nat × List Nat) × Nat) := if st [115, 101, 108, 102] D (k + 2) = true then (rAcc D 100 (k + 6)).map (fun p => ((204, p.1), p.2)) else if st [105, 110, 112, 117, 116, 115, 46] D (k + 2) = true then (if 97 ≤ mc D (k + 9) ∧ mc D (k + 9) ≤ 100 then (rAcc D 100 (k + 10)).map (fun p => ((200 + (mc D (k + 9) - 97), p.1), p.2)) else none) else none
def rI (D : List Nat) : Nat → Nat → Option (List mIt)
  | 0, _ => none
  | n + 1, k => if D.length ≤ k then some [] else if st [36, 40] D k = true then (rRef D k).bind (fun p => (rI D n p.2).map (fun r => .inr p.1 :: r)) else (rI D n (k + 1)).map (fun r => .inl (mc D k) :: r)
def rEn : mIt → List Nat
  | .inl c => [c]
  | .inr p => p.1 :: (p.2 ++ [400])
def rCs (is : List mIt) : List Nat := (is.map rEn).flatten
def rLc : List mIt → Nat
  | [] => 0
  | .inl _ :: is => 1 + rLc is
  | .inr _ :: is => rLc is
def rRc : List mIt → Nat
  | [] => 0
  | .inl _ :: is => rRc is
  | .inr _ :: is => 1 + rRc is
theorem rAcc_le {D : List Nat} : ∀ (n k : Nat) (as : List Nat) (k' : Nat), k ≤ D.length → rAcc D n k = some (as, k') → as.length + 1 + k ≤ k' ∧ k' ≤ D.length ∧ ∀ a ∈ as, 300 ≤ a ∧ a ≤ 308 := by
  intro n
  induction n with
  | zero => intro k as k' _ h; cases h
  | succ n ih =>
    intro k as k' hk h
    rw [rAcc] at h
    split at h
    · rename_i h41
      cases h
      have := mc_ne (D := D) (k := k) (by omega)
      exact ⟨by simp; omega, by omega, fun a ha => nomatch ha⟩
    · split at h
      · rename_i hs
        have hl := st_le (by decide) hk hs
        simp only [List.length_cons, List.length_nil] at hl
        rw [Option.map_eq_some_iff] at h
        obtain ⟨p, h1, e⟩ := h
        cases e
        obtain ⟨a1, a2, a3⟩ := ih (k + 7) p.1 p.2 (by omega) h1
        refine ⟨by rw [List.length_cons]; omega, a2, fun a ha => ?_⟩
        rcases List.mem_cons.mp ha with rfl | ha
        · omega
        · exact a3 a ha
      · split at h
        · rename_i he
          have := mc_ne (D := D) (k := k + 2) (by omega)
          rw [Option.map_eq_some_iff] at h
          obtain ⟨p, h1, e⟩ := h
          cases e
          obtain ⟨a1, a2, a3⟩ := ih (k + 3) p.1 p.2 (by omega) h1
          refine ⟨by rw [List.length_cons]; omega, a2, fun a ha => ?_⟩
          rcases List.mem_cons.mp ha with rfl | ha
          · omega
          · exact a3 a ha
        · cases h
theorem rRef_le {D : List Nat} {k : Nat} {p : Nat × List Nat} {k' : Nat} (hk : k + 2 ≤ D.length) (h : rRef D k = some (p, k')) : p.2.length + 2 + k ≤ k' ∧ k' ≤ D.length ∧ 200 ≤ p.1 ∧ p.1 ≤ 204 ∧ (∀ a ∈ p.2, 300 ≤ a ∧ a ≤ 308) ∧ k + 2 < k' := by
  unfold rRef at h
  split at h
  · rename_i hs
    have hl := st_le (by decide) hk hs
    simp only [List.length_cons, List.length_nil] at hl
    rw [Option.map_eq_some_iff] at h
    obtain ⟨q, h1, e⟩ := h
    cases e
    obtain ⟨a1, a2, a3⟩ := rAcc_le 100 (k + 6) q.1 q.2 (by omega) h1
    exact ⟨by show q.1.length + 2 + k ≤ _; omega, a2, by show 200 ≤ 204; decide, by show 204 ≤ 204; decide, a3, by omega⟩
  · split at h
    · split at h
      · rename_i hs hc
        have hl := mc_ne (D := D) (k := k + 9) (by omega)
        rw [Option.map_eq_some_iff] at h
        obtain ⟨q, h1, e⟩ := h
        cases e
        obtain ⟨a1, a2, a3⟩ := rAcc_le 100 (k + 10) q.1 q.2 (by omega) h1
        exact ⟨by show q.1.length + 2 + k ≤ _; omega, a2, by show 200 ≤ 200 + _; omega, by show 200 + (mc D (k + 9) - 97) ≤ 204; omega, a3, by omega⟩
      · cases h
    · cases h
/-- a rule under way: its codes, letters, references; room for N codes -/
def cRu (hp : mm_H) (r : Nat) (cs : List Nat) (a b N : Nat) : Prop := ∃ junk, hp[r]? = some (8, [.ref (r + 1), .int (nI cs.length), .int (nI a), .int (nI b)]) ∧ hp[r + 1]? = some (1000, cs.map mI ++ junk) ∧ cs.length + junk.length = N ∧ N ≤ 60 ∧ ∀ v ∈ junk, ∃ x, v = .int x
theorem cRu.keep {hp hp' : mm_H} {r : Nat} {cs : List Nat} {a b N : Nat} {W : Nat → Prop} (h : cRu hp r cs a b N) (E : cE W hp hp') (h0 : ¬ W r) (h1 : ¬ W (r + 1)) : cRu hp' r cs a b N := by
  obtain ⟨j, a1, a2, a3⟩ := h
  exact ⟨j, E.at a1 h0, E.at a2 h1, a3⟩
section CRU
variable {X : List Int32} {d : Nat} {hp : mm_H} {Q : Option Value → mm_H → Prop} {D : List Nat}
/-- letters of the draft, at cell 2 -/
theorem cD.ai {x : Int32} {k : Nat} {K : Int32 → Prop} (h : cD hp D x) (hk : k < D.length) (H : K (nI (mc D k))) : mw_ai 1001 (.ref 2) (nI k) hp K := by
  obtain ⟨a, b, j, c, e⟩ := h
  have := a.1
  exact ⟨2, _, nI (mc D k), rfl, c, nI_pos' (by omega), by rw [nI_clamp (by omega), List.getElem?_append_left (by simpa using hk), List.getElem?_map, mc_get hk]; rfl, H⟩
theorem cD.ln {x : Int32} {K : Int32 → Prop} (h : cD hp D x) (H : K (nI 60)) : mw_ln (.ref 2) hp K := by
  obtain ⟨a, b, j, c, e⟩ := h
  refine ⟨2, _, _, rfl, c, by decide, rfl, ?_⟩
  rw [show (D.map mI ++ j).length = 60 by simp; omega]; exact H
theorem k45_25 {i k : Nat} {nm : List Nat} {x : Int32} {i3 : Int32} (hd : 4 ≤ d) (hnm : mm_tx[i]? = some nm) (hn : nm.length ≤ 20) (hc : ∀ c ∈ nm, c < 200) (hD : cD hp D x) (hk : k + nm.length ≤ D.length) : ∀ (m j : Nat), j + m = nm.length → Q (some (.int (if st (nm.drop j) D (k + j) = true then 1 else 0))) hp →
    mm_R X (d + 1) 45 25 [some (.retAddr i), some (.ref 2), some (.int (nI k)), some (.int i3), some (.int (nI j))] [] hp Q := by
  have h60 := hD.1.1
  intro m
  induction m with
  | zero =>
    intro j hj H
    rw [List.drop_eq_nil_of_le (by omega), st, if_pos rfl] at H
    exact w45_25 ⟨rfl, ⟨i, nm, rfl, hnm, hd, pk_le nm.length j (fun _ => H) (fun h => absurd h (by omega))⟩⟩
  | succ m ih =>
    intro j hj H
    have hjl : j < nm.length := by omega
    have hdr := List.drop_eq_getElem_cons hjl
    have hb := hc _ (List.getElem_mem hjl)
    have hml := mc_lt hD.1 (k + j)
    refine w45_25 ⟨rfl, ⟨i, nm, rfl, hnm, hd, pk_le nm.length j (fun h => absurd h (by omega)) (fun _ => ⟨rfl, ?_⟩)⟩⟩
    rw [nI_add]
    refine hD.ai (by omega) ⟨i, nm, nm[j], rfl, hnm, hd, nI_pos' (by omega), by rw [nI_clamp (by omega)]; exact List.getElem?_eq_getElem hjl, pk_eq (mc D (k + j)) nm[j] (fun e => ?_) (fun e => ?_)⟩
    · rw [nI_1]
      refine ih (j + 1) (by omega) ?_
      rw [hdr, st, e, beq_self_eq_true, Bool.true_and] at H
      exact H
    · rw [hdr, st, beq_false_of_ne e, Bool.false_and, if_neg (by decide)] at H
      exact H
/-- stands -/
theorem k45 {i k : Nat} {nm : List Nat} {x : Int32} (hd : 4 ≤ d) (hnm : mm_tx[i]? = some nm) (hn : nm.length ≤ 20) (hc : ∀ c ∈ nm, c < 200) (hc0 : ∀ c ∈ nm, c ≠ 0) (hD : cD hp D x) (hk : k ≤ D.length) (H : Q (some (.int (if st nm D k = true then 1 else 0))) hp) : mm_R X (d + 1) 45 0 (mm_L0 45 [.retAddr i, .ref 2, .int (nI k), .int (nI D.length)]) [] hp Q := by
  have h60 := hD.1.1
  refine w45_0 (pk_lt k 0 (fun h => absurd h (by omega)) (fun _ => ⟨rfl, hD.ln (pk_lt 60 D.length (fun h => absurd h (by omega)) (fun _ => ⟨rfl, ⟨i, nm, rfl, hnm, hd, ?_⟩⟩))⟩))
  rw [pk_sub hk]
  refine pk_le nm.length (D.length - k) (fun hle => ?_) (fun hgt => ?_)
  · exact k45_25 hd hnm hn hc hD (by omega) nm.length 0 (by omega) (by simpa using H)
  · rw [if_neg (fun h => by have := st_le hc0 hk h; omega)] at H
    exact H
theorem k49 {k : Nat} {x : Int32} (hD : cD hp D x) (hk : k ≤ D.length) (H : Q (some (.int (if mc D k = 91 ∧ 48 ≤ mc D (k + 1) ∧ mc D (k + 1) ≤ 55 ∧ mc D (k + 2) = 93 then 1 else 0))) hp) : mm_R X (d + 1) 49 0 (mm_L0 49 [.ref 2, .int (nI k), .int (nI D.length)]) [] hp Q := by
  have h60 := hD.1.1
  have b0 := mc_lt hD.1 k
  have b1 := mc_lt hD.1 (k + 1)
  have b2 := mc_lt hD.1 (k + 2)
  refine w49_0 ?_
  rw [pk_sub hk]
  refine pk_lt (D.length - k) 3 (fun h => ?_) (fun h => ⟨rfl, hD.ai (by omega) ?_⟩)
  · rw [if_neg (fun g => by have := mc_ne (D := D) (k := k + 2) (by omega); omega)] at H; exact H
  · refine pk_eq (mc D k) 91 (B := _) (A := _) (fun e0 => ?_) (fun e0 => ?_) |>.symm
    · rw [show (2 : Int32) = nI 2 from rfl, nI_add, nI_1]
      refine hD.ai (by omega) (pk_eq (mc D (k + 2)) 93 (fun e2 => hD.ai (by omega) (pk_lt (mc D (k + 1)) 48 (fun h1 => ?_) (fun h1 => hD.ai (by omega) (pk_lt 55 (mc D (k + 1)) (fun h2 => ?_) (fun h2 => ?_))))) (fun e2 => ?_))
      · rw [if_neg (by omega)] at H; exact H
      · rw [if_neg (by omega)] at H; exact H
      · rw [if_pos ⟨e0, h1, h2, e2⟩] at H; exact H
      · rw [if_neg (fun g => e2 g.2.2.2)] at H; exact H
    · rw [if_neg (fun g => e0 g.1)] at H; exact H
/-- addCode -/
theorem k47 {r c a b N : Nat} {cs : List Nat} (R : cRu hp r cs a b N) (hN : cs.length < N) (H : ∀ hp', cE (fun x => x = r ∨ x = r + 1) hp hp' → cG 0 hp hp' → cRu hp' r (cs ++ [c]) a b N → Q none hp') : mm_R X (d + 1) 47 0 (mm_L0 47 [.ref r, .int (nI c)]) [] hp Q := by
  obtain ⟨junk, h, h', hl, hN6, hj⟩ := R
  have hlen : r + 1 < hp.length := (List.getElem?_eq_some_iff.mp h').1
  have hcl : (cs.map mI ++ junk).length = N := by simp; omega
  cases junk with
  | nil => simp at hl; omega
  | cons v junk =>
    rw [List.length_cons] at hl
    have key : mm_R X (d + 1) 47 0 (mm_L0 47 [.ref r, .int (nI c)]) [] (c2 hp r (8, [.ref (r + 1), .int (nI cs.length), .int (nI a), .int (nI b)]) (1000, cs.map mI ++ v :: junk)) Q := by
      refine w47_0 (c2_gi hlen rfl (c2_gv hlen rfl (c2_ln hlen ⟨by decide, rfl⟩ ?_)))
      rw [hcl]
      refine pk_le N cs.length (fun h => absurd h (by omega)) (fun _ => c2_gv hlen rfl (c2_gi hlen rfl (c2_si hlen (by omega) (by rw [hcl]; omega) rfl (c2_gi hlen rfl ?_))))
      rw [nI_1]
      refine c2_pt hlen rfl rfl ?_
      have ec : (cs.map mI ++ v :: junk).set cs.length (.int (nI c)) = (cs ++ [c]).map mI ++ junk := by
        rw [List.set_append_right _ _ (by simp)]
        simp [mI]
      rw [ec]
      refine H _ (c2_e (Or.inl rfl) (Or.inr rfl)) (c2_g h h' rfl ?_) ⟨junk, ?_, c2_1 hlen, by simp; omega, hN6, fun w hw => hj w (List.mem_cons_of_mem _ hw)⟩
      · simp
      · rw [c2_0 hlen]; simp
    rw [c2_self h h'] at key
    exact key
theorem cRu.rc {r a b N k : Nat} {cs : List Nat} (R : cRu hp r cs a b N) (hk : mm_mc k = 8) : mw_rc (.ref r) k hp := by
  obtain ⟨junk, h, _⟩ := R
  exact ⟨r, _, rfl, by rw [hk]; exact h⟩
theorem cRu.bump2 {r a b N : Nat} {cs : List Nat} {K : mm_H → Prop} (R : cRu hp r cs a b N) (H : ∀ hp', cE (fun x => x = r ∨ x = r + 1) hp hp' → cG 0 hp hp' → cRu hp' r cs (a + 1) b N → K hp') : mw_gi 8 2 (.ref r) hp (fun x9 => mw_pt 8 2 (.ref r) (.int (x9 + (1 : Int32))) hp K) := by
  obtain ⟨junk, h, h', z⟩ := R
  have hl := (List.getElem?_eq_some_iff.mp h).1
  refine ⟨r, _, _, rfl, h, rfl, r, _, rfl, h, Nat.le_of_ble_eq_true rfl, rfl, H _ (cE.set (Or.inl rfl)) ⟨by simp, by rw [mm_sz_set h (by rfl)]; omega⟩ ⟨junk, ?_, ?_, z⟩⟩
  · rw [List.getElem?_set_self hl, nI_1]; rfl
  · rw [List.getElem?_set_ne (by omega)]; exact h'
theorem cRu.bump3 {r a b N : Nat} {cs : List Nat} {K : mm_H → Prop} (R : cRu hp r cs a b N) (H : ∀ hp', cE (fun x => x = r ∨ x = r + 1) hp hp' → cG 0 hp hp' → cRu hp' r cs a (b + 1) N → K hp') : mw_gi 8 3 (.ref r) hp (fun x9 => mw_pt 8 3 (.ref r) (.int (x9 + (1 : Int32))) hp K) := by
  obtain ⟨junk, h, h', z⟩ := R
  have hl := (List.getElem?_eq_some_iff.mp h).1
  refine ⟨r, _, _, rfl, h, rfl, r, _, rfl, h, Nat.le_of_ble_eq_true rfl, rfl, H _ (cE.set (Or.inl rfl)) ⟨by simp, by rw [mm_sz_set h (by rfl)]; omega⟩ ⟨junk, ?_, ?_, z⟩⟩
  · rw [List.getElem?_set_self hl, nI_1]; rfl
  · rw [List.getElem?_set_ne (by omega)]; exact h'
theorem k48_3 {r a b : Nat} {i2 : Int32} (hd : 4 ≤ d) (hr : 3 ≤ r) : ∀ (n k : Nat) (hp : mm_H) (cs : List Nat) (x : Int32), cD hp D x → k ≤ D.length → D.length - k + 1 ≤ n → cs.length ≤ k → cRu hp r cs a b D.length →
    (∀ as k', rAcc D n k = some (as, k') → ∀ hp', cE (fun x => x = r ∨ x = r + 1) hp hp' → cG 0 hp hp' → cRu hp' r (cs ++ (as ++ [400])) a (b + 1) D.length → Q (some (.int (nI k'))) hp') →
    (rAcc D n k = none → ∀ hp', cE (fun x => x = r ∨ x = r + 1) hp hp' → cG 0 hp hp' → Q (some (.int (-1))) hp') →
    mm_R X (d + 2) 48 3 [some (.ref r), some (.ref 2), some (.int i2), some (.int (nI D.length)), some (.int (nI k))] [] hp Q := by
  intro n
  induction n with
  | zero => intro k hp cs x _ _ h; omega
  | succ n ih =>
    intro k hp cs x hD hk hn hcs R H1 H0
    have h60 := hD.1.1
    have b0 := mc_lt hD.1 k
    have kp : ∀ hp', cE (fun x => x = r ∨ x = r + 1) hp hp' → cD hp' D x := fun hp' E => hD.keep E (by omega) (by omega)
    refine w48_3 (pk_lt k 0 (fun h => absurd h (by omega)) (fun _ => pk_le D.length k (fun h => ?_) (fun hlt => ⟨rfl, hD.ai hlt ?_⟩)))
    · refine H0 ?_ hp cE.rf cG.rf
      have e0 := mc_0 (D := D) (k := k) h
      have e2 := mc_0 (D := D) (k := k + 2) (by omega)
      rw [rAcc, if_neg (by omega), if_neg, if_neg (by omega)]
      rw [st, e0]; simp
    · refine pk_eq (mc D k) 41 (B := _) (A := _) (fun e41 => ?_) (fun e41 => ?_) |>.symm
      · refine ⟨R.rc rfl, k47 (c := 400) R (by omega) (fun hp1 E1 G1 R1 => ⟨rfl, R1.bump3 (fun hp2 E2 G2 R2 => ?_)⟩)⟩
        rw [nI_1]
        exact H1 [] (k + 1) (by rw [rAcc, if_pos e41]) hp2 (E1.tr E2) (G1.tr G2) R2
      · refine k45 (nm := [46, 108, 101, 110, 103, 116, 104]) hd rfl (by decide) (by decide) (by decide) hD hk ⟨_, rfl, ?_⟩
        by_cases hs : st [46, 108, 101, 110, 103, 116, 104] D k = true
        · rw [if_pos hs]
          have hl := st_le (by decide) hk hs
          simp only [List.length_cons, List.length_nil] at hl
          have eR : rAcc D (n + 1) k = (rAcc D n (k + 7)).map (fun p => (308 :: p.1, p.2)) := by rw [rAcc, if_neg e41, if_pos hs]
          refine ⟨fun h => absurd h (by decide), fun _ => ⟨R.rc rfl, k47 (c := 308) R (by omega) (fun hp1 E1 G1 R1 => ⟨rfl, 4, _, rfl, rfl, by omega, ?_⟩)⟩⟩
          dsimp only
          rw [show nI k + nI [46, 108, 101, 110, 103, 116, 104].length = nI (k + 7) from nI_add k 7]
          refine ih (k + 7) hp1 (cs ++ [308]) x (kp hp1 E1) (by omega) (by omega) (by simp; omega) R1 ?_ ?_
          · intro as k' has hp2 E2 G2 R2
            exact H1 (308 :: as) k' (by rw [eR, has]; rfl) hp2 (E1.tr E2) (G1.tr G2) (by simpa using R2)
          · intro hno hp2 E2 G2
            exact H0 (by rw [eR, hno]; rfl) hp2 (E1.tr E2) (G1.tr G2)
        · rw [if_neg hs]
          refine ⟨fun _ => k49 hD hk ⟨_, rfl, ?_⟩, fun h => absurd rfl h⟩
          by_cases he : mc D k = 91 ∧ 48 ≤ mc D (k + 1) ∧ mc D (k + 1) ≤ 55 ∧ mc D (k + 2) = 93
          · rw [if_pos he]
            have hl := mc_ne (D := D) (k := k + 2) (by omega)
            have eR : rAcc D (n + 1) k = (rAcc D n (k + 3)).map (fun p => ((300 + (mc D (k + 1) - 48)) :: p.1, p.2)) := by rw [rAcc, if_neg e41, if_neg hs, if_pos he]
            refine ⟨fun h => absurd h (by decide), fun _ => ?_⟩
            rw [nI_1]
            refine hD.ai (by omega) ⟨R.rc rfl, ?_⟩
            rw [show (48 : Int32) = nI 48 from rfl, pk_sub he.2.1, show (300 : Int32) = nI 300 from rfl, nI_add]
            refine k47 R (by omega) (fun hp1 E1 G1 R1 => ⟨rfl, ?_⟩)
            rw [show (3 : Int32) = nI 3 from rfl, nI_add]
            refine ih (k + 3) hp1 _ x (kp hp1 E1) (by omega) (by omega) (by simp; omega) R1 ?_ ?_
            · intro as k' has hp2 E2 G2 R2
              exact H1 _ k' (by rw [eR, has]; rfl) hp2 (E1.tr E2) (G1.tr G2) (by simpa using R2)
            · intro hno hp2 E2 G2
              exact H0 (by rw [eR, hno]; rfl) hp2 (E1.tr E2) (G1.tr G2)
          · rw [if_neg he]
            exact ⟨fun _ => H0 (by rw [rAcc, if_neg e41, if_neg hs, if_neg he]) hp cE.rf cG.rf, fun h => absurd rfl h⟩
/-- addReference -/
theorem k46 {r a b k : Nat} {x : Int32} {cs : List Nat} (hd : 4 ≤ d) (hr : 3 ≤ r) (hD : cD hp D x) (hk : k + 2 ≤ D.length) (hcs : cs.length ≤ k) (R : cRu hp r cs a b D.length)
    (H1 : ∀ p k', rRef D k = some (p, k') → ∀ hp', cE (fun x => x = r ∨ x = r + 1) hp hp' → cG 0 hp hp' → cRu hp' r (cs ++ rEn (.inr p)) a (b + 1) D.length → Q (some (.int (nI k'))) hp')
    (H0 : rRef D k = none → ∀ hp', cE (fun x => x = r ∨ x = r + 1) hp hp' → cG 0 hp hp' → Q (some (.int (-1))) hp') : mm_R X (d + 3) 46 0 (mm_L0 46 [.ref r, .ref 2, .int (nI (k + 2)), .int (nI D.length)]) [] hp Q := by
  have h60 := hD.1.1
  have kp : ∀ hp', cE (fun x => x = r ∨ x = r + 1) hp hp' → cD hp' D x := fun hp' E => hD.keep E (by omega) (by omega)
  refine w46_0 ⟨rfl, k45 (nm := [115, 101, 108, 102]) (by omega) rfl (by decide) (by decide) (by decide) hD hk ⟨_, rfl, ?_⟩⟩
  by_cases hs : st [115, 101, 108, 102] D (k + 2) = true
  · rw [if_pos hs]
    have hl := st_le (by decide) hk hs
    simp only [List.length_cons, List.length_nil] at hl
    have eR : rRef D k = (rAcc D 100 (k + 6)).map (fun p => ((204, p.1), p.2)) := by unfold rRef; rw [if_pos hs]
    refine ⟨fun h => absurd h (by decide), fun _ => ⟨R.rc rfl, k47 (c := 204) R (by omega) (fun hp1 E1 G1 R1 => ⟨rfl, 2, _, rfl, rfl, by omega, R1.rc rfl, ?_⟩)⟩⟩
    rw [show nI (k + 2) + nI [115, 101, 108, 102].length = nI (k + 6) from nI_add (k + 2) 4]
    refine w48_0 (k48_3 hd hr 100 (k + 6) hp1 (cs ++ [204]) x (kp hp1 E1) (by omega) (by omega) (by simp; omega) R1 ?_ ?_)
    · intro as k' has hp2 E2 G2 R2
      exact ⟨_, rfl, H1 (204, as) k' (by rw [eR, has]; rfl) hp2 (E1.tr E2) (G1.tr G2) (by simpa [rEn] using R2)⟩
    · intro hno hp2 E2 G2
      exact ⟨_, rfl, H0 (by rw [eR, hno]; rfl) hp2 (E1.tr E2) (G1.tr G2)⟩
  · rw [if_neg hs]
    refine ⟨fun _ => k45 (nm := [105, 110, 112, 117, 116, 115, 46]) (by omega) rfl (by decide) (by decide) (by decide) hD hk ⟨_, rfl, ?_⟩, fun h => absurd rfl h⟩
    by_cases hi : st [105, 110, 112, 117, 116, 115, 46] D (k + 2) = true
    · rw [if_pos hi]
      have hl := st_le (by decide) hk hi
      simp only [List.length_cons, List.length_nil] at hl
      have b9 := mc_lt hD.1 (k + 9)
      have eR : rRef D k = if 97 ≤ mc D (k + 9) ∧ mc D (k + 9) ≤ 100 then (rAcc D 100 (k + 10)).map (fun p => ((200 + (mc D (k + 9) - 97), p.1), p.2)) else none := by unfold rRef; rw [if_neg hs, if_pos hi]
      refine ⟨fun h => absurd h (by decide), fun _ => ⟨3, _, rfl, rfl, by omega, ?_⟩⟩
      dsimp only
      rw [show nI (k + 2) + nI [105, 110, 112, 117, 116, 115, 46].length = nI (k + 9) from nI_add (k + 2) 7]
      refine pk_le D.length (k + 9) (fun h => H0 ?_ hp cE.rf cG.rf) (fun hlt => hD.ai hlt (pk_lt (mc D (k + 9)) 97 (fun h => H0 ?_ hp cE.rf cG.rf) (fun h97 => hD.ai hlt (pk_le (mc D (k + 9)) 100 (fun h100 => hD.ai hlt ⟨R.rc rfl, ?_⟩) (fun h => H0 ?_ hp cE.rf cG.rf)))))
      · have := mc_0 (D := D) (k := k + 9) h
        rw [eR, if_neg (by omega)]
      · rw [eR, if_neg (by omega)]
      · rw [show (97 : Int32) = nI 97 from rfl, pk_sub h97, show (200 : Int32) = nI 200 from rfl, nI_add]
        refine k47 R (by omega) (fun hp1 E1 G1 R1 => ⟨rfl, R1.rc rfl, ?_⟩)
        rw [nI_1]
        refine w48_0 (k48_3 hd hr 100 (k + 10) hp1 _ x (kp hp1 E1) (by omega) (by omega) (by simp; omega) R1 ?_ ?_)
        · intro as k' has hp2 E2 G2 R2
          exact ⟨_, rfl, H1 (200 + (mc D (k + 9) - 97), as) k' (by rw [eR, if_pos ⟨h97, h100⟩, has]; rfl) hp2 (E1.tr E2) (G1.tr G2) (by simpa [rEn] using R2)⟩
        · intro hno hp2 E2 G2
          exact ⟨_, rfl, H0 (by rw [eR, if_pos ⟨h97, h100⟩, hno]; rfl) hp2 (E1.tr E2) (G1.tr G2)⟩
      · rw [eR, if_neg (by omega)]
    · rw [if_neg hi]
      exact ⟨fun _ => H0 (by unfold rRef; rw [if_neg hs, if_neg hi]) hp cE.rf cG.rf, fun h => absurd rfl h⟩
end CRU
