/-! THE REFERENCE'S WORDS -/
def wA (job p : Nat) : Prop := 600 + 192 * job ≤ p ∧ p < 600 + 192 * job + 192
def wdB (job b j : Nat) : Prop := b = 109 ∧ j = job ∨ b = 110 ∧ 8 * job ≤ j ∧ j < 8 * job + 8
def wdK (job : Nat) (σ σ' : mS) : Prop := mKp (fun k => k = 39 ∨ k = 40 ∨ k = 42 ∨ k = 43) (wdB job) (wA job) mN1 σ σ'
theorem wdK.rf {job : Nat} {σ : mS} : wdK job σ σ := mKp.rf
theorem wdK.tr {job : Nat} {a b c : mS} (h : wdK job a b) (k : wdK job b c) : wdK job a c := mKp.tr h k
def wdT (σ : mS) (job : Nat) (ws : List (List Nat)) : Prop := σ.2.1 109 job = nI ws.length ∧ ∀ i (h : i < ws.length), ws[i].length ≤ 24 ∧ σ.2.1 110 (8 * job + i) = nI ws[i].length ∧ ∀ k (h' : k < ws[i].length), mg σ (600 + 192 * job + 24 * i + k) = ws[i][k]
def wdS (σ : mS) (job : Nat) (r : Option (List (List Nat))) : Prop := σ.1 44 = 0 ∧ match r with
  | some ws => σ.1 43 = 1 ∧ ws.length ≤ 8 ∧ wdT σ job ws
  | none => σ.1 43 = 0 ∧ ∃ c : Nat, c ≤ 8 ∧ σ.2.1 109 job = nI c
def aWd (r : Option (List (List Nat))) (l : List Nat) : Option (List (List Nat)) := r.bind (fun ws => aEm ws (none :: l.map some))
theorem aWd_eq (ws : List (List Nat)) (l : List Nat) : aWd (some ws) l = if ws.length < 8 ∧ l.length ≤ 24 then some (ws ++ [l]) else none := by
  show aEm ws (none :: l.map some) = _
  show (aE1 ws none).bind (fun ws' => aEm ws' (l.map some)) = _
  unfold aE1
  by_cases h : ws.length < 8
  · rw [if_pos h]
    show aEm (ws ++ [[]]) (l.map some) = _
    rw [aEm_ls l ws [] (by simp)]
    simp only [List.length_nil, Nat.zero_add, List.nil_append]
    by_cases g : l.length ≤ 24
    · rw [if_pos g, if_pos ⟨h, g⟩]
    · rw [if_neg g, if_neg (fun z => g z.2)]
  · rw [if_neg h, if_neg (fun z => h z.1)]; rfl
theorem oP.and {X : List Int32} {P : List Nat → mS → Prop} {A : Nat → Prop} {I : mS → Prop} (h : oP X P A) (hI : ∀ σ σ', oK A σ σ' → I σ → I σ') : oP X (fun w σ => P w σ ∧ I σ) A := by
  obtain ⟨h1, h2, h3⟩ := h
  refine ⟨fun d w σ c Q hc hw hP H => h1 d w σ c Q hc hw hP.1 (fun σ' K p => H σ' K ⟨p, hI σ σ' K hP.2⟩), fun w v σ hP g => ⟨h2 w v σ hP.1 g, hP.2⟩, fun d w σ c Q hc hP g H => h3 d w σ c Q hc hP.1 g (fun σ' K p g' => H σ' K ⟨p, hI σ σ' K hP.2⟩ g')⟩
theorem oK.wd {job m : Nat} {σ σ' : mS} (K : oK (oA m) σ σ') (h1 : 600 + 192 * job ≤ m) (h2 : m + 24 ≤ 600 + 192 * job + 192) : wdK job σ σ' :=
  K.mono (fun k h => by omega) (fun _ _ h => h.elim) (fun p h => ⟨by have := h.1; omega, by have := h.2; omega⟩) (fun _ h => h)
section RWO
variable {X : List Int32} {d : Nat} {σ : mS} {Q : Option Value → mS → Prop}
/-- endWord, over a state that can end -/
def wEnd (X : List Int32) (job : Nat) (r : Option (List (List Nat))) (P : List Nat → mS → Prop) : Prop := ∀ (l : List Nat) (σ2 : mS) (d : Nat) (Q : Option Value → mS → Prop), P l σ2 → (∀ σ3, wdK job σ2 σ3 → wdS σ3 job (aWd r l) → Q none σ3) → mM X (d + 1) 192 0 (mm_L0 192 [.ref 86, .int (nI job)]) [] σ2 Q
theorem t192 {job c : Nat} {σ : mS} (hj : job < 96) (hc : c < 8) (h : σ.2.1 109 job = nI c) (H : ∀ σ', σ' = uI (uI σ 110 (8 * job + c) (σ.1 40)) 109 job (nI (c + 1)) → Q none σ') : mM X (d + 1) 192 0 (mm_L0 192 [.ref 86, .int (nI job)]) [] σ Q := by
  refine u192_0 ⟨m_ix hj (by decide), ?_⟩
  rw [mGet_e (by omega), h, show (8 : Int32) = nI 8 from rfl, pk_mul, nI_add]
  refine ⟨m_ix (by omega) (by decide), ?_⟩
  rintro σ3 rfl
  rw [uI_e (by omega)]
  refine ⟨m_ix hj (by decide), m_ix hj (by decide), ?_⟩
  rintro σ6 rfl
  rw [uI_e (by omega), mGet_e (by omega)]
  have e : (uI σ 110 (8 * job + c) (σ.1 40)).2.1 109 job = nI c := by
    show (if (109 : Nat) = 110 ∧ job = 8 * job + c then σ.1 40 else σ.2.1 109 job) = nI c
    rw [if_neg (by omega)]; exact h
  rw [e, nI_1]
  exact H _ rfl
theorem uI2_kp {job c : Nat} {σ : mS} {v w : Int32} (hc : c < 8) : wdK job σ (uI (uI σ 110 (8 * job + c) v) 109 job w) := by
  refine ⟨fun _ _ => rfl, fun b j hb hB => ?_, fun _ _ => rfl, fun s hs _ => ⟨?_, fun _ _ => rfl⟩⟩
  · show (if b = 109 ∧ j = job then w else if b = 110 ∧ j = 8 * job + c then v else σ.2.1 b j) = σ.2.1 b j
    rw [if_neg (fun h => hB (Or.inl h)), if_neg (fun h => hB (Or.inr ⟨h.1, by omega, by omega⟩))]
  · show (if 90 = 109 ∧ s = job then w else if 90 = 110 ∧ s = 8 * job + c then v else σ.2.1 90 s) = σ.2.1 90 s
    rw [if_neg (by omega), if_neg (by omega)]
theorem mg_uI {σ : mS} {a i : Nat} {v : Int32} {p : Nat} : mg (uI σ a i v) p = mg σ p := rfl
theorem t191 {job : Nat} {r : Option (List (List Nat))} (hj : job < 96) (S : wdS σ job r)
    (H1 : ∀ σ' m P, oP X P (oA m) → 600 + 192 * job ≤ m → m + 24 ≤ 600 + 192 * job + 192 → wdK job σ σ' → P [] σ' → wEnd X job r P → Q (some (.int 1)) σ')
    (H0 : (∀ l, aWd r l = none) → ∀ σ', wdK job σ σ' → Q (some (.int 0)) σ') : mM X (d + 1) 191 0 (mm_L0 191 [.ref 86, .int (nI job)]) [] σ Q := by
  obtain ⟨h44, S⟩ := S
  have main : ∀ c : Nat, c ≤ 8 → σ.2.1 109 job = nI c → (c < 8 → ∀ σ', σ' = mSet (mSet σ 39 (nI (600 + 192 * job + 24 * c))) 40 0 → Q (some (.int 1)) σ') → (c = 8 → ∀ σ', σ' = mSet (mSet σ 39 (nI (600 + 192 * job + 24 * c))) 40 0 → Q (some (.int 0)) σ') → mM X (d + 1) 191 0 (mm_L0 191 [.ref 86, .int (nI job)]) [] σ Q := by
    intro c hc h109 HA HB
    refine u191_0 ⟨m_ix hj (by decide), ?_⟩
    rintro σ2 rfl σ3 rfl
    have e0 : mGet σ 109 (nI job) = nI c := by rw [mGet_e (by omega)]; exact h109
    rw [e0, show (192 : Int32) = nI 192 from rfl, pk_mul, show (24 : Int32) = nI 24 from rfl, pk_mul, show (600 : Int32) = nI 600 from rfl, nI_add, nI_add]
    refine ⟨m_ix hj (by decide), ?_⟩
    have e : mGet (mSet (mSet σ 39 (nI (600 + 192 * job + 24 * c))) 40 0) 109 (nI job) = nI c := e0
    rw [e]
    exact pk_le 8 c (fun h => HB (by omega) _ rfl) (fun h => HA (by omega) _ rfl)
  have kp : ∀ m : Int32, wdK job σ (mSet (mSet σ 39 m) 40 0) := fun m => by
    refine ⟨fun k hk => ?_, fun _ _ _ _ => rfl, fun _ _ => rfl, fun _ _ _ => ⟨rfl, fun _ _ => rfl⟩⟩
    show (if k = 40 then 0 else if k = 39 then m else σ.1 k) = σ.1 k
    rw [if_neg (by omega), if_neg (by omega)]
  cases r with
  | none =>
    obtain ⟨h43, c, hc, h109⟩ := S
    refine main c hc h109 (fun hlt σ' e => ?_) (fun _ σ' e => H0 (fun l => rfl) σ' (by rw [e]; exact kp _))
    subst e
    have hm : 600 + 192 * job + 24 * c + 24 ≤ 19200 := by omega
    refine H1 _ (600 + 192 * job + 24 * c) _ ((oX_ok hm).and (I := fun σ => σ.2.1 109 job = nI c) (fun a b K h => (K.2.1 109 job (by decide) id).trans h)) (by omega) (by omega) (kp _) ⟨⟨h44, rfl, h43, 0, by omega, rfl⟩, h109⟩ ?_
    intro l σ2 d' Q' hP H'
    refine t192 hj hlt hP.2 (fun σ3 e => ?_)
    subst e
    refine H' _ (uI2_kp hlt) ⟨hP.1.1, hP.1.2.2.1, c + 1, by omega, ?_⟩
    show (if (109 : Nat) = 109 ∧ job = job then nI (c + 1) else _) = _
    rw [if_pos ⟨rfl, rfl⟩]
  | some ws =>
    obtain ⟨h43, h8, h109, hT⟩ := S
    refine main ws.length h8 h109 (fun hlt σ' e => ?_) (fun h8' σ' e => H0 (fun l => ?_) σ' (by rw [e]; exact kp _))
    · subst e
      have hm : 600 + 192 * job + 24 * ws.length + 24 ≤ 19200 := by omega
      refine H1 _ (600 + 192 * job + 24 * ws.length) _ ((oW_ok (w0 := []) hm).and (I := fun σ => wdT σ job ws) (fun a b K h => ⟨(K.2.1 109 job (by decide) id).trans h.1, fun i hi => ⟨(h.2 i hi).1, (K.2.1 110 _ (by decide) id).trans (h.2 i hi).2.1, fun k hk => ?_⟩⟩)) (by omega) (by omega) (kp _) ⟨Or.inl ⟨by simp, h44, rfl, h43, by simp, rfl, fun i hi => absurd hi (by simp)⟩, h109, hT⟩ ?_
      · have hl := (h.2 i hi).1
        rw [K.2.2.1 _ (fun z => by unfold oA at z; omega)]
        exact (h.2 i hi).2.2 k hk
      · intro l σ2 d' Q' hP H'
        obtain ⟨hW, hT2⟩ := hP
        refine t192 hj hlt hT2.1 (fun σ3 e => ?_)
        subst e
        refine H' _ (uI2_kp hlt) ?_
        rw [aWd_eq]
        rcases hW with ⟨hl, hL⟩ | ⟨hl, hX⟩
        · rw [List.nil_append] at hL
          simp only [List.length_nil, Nat.zero_add] at hl
          rw [if_pos ⟨hlt, hl⟩]
          obtain ⟨a1, a2, a3, a4, a5, a6⟩ := hL
          refine ⟨a1, a3, by rw [List.length_append]; simp only [List.length_cons, List.length_nil]; omega, ?_, fun i hi => ?_⟩
          · show (if (109 : Nat) = 109 ∧ job = job then nI (ws.length + 1) else _) = _
            rw [if_pos ⟨rfl, rfl⟩, List.length_append]; rfl
          · rw [List.length_append] at hi
            simp only [List.length_cons, List.length_nil] at hi
            by_cases e : i < ws.length
            · have hg : (ws ++ [l])[i]'(by rw [List.length_append]; simp only [List.length_cons, List.length_nil]; omega) = ws[i] := List.getElem_append_left e
              rw [hg]
              obtain ⟨b1, b2, b3⟩ := hT2.2 i e
              refine ⟨b1, ?_, fun k hk => b3 k hk⟩
              show (if 110 = 109 ∧ 8 * job + i = job then nI (ws.length + 1) else if 110 = 110 ∧ 8 * job + i = 8 * job + ws.length then σ2.1 40 else σ2.2.1 110 (8 * job + i)) = _
              rw [if_neg (by omega), if_neg (by omega)]; exact b2
            · have ei : i = ws.length := by omega
              subst ei
              have hg : (ws ++ [l])[ws.length]'(by rw [List.length_append]; simp) = l := by rw [List.getElem_append_right (Nat.le_refl _)]; simp
              rw [hg]
              refine ⟨hl, ?_, fun k hk => ?_⟩
              · show (if 110 = 109 ∧ 8 * job + ws.length = job then nI (ws.length + 1) else if 110 = 110 ∧ 8 * job + ws.length = 8 * job + ws.length then σ2.1 40 else σ2.2.1 110 (8 * job + ws.length)) = _
                rw [if_neg (by omega), if_pos ⟨rfl, rfl⟩]; exact a5
              · exact a6 k hk
        · simp only [List.length_nil, Nat.zero_add] at hl
          rw [if_neg (by omega)]
          refine ⟨hX.1, hX.2.2.1, ws.length + 1, by omega, ?_⟩
          show (if (109 : Nat) = 109 ∧ job = job then nI (ws.length + 1) else _) = _
          rw [if_pos ⟨rfl, rfl⟩]
    · rw [aWd_eq, if_neg (by omega)]
end RWO
