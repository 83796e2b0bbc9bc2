/-! THE REFERENCE ENDS A STEP: all of it -/
section REN3
variable {X : List Int32} {d : Nat} {σ : mS} {Q : Option Value → mS → Prop} {A : Nat → Prop}
def rowK (lv : List Nat) (full L : Nat) (nn : Bool) (rs : Nat → mT) (k : Nat) : List mTk := hF lv full k 0 L ++ (if nn = true then [] else mt_tk (rs k) L)
theorem t195_101 {s ov full L top a : Nat} {nn : Bool} {ln : Nat → Nat} {lv : List Nat} {rs : Nat → mT} (hlv : lv = (aLr ov 4 0).map ln) (hs : s < 6) (ho : ov < 16) (hL : 1 ≤ L ∧ L ≤ 3) (hfull : full = if nn = true then L - 1 else L) (h8 : ∀ p, p < 4 → aBit ov p = true → ln p ≤ 8) (hpos : ∀ l, l < L → 0 < uP l full 0 lv) (htop : top < 1000) (hts : nn = false → top ≤ 16) (hdp : ∀ i, mt_dp (rs i) ≤ 3) : ∀ (m k : Nat) (σ : mS) (us : List mTk), k + m = top → (∀ p, p < 4 → aBit ov p = true → σ.2.1 112 (4 * s + p) = nI (ln p)) → (nn = false → ∀ n, n < top → mSlot σ A (27 + (16 * s + n)) (mt_tk (rs n) 0)) → mSlot σ A (123 + s) us → us.length + (((List.range' k m).map (rowK lv full L nn rs)).flatten).length ≤ 176 →
    (∀ σ', mKp mN1 mN2 mN1 (fun x => x = 123 + s) σ σ' → mSlot σ' A (123 + s) (us ++ ((List.range' k m).map (rowK lv full L nn rs)).flatten) → Q none σ') →
    mM X (d + 5) 195 101 [some (.ref 86), some (.int (nI s)), some (.int (nI ov)), some (.int (nI (123 + s))), some (.int (nI L)), some (.int (nI a)), some (.int (nI top)), some (.int (if nn = true then 1 else 0)), some (.int (nI k))] [] σ Q := by
  have hcap : mcp (123 + s) = 176 := by unfold mcp; rw [if_neg (by omega), if_neg (by omega), if_pos (by omega)]
  intro m
  induction m with
  | zero =>
    intro k σ us hm h112 SS D hc H
    have e : k = top := by omega
    subst e
    exact u195_101 ⟨fun _ => H σ mKp.rf (by simpa using D), fun g => absurd (Int32.le_refl _) g⟩
  | succ m ih =>
    intro k σ us hm h112 SS D hc H
    rw [List.range'_succ, List.map_cons, List.flatten_cons] at hc H
    rw [List.length_append] at hc
    have er : rowK lv full L nn rs k = hF lv full k 0 L ++ (if nn = true then [] else mt_tk (rs k) L) := rfl
    rw [er] at hc H
    rw [List.length_append] at hc
    have f4 : full ≤ 4 := by rw [hfull]; split <;> omega
    have go : mM X (d + 5) 195 134 [some (.ref 86), some (.int (nI s)), some (.int (nI ov)), some (.int (nI (123 + s))), some (.int (nI L)), some (.int (nI a)), some (.int (nI top)), some (.int (if nn = true then 1 else 0)), some (.int (nI k))] [.int (nI full), .int (nI k), .int (nI (123 + s)), .int (nI ov), .int (nI s), .ref 86] σ Q := by
      refine u195_134 (u196_0 (t196 (X := X) (d := d + 1) (A := A) hlv hs ho (by omega) hL.2 f4 h8 hpos hcap L 0 σ us none none none (by omega) h112 D (by omega) (fun σ1 K1 D1 => ⟨rfl, ?_⟩)))
      have h1121 : ∀ p, p < 4 → aBit ov p = true → σ1.2.1 112 (4 * s + p) = nI (ln p) := fun p hp hb => (K1.2.1 112 _ (by decide) id).trans (h112 p hp hb)
      rw [nI_1]
      cases hn : nn with
      | true =>
        refine ⟨fun _ => ?_, fun g => absurd g (by decide)⟩
        have := ih (k + 1) σ1 _ (by omega) h1121 (fun g => by rw [hn] at g; cases g) D1 (by rw [List.length_append]; omega) (fun σ2 K2 D2 => H σ2 (K1.tr K2) (by rw [hn] at D2 ⊢; rw [if_pos rfl, List.append_nil, ← List.append_assoc]; exact D2))
        rw [hn] at this
        exact this
      | false =>
        have hc2 : (if nn = true then [] else mt_tk (rs k) L : List mTk) = mt_tk (rs k) L := by rw [hn]; rfl
        rw [hc2] at hc
        refine ⟨fun g => absurd rfl g, fun _ => ?_⟩
        have h16 := hts hn
        have hd3 := hdp k
        refine t197 (d := d) (deep := L) hs (by omega) ((SS hn k (by omega)).keep K1 (by omega) (fun _ _ h => h)) D1 (by omega) (by rw [hcap, List.length_append]; omega) (by omega) (fun σ2 K2 D2 => ⟨rfl, ?_⟩)
        have := ih (k + 1) σ2 _ (by omega) (fun p hp hb => (K2.2.1 112 _ (by decide) id).trans (h1121 p hp hb)) (fun g n hn' => ((SS g n hn').keep K1 (by omega) (fun _ _ h => h)).keep K2 (by omega) (fun _ _ h => h)) D2 (by rw [List.length_append, List.length_append]; omega) (fun σ3 K3 D3 => H σ3 ((K1.tr K2).tr K3) (by rw [hn] at D3 ⊢; rw [if_neg (by decide), ← List.append_assoc, ← List.append_assoc]; exact D3))
        rw [hn] at this
        exact this
    refine u195_101 (pk_le top k (fun g => absurd g (by omega)) (fun _ => pk_lt 3 L (fun g => absurd g (by omega)) (fun _ => ?_)))
    rw [hfull] at go
    cases hn : nn with
    | true =>
      rw [hn, if_pos rfl, if_pos rfl] at go
      refine ⟨fun g => absurd g (by decide), fun _ => ?_⟩
      rw [show (1 : Int32) = nI 1 from rfl, pk_sub (by omega)]
      exact go
    | false =>
      rw [hn, if_neg (by decide), if_neg (by decide)] at go
      exact ⟨fun _ => go, fun g => absurd rfl g⟩
theorem lM_3 {us : List Nat} (h : us.length ≤ 3) (h8 : ∀ n ∈ us, n ≤ 8) (hp : aPr us ≤ 16) (hpos : ∀ n ∈ us, 0 < n) : lM us ≤ 25 := by
  have k3 : ∀ a, a < 9 → ∀ b, b < 9 → ∀ c, c < 9 → ((aPr [a, b, c] ≤ 16 ∧ 0 < a ∧ 0 < b ∧ 0 < c) → lM [a, b, c] ≤ 25) := by decide +kernel
  have k2 : ∀ a, a < 9 → ∀ b, b < 9 → (aPr [a, b] ≤ 16 → lM [a, b] ≤ 25) := by decide +kernel
  have k1 : ∀ a, a < 9 → lM [a] ≤ 25 := by decide +kernel
  match us, h, h8, hp, hpos with
  | [], _, _, _, _ => exact Nat.zero_le _
  | [a], _, h8, hp, _ => exact k1 a (by have := h8 a (by simp); omega)
  | [a, b], _, h8, hp, _ => exact k2 a (by have := h8 a (by simp); omega) b (by have := h8 b (by simp); omega) hp
  | [a, b, c], _, h8, hp, hpos => exact k3 a (by have := h8 a (by simp); omega) b (by have := h8 b (by simp); omega) c (by have := h8 c (by simp); omega) ⟨hp, hpos a (by simp), hpos b (by simp), hpos c (by simp)⟩
  | a :: b :: c :: e :: l, h, _, _, _ => simp at h
theorem lM_2 {us : List Nat} (h : us.length ≤ 2) (h8 : ∀ n ∈ us, n ≤ 8) : lM us ≤ 9 ∧ aPr us ≤ 64 := by
  have k2 : ∀ a, a < 9 → ∀ b, b < 9 → (lM [a, b] ≤ 9 ∧ aPr [a, b] ≤ 64) := by decide +kernel
  have k1 : ∀ a, a < 9 → (lM [a] ≤ 9 ∧ aPr [a] ≤ 64) := by decide +kernel
  match us, h, h8 with
  | [], _, _ => exact ⟨Nat.zero_le _, by decide⟩
  | [a], _, h8 => exact k1 a (by have := h8 a (by simp); omega)
  | [a, b], _, h8 => exact k2 a (by have := h8 a (by simp); omega) b (by have := h8 b (by simp); omega)
  | a :: b :: c :: l, h, _ => simp at h
theorem mt_mk0 (l : Nat) : mt_tk (mt_mk []) l = [(3, l, 0, [])] := by rw [mt_tk_mk]; rfl
theorem okl3 : ¬ mt_okl 3 (mt_mk []) := fun h => by
  have := ((mt_okl_list (mt_isL_mk [])).mp h).1
  omega
theorem t195 {s ov : Nat} {ln : Nat → Nat} {lv : List Nat} {rs : Nat → mT} (hlv : lv = (aLr ov 4 0).map ln) (hs : s < 6) (ho : ov < 16) (ho0 : ov ≠ 0) (h8 : ∀ p, p < 4 → aBit ov p = true → ln p ≤ 8) (h112 : ∀ p, p < 4 → aBit ov p = true → σ.2.1 112 (4 * s + p) = nI (ln p)) (hdp : ∀ i, mt_dp (rs i) ≤ 3) (h9 : ∀ i, (mt_tk (rs i) 0).length ≤ 9) (hN : aPr lv ≤ 16) (SS : ∀ n, n < aPr lv → mSlot σ A (27 + (16 * s + n)) (mt_tk (rs n) 0)) (D : mSlot σ A (123 + s) [])
    (H : ∀ σ' t l, mKp mN1 mN2 mN1 (fun x => x = 123 + s) σ σ' → mSlot σ' A (123 + s) (mt_tk t l) → (mt_okl l t ↔ mt_ok (aNs rs lv 0)) → (mt_ok (aNs rs lv 0) → t = aNs rs lv 0 ∧ l = 0) → Q none σ') : mM X (d + 5) 195 0 (mm_L0 195 [.ref 86, .int (nI s), .int (nI ov), .int (nI (123 + s))]) [] σ Q := by
  have hcap : mcp (123 + s) = 176 := by unfold mcp; rw [if_neg (by omega), if_neg (by omega), if_pos (by omega)]
  have hne : lv ≠ [] := by rw [hlv]; intro e; exact aLr_ne ho0 ho (List.map_eq_nil_iff.mp e)
  have hl4 : lv.length ≤ 4 := by rw [hlv, List.length_map]; exact aLr_len ov 4 0
  have hlv8 : ∀ n ∈ lv, n ≤ 8 := by
    rw [hlv]
    intro n hn
    obtain ⟨p, hp, e⟩ := List.mem_map.mp hn
    obtain ⟨q1, q2, q3⟩ := (aLr_mem 4 0 p).mp hp
    rw [← e]; exact h8 p (by omega) q3
  have deep : mt_dp (aNs rs lv 0) ≥ 4 → ∀ σ', mKp mN1 mN2 mN1 (fun x => x = 123 + s) σ σ' → mSlot σ' A (123 + s) ([] ++ [(3, 3, 0, [])]) → Q none σ' := by
    intro hd σ' K' D'
    have hno : ¬ mt_ok (aNs rs lv 0) := fun h => by have := h.1; omega
    exact H σ' (mt_mk []) 3 K' (by rw [mt_mk0]; exact D') ⟨fun h => absurd h okl3, fun h => absurd h hno⟩ (fun h => absurd h hno)
  have pos1 : lv.length ≠ 0 := fun e => hne (List.length_eq_zero_iff.mp e)
  rcases pos_or_zero lv with hpos | ⟨us, rest, ez, hpos⟩
  · have hP := aPr_pos hpos
    have eLV : nF lv 0 1 1 = (lv.length, aPr lv, aPr lv) := by rw [nF_pos lv 0 1 (by omega) hpos, Nat.one_mul, Nat.zero_add]
    refine u195_0 (t195_12 (X := X) (d := d + 1) (Q := Q) hs ho h8 h112 (lv.length, aPr lv, aPr lv) (fun i7 o8 => ?_) 4 0 0 1 1 none (by omega) (by omega) (by show 1 ≤ 1; omega) (by show 1 ≤ 1; omega) (by rw [← hlv]; exact eLV))
    dsimp only
    rw [if_neg (by omega)]
    refine u195_82 (pk_le lv.length 3 (fun h3 => ?_) (fun h3 => ?_))
    · have etk : ((List.range' 0 (aPr lv)).map (rowK lv lv.length lv.length false rs)).flatten = mt_tk (aNs rs lv 0) 0 := by
        rw [tk_ns rs lv hpos 0 0, ← List.range_eq_range']
        congr 1
        apply List.map_congr_left
        intro k _
        unfold rowK
        rw [hF_pos, if_neg (by decide), Nat.zero_add, Nat.zero_add]
      have hrow := rows_ns h9 lv 0 0
      have hlM := lM_3 h3 hlv8 hN hpos
      have := t195_101 (X := X) (d := d) (Q := Q) (A := A) (s := s) (full := lv.length) (L := lv.length) (top := aPr lv) (a := aPr lv) (nn := false) (rs := rs) hlv hs ho ⟨by omega, h3⟩ rfl h8 (fun l hl => ?_) (by omega) (fun _ => hN) hdp (aPr lv) 0 σ [] (by omega) h112 (fun _ => SS) D (by rw [etk]; simp only [List.length_nil]; omega) (fun σ' K' D' => H σ' (aNs rs lv 0) 0 K' (by rw [etk, List.nil_append] at D'; exact D') mt_okl_0 (fun _ => ⟨rfl, rfl⟩))
      · exact this
      · rw [uP_eq l lv.length lv 0 (Nat.zero_le _)]
        refine aPr_pos (fun n hn => hpos n ?_)
        exact List.mem_of_mem_take (List.mem_of_mem_drop hn)
    · refine D.add (k := 3) (l := 3) (v := 0) (by rw [hcap]; simp) (by omega) (by omega) (fun σ1 K1 D1 => ⟨rfl, ?_⟩)
      refine u195_101 (pk_le (aPr lv) 0 (fun g => absurd g (by omega)) (fun _ => pk_lt 3 lv.length (fun _ => deep ?_ σ1 K1 D1) (fun g => absurd g (by omega))))
      match lv, h3, hl4, hpos with
      | [a, b, c, e], _, _, hpos =>
        have h1 := dp_ns (rs := rs) (us := [b, c, e]) (o := 0) (hpos a (by simp))
        have h2 := dp_ns (rs := rs) (us := [c, e]) (o := 0) (hpos b (by simp))
        have h3 := dp_ns (rs := rs) (us := [e]) (o := 0) (hpos c (by simp))
        have h4 := dp_ns1 (rs := rs) (n := e) (us := []) (o := 0)
        omega
      | [], h3, _, _ => simp at h3
      | [a], h3, _, _ => simp at h3
      | [a, b], h3, _, _ => simp at h3
      | [a, b, c], h3, _, _ => simp at h3
      | a :: b :: c :: e :: f :: l, _, h4, _ => simp at h4
  · have eLV : nF lv 0 1 1 = (us.length + 1, 0, aPr us) := by rw [ez, nF_zero rest us 0 1 (by omega) hpos, Nat.one_mul, Nat.zero_add]
    have hul : us.length + 1 ≤ 4 := by rw [ez, List.length_append, List.length_cons] at hl4; omega
    have hu8 : ∀ n ∈ us, n ≤ 8 := fun n hn => hlv8 n (by rw [ez]; simp [hn])
    have hP := aPr_pos hpos
    have eN : aNs rs lv 0 = aNs (fun _ => mt_mk []) us 0 := by rw [ez]; exact ns_zero rs rest us 0 0
    refine u195_0 (t195_12 (X := X) (d := d + 1) (Q := Q) hs ho h8 h112 (us.length + 1, 0, aPr us) (fun i7 o8 => ?_) 4 0 0 1 1 none (by omega) (by omega) (by show 1 ≤ 1; omega) (by show 1 ≤ 1; omega) (by rw [← hlv]; exact eLV))
    dsimp only
    rw [if_pos rfl]
    refine u195_82 (pk_le (us.length + 1) 3 (fun h3 => ?_) (fun h3 => ?_))
    · obtain ⟨hlM, hPr⟩ := lM_2 (us := us) (by omega) hu8
      have etk : ((List.range' 0 (aPr us)).map (rowK lv us.length (us.length + 1) true rs)).flatten = mt_tk (aNs rs lv 0) 0 := by
        rw [eN, tk_ns (fun _ => mt_mk []) us hpos 0 0, ← List.range_eq_range']
        congr 1
        apply List.map_congr_left
        intro k _
        unfold rowK
        rw [ez, hF_zero, if_pos rfl, List.append_nil, mt_mk0, Nat.zero_add]
      have hrow := rows_ns (rs := fun _ => mt_mk []) (c := 1) (fun i => by rw [mt_mk0]; exact Nat.le_refl _) us 0 0
      have := t195_101 (X := X) (d := d) (Q := Q) (A := A) (s := s) (full := us.length) (L := us.length + 1) (top := aPr us) (a := 0) (nn := true) (rs := rs) hlv hs ho ⟨by omega, h3⟩ (by rw [if_pos rfl]; omega) h8 (fun l hl => ?_) (by omega) (fun g => by cases g) hdp (aPr us) 0 σ [] (by omega) h112 (fun g => by cases g) D (by rw [etk, eN]; simp only [List.length_nil]; omega) (fun σ' K' D' => H σ' (aNs rs lv 0) 0 K' (by rw [etk, List.nil_append] at D'; exact D') mt_okl_0 (fun _ => ⟨rfl, rfl⟩))
      · exact this
      · rw [uP_eq l us.length lv 0 (Nat.zero_le _), Nat.sub_zero, Nat.sub_zero, ez, List.take_left]
        exact aPr_pos (fun n hn => hpos n (List.mem_of_mem_drop hn))
    · have hu3 : us.length = 3 := by omega
      refine D.add (k := 3) (l := 3) (v := 0) (by rw [hcap]; simp) (by omega) (by omega) (fun σ1 K1 D1 => ⟨rfl, ?_⟩)
      have hPr : aPr us ≤ 1000000 := by
        match us, hu3, hu8 with
        | [a, b, c], _, hu8 =>
          have h1 := hu8 a (by simp)
          have h2 := hu8 b (by simp)
          have h3 := hu8 c (by simp)
          show a * (b * (c * 1)) ≤ _
          have : b * (c * 1) ≤ 8 * 8 := Nat.mul_le_mul h2 (by omega)
          have : a * (b * (c * 1)) ≤ 8 * 64 := Nat.mul_le_mul h1 (by omega)
          omega
      refine u195_101 (pk_le (aPr us) 0 (fun g => absurd g (by omega)) (fun _ => pk_lt 3 (us.length + 1) (fun _ => deep ?_ σ1 K1 D1) (fun g => absurd g (by omega))))
      rw [eN]
      match us, hu3, hpos with
      | [a, b, c], _, hpos =>
        have h1 := dp_ns (rs := fun _ => mt_mk []) (us := [b, c]) (o := 0) (hpos a (by simp))
        have h2 := dp_ns (rs := fun _ => mt_mk []) (us := [c]) (o := 0) (hpos b (by simp))
        have h3 := dp_ns (rs := fun _ => mt_mk []) (us := []) (o := 0) (hpos c (by simp))
        have h4 : mt_dp (aNs (fun _ => mt_mk []) [] 0) = 1 := rfl
        omega
end REN3
