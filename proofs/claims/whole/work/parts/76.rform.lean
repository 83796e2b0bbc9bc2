/-! THE REFERENCE PUTS FORMS -/
theorem mt_jn_snoc : ∀ (l : List (List Nat)) (a : List Nat), mt_jn (l ++ [a]) = mt_jn l ++ ((if l = [] then [] else [44]) ++ a)
  | [], a => rfl
  | [b], a => rfl
  | b :: c :: l, a => by
    show b ++ 44 :: mt_jn ((c :: l) ++ [a]) = (b ++ 44 :: mt_jn (c :: l)) ++ _
    rw [mt_jn_snoc (c :: l) a]
    simp
theorem rep_app (n m : Nat) : List.replicate (n + m) 93 = List.replicate n 93 ++ List.replicate m 93 := by
  rw [List.replicate_append_replicate]
theorem pre_le {w v TG : List Nat} (h : TG = w ++ v) : w.length ≤ TG.length := by rw [h]; simp
section FO
variable {X : List Int32} {d : Nat} {Q : Option Value → mS → Prop} {P : List Nat → mS → Prop} {A B : Nat → Prop} {s : Nat} {ts : List mTk}
theorem oK.slot {σ σ' : mS} (S : mSlot σ B s ts) (K : oK A σ σ') (hAB : ∀ p, B p → ¬ A p) : mSlot σ' B s ts := S.keep K id (fun p hp => hAB p hp)
/-- the last closing brackets -/
theorem t185_217 (hP : oP X P A) (hAB : ∀ p, B p → ¬ A p) {r0 : Nat} {u0 : mTk} (h0 : ts[r0]? = some u0) {i2 i3 i5 : Int32} : ∀ (c : Nat) (w : List Nat) (σ : mS), u0.2.1 + c < 2 ^ 20 → w.length + c < 2 ^ 30 → mSlot σ B s ts → P w σ → (∀ σ', oK A σ σ' → P (w ++ List.replicate c 93) σ' → Q none σ') →
    mM X (d + 3) 185 217 [some (.ref 86), some (.int (nI (mb s + r0))), some (.int i2), some (.int i3), some (.int (nI (u0.2.1 + c))), some (.int i5)] [] σ Q := by
  intro c
  induction c with
  | zero =>
    intro w σ hc hw S h H
    refine u185_217 (t145 S h0 ⟨_, rfl, ⟨fun _ => H σ oK.rf (by simpa using h), fun g => absurd (Int32.le_refl _) g⟩⟩)
  | succ c ih =>
    intro w σ hc hw S h H
    refine u185_217 (t145 S h0 ⟨_, rfl, pk_le (u0.2.1 + (c + 1)) u0.2.1 (fun g => absurd g (by omega)) (fun _ => ?_)⟩)
    refine hP.1 d w σ 93 _ (by decide) (by omega) h (fun σ1 K1 h1 => ⟨rfl, ?_⟩)
    rw [show u0.2.1 + (c + 1) = (u0.2.1 + c) + 1 by omega, pk_m1]
    refine ih (w ++ [93]) σ1 (by omega) (by simp; omega) (K1.slot S hAB) h1 (fun σ2 K2 h2 => H σ2 (K1.tr K2) ?_)
    rw [List.replicate_succ]; simpa using h2
theorem t185_dead (hP : oP X P A) (hAB : ∀ p, B p → ¬ A p) {r0 : Nat} {u0 : mTk} (h0 : ts[r0]? = some u0) {TG : List Nat} {i2 i3 i5 : Int32} : ∀ (c : Nat) (σ : mS), u0.2.1 + c < 2 ^ 20 → mSlot σ B s ts → P TG σ → σ.1 43 = 0 → (∀ σ', oK A σ σ' → P TG σ' → Q none σ') →
    mM X (d + 3) 185 217 [some (.ref 86), some (.int (nI (mb s + r0))), some (.int i2), some (.int i3), some (.int (nI (u0.2.1 + c))), some (.int i5)] [] σ Q := by
  intro c
  induction c with
  | zero =>
    intro σ hc S h h43 H
    refine u185_217 (t145 S h0 ⟨_, rfl, ⟨fun _ => H σ oK.rf h, fun g => absurd (Int32.le_refl _) g⟩⟩)
  | succ c ih =>
    intro σ hc S h h43 H
    refine u185_217 (t145 S h0 ⟨_, rfl, pk_le (u0.2.1 + (c + 1)) u0.2.1 (fun g => absurd g (by omega)) (fun _ => ?_)⟩)
    refine hP.2.2 d TG σ 93 _ (by decide) h h43 (fun σ1 K1 h1 h43' => ⟨rfl, ?_⟩)
    rw [show u0.2.1 + (c + 1) = (u0.2.1 + c) + 1 by omega, pk_m1]
    exact ih σ1 (by omega) (K1.slot S hAB) h1 h43' (fun σ2 K2 h2 => H σ2 (K1.tr K2) h2)
/-- what one row puts -/
def mt_ro (u : mTk) : List Nat := if u.1 = 0 then [110, 117, 108, 108] else if u.1 = 1 then mt_nf u.2.2.1 else if u.1 = 2 then 34 :: (u.2.2.2 ++ [34]) else [91]
def mt_rok (u : mTk) : Prop := (u.1 = 1 → -999999 ≤ u.2.2.1 ∧ u.2.2.1 ≤ 999999) ∧ (∀ c ∈ u.2.2.2, c < 128)
theorem t185_94 (hP : oP X P A) (hAB : ∀ p, B p → ¬ A p) {j : Nat} {u : mTk} (hu : ts[j]? = some u) (hk : mt_rok u) {i1 i2 i3 i4 : Int32} {w : List Nat} {σ : mS} (hw : w.length + 100 < 2 ^ 30) (S : mSlot σ B s ts) (h : P w σ)
    (H : ∀ σ', oK A σ σ' → P (w ++ mt_ro u) σ' → mM X (d + 4) 185 17 [some (.ref 86), some (.int i1), some (.int i2), some (.int i3), some (.int (if u.1 = 3 then nI (u.2.1 + 1) else i4)), some (.int (nI (mb s + (j + 1))))] [] σ' Q) :
    mM X (d + 4) 185 94 [some (.ref 86), some (.int i1), some (.int i2), some (.int i3), some (.int i4), some (.int (nI (mb s + j)))] [] σ Q := by
  obtain ⟨hr, R⟩ := S.at hu
  have hk4 := R.1
  have hl64 := R.2.1
  have hn64 := R.2.2.1
  have h185 : u.1 ≠ 2 → ∀ σ', oK A σ σ' → mSlot σ' B s ts → P (w ++ (if u.1 = 3 then [] else mt_ro u)) σ' → mM X (d + 4) 185 147 [some (.ref 86), some (.int i1), some (.int i2), some (.int i3), some (.int i4), some (.int (nI (mb s + j)))] [] σ' Q := by
    intro h2 σ' K S' h'
    refine u185_147 (t144 S' hu ⟨_, rfl, ⟨fun _ => ?_, fun g => absurd ((nI_eq (b := 2) (by omega) (by decide)).mp g) h2⟩⟩)
    refine u185_185 (t144 S' hu ⟨_, rfl, ?_⟩)
    refine pk_eq u.1 3 (B := _) (A := _) (fun e3 => ?_) (fun e3 => ?_) |>.symm
    · rw [if_pos e3, List.append_nil] at h'
      refine hP.1 (d + 1) w σ' 91 _ (by decide) (by omega) h' (fun σ1 K1 h1 => ⟨rfl, t145 (K1.slot S' hAB) hu ⟨_, rfl, ?_⟩⟩)
      have e : mt_ro u = [91] := by unfold mt_ro; rw [if_neg (by omega), if_neg (by omega), if_neg (by omega)]
      have := H σ1 (K.tr K1) (by rw [e]; exact h1)
      rw [if_pos e3] at this
      dsimp only
      rw [nI_1 u.2.1, nI_1 (mb s + j), Nat.add_assoc]; exact this
    · rw [if_neg e3] at h'
      have := H σ' K h'
      rw [if_neg e3] at this
      rw [nI_1, Nat.add_assoc]; exact this
  refine u185_94 (t144 S hu ⟨_, rfl, ?_⟩)
  refine pk_eq u.1 0 (B := _) (A := _) (fun e0 => ?_) (fun e0 => ?_) |>.symm
  · refine hP.1 (d + 1) w σ 110 _ (by decide) (by omega) h (fun σ1 K1 h1 => ⟨rfl, ?_⟩)
    refine hP.1 (d + 1) _ σ1 117 _ (by decide) (by simp; omega) h1 (fun σ2 K2 h2 => ⟨rfl, ?_⟩)
    refine hP.1 (d + 1) _ σ2 108 _ (by decide) (by simp; omega) h2 (fun σ3 K3 h3 => ⟨rfl, ?_⟩)
    refine hP.1 (d + 1) _ σ3 108 _ (by decide) (by simp; omega) h3 (fun σ4 K4 h4 => ⟨rfl, ?_⟩)
    have K := ((K1.tr K2).tr K3).tr K4
    refine t144 (K.slot S hAB) hu ⟨_, rfl, ⟨fun _ => h185 (by omega) σ4 K (K.slot S hAB) ?_, fun g => absurd ((nI_eq (b := 1) (by omega) (by decide)).mp g) (by omega)⟩⟩
    have e : mt_ro u = [110, 117, 108, 108] := by unfold mt_ro; rw [if_pos e0]
    rw [if_neg (by omega), e]; simpa using h4
  · refine t144 S hu ⟨_, rfl, ?_⟩
    refine pk_eq u.1 1 (B := _) (A := _) (fun e1 => ?_) (fun e1 => ?_) |>.symm
    · obtain ⟨n1, n2⟩ := hk.1 e1
      refine t151 S hu ⟨_, rfl, ?_⟩
      refine t186 hP n1 n2 (by omega) h (fun σ1 K1 h1 => ⟨rfl, h185 (by omega) σ1 K1 (K1.slot S hAB) ?_⟩)
      have e : mt_ro u = mt_nf u.2.2.1 := by unfold mt_ro; rw [if_neg e0, if_pos e1]
      rw [if_neg (by omega), e]; exact h1
    · by_cases e2 : u.1 = 2
      · obtain ⟨a, wt, hta, htx⟩ := R.w
        have e : mt_ro u = 34 :: (u.2.2.2 ++ [34]) := by unfold mt_ro; rw [if_neg e0, if_neg e1, if_pos e2]
        refine u185_147 (t144 S hu ⟨_, rfl, ⟨fun g => absurd (by rw [e2]; rfl) g, fun _ => ?_⟩⟩)
        refine hP.1 (d + 1) w σ 34 _ (by decide) (by omega) h (fun σ1 K1 h1 => ⟨rfl, ?_⟩)
        have wt1 : mW (σ1.2.2 89 (mb s + j)) u.1 u.2.1 u.2.2.2.length a u.2.2.1.toBitVec.toNat := by
          obtain ⟨ws, wr⟩ := S
          have : j < mcp s := by
            have := (List.getElem?_eq_some_iff.mp hu).1
            omega
          rw [(K1.2.2.2 s ws id).2 j this]; exact wt
        refine s152 hr wt1 ⟨_, rfl, s153 hr wt1 ⟨_, rfl, ?_⟩⟩
        refine t183 hP (txt := u.2.2.2) rfl hta hk.2 (fun i hi => hAB _ (htx i hi).1) (by simp; omega) (fun q hq => ?_) h1 (fun σ2 K2 h2 => ⟨rfl, ?_⟩)
        · rw [K1.2.2.1 _ (hAB _ (htx q hq).1)]; exact (htx q hq).2
        · refine hP.1 (d + 1) _ σ2 34 _ (by decide) (by simp; omega) h2 (fun σ3 K3 h3 => ⟨rfl, ?_⟩)
          have K := (K1.tr K2).tr K3
          refine u185_185 (t144 (K.slot S hAB) hu ⟨_, rfl, ⟨fun _ => ?_, fun g => absurd ((nI_eq (b := 3) (by omega) (by decide)).mp g) (by omega)⟩⟩)
          have := H σ3 K (by rw [e]; simpa using h3)
          rw [if_neg (by omega)] at this
          rw [nI_1, Nat.add_assoc]; exact this
      · refine h185 e2 σ oK.rf S ?_
        rw [if_pos (by omega)]; simpa using h
/-- one row: closing brackets, a comma, the row itself -/
theorem t185_row (hP : oP X P A) (hAB : ∀ p, B p → ¬ A p) {r0 j : Nat} {u : mTk} (hu : ts[j]? = some u) (hk : mt_rok u) (hr0 : r0 ≤ j) {b : Bool} (hb : b = true ↔ r0 < j ∧ ∀ v, ts[j - 1]? = some v → ¬ (v.1 = 3 ∧ v.2.1 < u.2.1)) {i2 i3 : Int32} : ∀ (c : Nat) (w : List Nat) (σ : mS), u.2.1 + c < 2 ^ 20 → w.length + c + 200 < 2 ^ 30 → mSlot σ B s ts → P w σ →
    (∀ σ', oK A σ σ' → P (w ++ (List.replicate c 93 ++ ((if b then [44] else []) ++ mt_ro u))) σ' → mM X (d + 4) 185 17 [some (.ref 86), some (.int (nI (mb s + r0))), some (.int i2), some (.int i3), some (.int (nI (u.2.1 + (if u.1 = 3 then 1 else 0)))), some (.int (nI (mb s + (j + 1))))] [] σ' Q) →
    mM X (d + 4) 185 30 [some (.ref 86), some (.int (nI (mb s + r0))), some (.int i2), some (.int i3), some (.int (nI (u.2.1 + c))), some (.int (nI (mb s + j)))] [] σ Q := by
  intro c
  induction c with
  | zero =>
    intro w σ hc hw S h H
    have hlt := S.lt
    have hjl := (List.getElem?_eq_some_iff.mp hu).1
    have row : ∀ (w' : List Nat) (σ' : mS), oK A σ σ' → w' = w ++ (if b then [44] else []) → P w' σ' → mM X (d + 4) 185 94 [some (.ref 86), some (.int (nI (mb s + r0))), some (.int i2), some (.int i3), some (.int (nI (u.2.1 + 0))), some (.int (nI (mb s + j)))] [] σ' Q := by
      intro w' σ' K e h'
      refine t185_94 hP hAB hu hk ?_ (K.slot S hAB) h' (fun σ2 K2 h2 => ?_)
      · rw [e, List.length_append]
        split <;> simp <;> omega
      · have := H σ2 (K.tr K2) (by rw [e] at h2; simpa using h2)
        by_cases e3 : u.1 = 3
        · rw [if_pos e3] at this ⊢; exact this
        · rw [if_neg e3] at this ⊢; exact this
    refine u185_30 (t145 S hu ⟨_, rfl, ⟨fun _ => ?_, fun g => absurd (Int32.le_refl _) g⟩⟩)
    refine pk_le (mb s + j) (mb s + r0) (fun hle => ?_) (fun hgt => ?_)
    · have hbf : b = false := by
        cases b with
        | false => rfl
        | true => have := (hb.mp rfl).1; omega
      exact row w σ oK.rf (by rw [hbf]; simp) h
    · obtain ⟨j', rfl⟩ : ∃ j', j = j' + 1 := ⟨j - 1, by omega⟩
      have hv : ts[j']? = some ts[j'] := List.getElem?_eq_getElem (by omega)
      obtain ⟨_, Rv⟩ := S.at hv
      obtain ⟨_, Ru⟩ := S.at hu
      have hv4 := Rv.1
      have hvl := Rv.2.1
      have hul := Ru.2.1
      have comma : b = true → mM X (d + 3) 184 0 (mm_L0 184 [.ref 86, .int (44 : Int32)]) [] σ (m0_K (fun σ5 => mM X (d + 3 + 1) 185 94 [some (.ref 86), some (.int (nI (mb s + r0))), some (.int i2), some (.int i3), some (.int (nI (u.2.1 + 0))), some (.int (nI (mb s + (j' + 1))))] [] σ5 Q)) := by
        intro hbt
        exact hP.1 (d + 1) w σ 44 _ (by decide) (by omega) h (fun σ1 K1 h1 => ⟨rfl, row _ σ1 K1 (by rw [hbt]; simp) h1⟩)
      rw [show nI (mb s + (j' + 1)) - (1 : Int32) = nI (mb s + j') from nI_pred (mb s + j')]
      refine t144 S hv ⟨_, rfl, ?_⟩
      refine pk_eq ts[j'].1 3 (B := _) (A := _) (fun e3 => ?_) (fun e3 => ?_) |>.symm
      · refine t145 S hv ⟨_, rfl, t145 S hu ⟨_, rfl, pk_lt ts[j'].2.1 u.2.1 (fun hlt' => ?_) (fun hge => ?_)⟩⟩
        · have hbf : b = false := by
            cases b with
            | false => rfl
            | true => exact absurd ⟨e3, hlt'⟩ ((hb.mp rfl).2 _ hv)
          exact row w σ oK.rf (by rw [hbf]; simp) h
        · refine comma (hb.mpr ⟨by omega, fun v hv' => ?_⟩)
          rw [show j' + 1 - 1 = j' from rfl, hv] at hv'
          cases hv'
          omega
      · refine comma (hb.mpr ⟨by omega, fun v hv' => ?_⟩)
        rw [show j' + 1 - 1 = j' from rfl, hv] at hv'
        cases hv'
        omega
  | succ c ih =>
    intro w σ hc hw S h H
    refine u185_30 (t145 S hu ⟨_, rfl, pk_le (u.2.1 + (c + 1)) u.2.1 (fun g => absurd g (by omega)) (fun _ => ?_)⟩)
    refine hP.1 (d + 1) w σ 93 _ (by decide) (by omega) h (fun σ1 K1 h1 => ⟨rfl, ?_⟩)
    rw [show u.2.1 + (c + 1) = (u.2.1 + c) + 1 by omega, pk_m1]
    refine ih (w ++ [93]) σ1 (by omega) (by simp; omega) (K1.slot S hAB) h1 (fun σ2 K2 h2 => H σ2 (K1.tr K2) ?_)
    rw [List.replicate_succ]; simpa using h2
end FO
