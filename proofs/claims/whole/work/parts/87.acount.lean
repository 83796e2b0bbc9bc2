/-! JOBS COUNTED, elements chosen -/
def aBit (ov p : Nat) : Bool := ov / 2 ^ p % 2 == 1
def aLr (ov : Nat) : Nat → Nat → List Nat
  | 0, _ => []
  | m + 1, p => if aBit ov p = true then p :: aLr ov m (p + 1) else aLr ov m (p + 1)
def aLen (wh : Nat → mT) (p : Nat) : Nat := (mt_els (wh p)).length
def aBad (me : Nat) (j : Option Nat) (n : Nat) : Bool := match j with
  | none => false
  | some j => me == 0 && !(j == n)
def aCf (me : Nat) (wh : Nat → mT) : List Nat → Option Nat → Option (Option Nat)
  | [], j => some j
  | p :: ps, j => if mt_isL (wh p) = true ∧ aBad me j (aLen wh p) = false then aCf me wh ps (some (if me = 0 then aLen wh p else j.getD 1 * aLen wh p)) else none
def aJobs (me ov : Nat) (wh : Nat → mT) : Option Nat := if ov = 0 then some 1 else (aCf me wh (aLr ov 4 0) none).bind (fun j => j.bind (fun n => if n ≤ 16 then some n else none))
def aRs (ov : Nat) (wh : Nat → mT) (n : Nat) : Nat → Nat
  | 0 => n
  | m + 1 => if aBit ov (3 - m) = true then aRs ov wh n m / aLen wh (3 - m) else aRs ov wh n m
def aBf (me ov : Nat) (wh : Nat → mT) (n p : Nat) : mT := if aBit ov p = true then ((mt_els (wh p))[if me = 0 then n else aRs ov wh n (3 - p) % aLen wh p]?).getD (.leaf none) else wh p
theorem aLr_mem {ov : Nat} : ∀ (m p q : Nat), q ∈ aLr ov m p ↔ p ≤ q ∧ q < p + m ∧ aBit ov q = true
  | 0, p, q => by simp [aLr]; omega
  | m + 1, p, q => by
    rw [aLr]
    by_cases h : aBit ov p = true
    · rw [if_pos h, List.mem_cons, aLr_mem m (p + 1) q]
      constructor
      · rintro (rfl | ⟨a, b, c⟩)
        · exact ⟨by omega, by omega, h⟩
        · exact ⟨by omega, by omega, c⟩
      · rintro ⟨a, b, c⟩
        by_cases e : q = p
        · exact Or.inl e
        · exact Or.inr ⟨by omega, by omega, c⟩
    · rw [if_neg h, aLr_mem m (p + 1) q]
      constructor
      · rintro ⟨a, b, c⟩; exact ⟨by omega, by omega, c⟩
      · rintro ⟨a, b, c⟩
        refine ⟨?_, by omega, c⟩
        by_cases e : q = p
        · subst e; exact absurd c h
        · omega
theorem aCf_pos {me : Nat} {wh : Nat → mT} : ∀ (ps : List Nat) (j : Option Nat) (n : Nat), aCf me wh ps j = some (some n) → 0 < n → (∀ p ∈ ps, mt_isL (wh p) = true ∧ 0 < aLen wh p ∧ (me = 0 → aLen wh p = n)) ∧ (∀ i, j = some i → 0 < i ∧ (me = 0 → i = n))
  | [], j, n, h, hn => by
    cases h
    exact ⟨fun p hp => (nomatch hp), fun i hi => by cases hi; exact ⟨hn, fun _ => rfl⟩⟩
  | p :: ps, j, n, h, hn => by
    rw [aCf] at h
    split at h
    · rename_i hc
      obtain ⟨a, b⟩ := aCf_pos ps _ n h hn
      obtain ⟨b1, b2⟩ := b _ rfl
      have hlen : 0 < aLen wh p := by
        split at b1
        · exact b1
        · exact Nat.pos_of_mul_pos_left b1 |> fun _ => by
            rcases Nat.eq_zero_or_pos (aLen wh p) with g | g
            · rw [g] at b1; simp at b1
            · exact g
      refine ⟨fun q hq => ?_, fun i hi => ?_⟩
      · rcases List.mem_cons.mp hq with rfl | hq
        · refine ⟨hc.1, hlen, fun h0 => ?_⟩
          have := b2 h0
          rw [if_pos h0] at this; exact this
        · exact a q hq
      · subst hi
        by_cases h0 : me = 0
        · have e := b2 h0
          rw [if_pos h0] at e
          have hb := hc.2
          unfold aBad at hb
          simp only [h0, beq_self_eq_true, Bool.true_and, Bool.not_eq_false', beq_iff_eq] at hb
          exact ⟨by omega, fun _ => by omega⟩
        · rw [if_neg h0] at b1
          refine ⟨?_, fun g => absurd g h0⟩
          rcases Nat.eq_zero_or_pos i with g | g
          · subst g; simp at b1
          · exact g
    · cases h
theorem aJobs_pos {me ov n : Nat} {wh : Nat → mT} (h : aJobs me ov wh = some n) : n ≤ 16 ∧ (0 < n → ∀ p, p < 4 → aBit ov p = true → ov < 16 → mt_isL (wh p) = true ∧ 0 < aLen wh p ∧ (me = 0 → aLen wh p = n)) := by
  unfold aJobs at h
  split at h
  · rename_i h0
    cases h
    refine ⟨by omega, fun _ p hp hb _ => ?_⟩
    rw [h0] at hb
    unfold aBit at hb
    simp at hb
  · rw [Option.bind_eq_some_iff] at h
    obtain ⟨j, h1, h2⟩ := h
    rw [Option.bind_eq_some_iff] at h2
    obtain ⟨m, h3, h4⟩ := h2
    subst h3
    split at h4
    · cases h4
      refine ⟨by omega, fun hn p hp hb _ => ?_⟩
      exact (aCf_pos _ _ _ h1 hn).1 p ((aLr_mem 4 0 p).mpr ⟨by omega, by omega, hb⟩)
    · cases h4
/-- choices stay below the lengths -/
theorem aBf_lt {me ov n N p : Nat} {wh : Nat → mT} (h : aJobs me ov wh = some N) (hn : n < N) (hp : p < 4) (hb : aBit ov p = true) (ho : ov < 16) : (if me = 0 then n else aRs ov wh n (3 - p) % aLen wh p) < (mt_els (wh p)).length := by
  obtain ⟨_, g⟩ := aJobs_pos h
  obtain ⟨g1, g2, g3⟩ := g (by omega) p hp hb ho
  split
  · rename_i h0
    have := g3 h0
    unfold aLen at this
    omega
  · exact Nat.mod_lt _ g2
theorem aBf_gd {me ov n p : Nat} {wh : Nat → mT} (hw : ∀ i, mt_gd (wh i)) : mt_gd (aBf me ov wh n p) := by
  unfold aBf
  split
  · cases h : (mt_els (wh p))[if me = 0 then n else aRs ov wh n (3 - p) % aLen wh p]? with
    | none => exact mt_gl_leaf trivial
    | some x => exact (mt_gd_el (hw p) (List.mem_of_getElem? h)).1
  · exact hw p
/-- what rules make of a job's ports -/
def rIs (D : List Nat) : List mIt := (rR D).getD []
def aAf (s : mStp) (n : Nat) (bf : Nat → mT) (p : Nat) : Option mT := if p < n then (match sRl s p with
  | some D => rW bf (bf p) (rIs D)
  | none => some (bf p)) else some (bf p)
def aCo (s : mStp) (af : Nat → mT) : Option mT := match sRl s 4 with
  | some D => rW af (.leaf none) (rIs D)
  | none => some (.leaf (some (.inr [])))
def aOff (t : mT) : Bool := mt_k t == 0 || (mt_k t == 1 && mt_num t == 0)
/-- masks -/
theorem m_mask {mk n : Nat} (hm : mk ≤ 15) (hn : n ≤ 4) : nI mk &&& (((1 : Int32) <<< (nI n &&& 31)) - (1 : Int32)) = nI (mk % 2 ^ n) := by
  have h : ∀ a : Fin 16, ∀ b : Fin 5, nI a.val &&& (((1 : Int32) <<< (nI b.val &&& 31)) - (1 : Int32)) = nI (a.val % 2 ^ b.val) := by decide +kernel
  exact h ⟨mk, by omega⟩ ⟨n, by omega⟩
theorem m_bit {ov p : Nat} (ho : ov < 16) (hp : p < 4) : ((nI ov >>> (nI p &&& 31)) &&& (1 : Int32)) = nI (if aBit ov p = true then 1 else 0) := by
  have h : ∀ a : Fin 16, ∀ b : Fin 4, ((nI a.val >>> (nI b.val &&& 31)) &&& (1 : Int32)) = nI (if aBit a.val b.val = true then 1 else 0) := by decide +kernel
  exact h ⟨ov, ho⟩ ⟨p, hp⟩
theorem aOv_lt {mk n : Nat} (hm : mk ≤ 15) (hn : n ≤ 4) : mk % 2 ^ n < 16 := by
  have : mk % 2 ^ n ≤ mk := Nat.mod_le _ _
  omega
theorem aBit_ge {mk n p : Nat} (hn : n ≤ 4) (hp : p < 4) (h : aBit (mk % 2 ^ n) p = true) : p < n := by
  rcases Nat.lt_or_ge p n with g | g
  · exact g
  · exfalso
    unfold aBit at h
    have h1 : mk % 2 ^ n < 2 ^ n := Nat.mod_lt _ (Nat.pow_pos (by decide))
    have h2 : 2 ^ n ≤ 2 ^ p := Nat.pow_le_pow_right (by decide) g
    rw [Nat.div_eq_of_lt (by omega)] at h
    simp at h
