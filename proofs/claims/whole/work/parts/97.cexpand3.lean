/-! THE CLASS EXPANDS A STEP: all of it -/
def aWh (st : mStp) (to : mTo) (sv : Nat → mT) (i : Nat) : mT := if i < to.2.length then (aPort (sMg st i) (sPk st i) (sPr st i) ((sSr st i).map sv)).getD (.leaf none) else .leaf none
def aPts (st : mStp) (to : mTo) (sv : Nat → mT) : Bool := (List.range to.2.length).all (fun i => (aPort (sMg st i) (sPk st i) (sPr st i) ((sSr st i).map sv)).isSome)
theorem aPts_iff {st : mStp} {to : mTo} {sv : Nat → mT} : aPts st to sv = true ↔ ∀ i, i < to.2.length → aPort (sMg st i) (sPk st i) (sPr st i) ((sSr st i).map sv) ≠ none := by
  unfold aPts
  rw [List.all_eq_true]
  constructor
  · intro h i hi
    have := h i (List.mem_range.mpr hi)
    rw [Option.isSome_iff_ne_none] at this; exact this
  · intro h i hi
    rw [Option.isSome_iff_ne_none]; exact h i (List.mem_range.mp hi)
theorem aWh_gd {st : mStp} {to : mTo} {sv : Nat → mT} (hs : sOk st) (hsv : ∀ p, p < to.2.length → ∀ c ∈ sSr st p, mt_gd (sv c)) (i : Nat) : mt_gd (aWh st to sv i) := by
  unfold aWh
  split
  · rename_i hi
    cases h : aPort (sMg st i) (sPk st i) (sPr st i) ((sSr st i).map sv) with
    | none => exact mt_gl_leaf trivial
    | some t => exact aPort_gd (fun x hx => by obtain ⟨c, hc, rfl⟩ := List.mem_map.mp hx; exact hsv i hi c hc) (fun u hu => hs.2.2.1 i u hu) h
  · exact mt_gl_leaf trivial
def aOv (st : mStp) (to : mTo) : Nat := sMk st % 2 ^ to.2.length
def aLvs (st : mStp) (to : mTo) (wh : Nat → mT) (N : Nat) : List Nat := if aOv st to = 0 then [] else if sMe st = 2 then (aLr (aOv st to) 4 0).map (aLen wh) else [N]
/-- the expansion of a step: how many jobs, and what becomes of each; none: it fails -/
def aExp (st : mStp) (to : mTo) (sv : Nat → mT) : Option Nat := if aPts st to sv = true then (aJobs (sMe st) (aOv st to) (aWh st to sv)).bind (fun N => if (List.range N).all (fun n => (aJob st to (aWh st to sv) n).isSome) = true then some N else none) else none
theorem aExp_iff {st : mStp} {to : mTo} {sv : Nat → mT} {N : Nat} : aExp st to sv = some N ↔ aPts st to sv = true ∧ aJobs (sMe st) (aOv st to) (aWh st to sv) = some N ∧ ∀ i, i < N → aJob st to (aWh st to sv) i ≠ none := by
  unfold aExp
  by_cases h : aPts st to sv = true
  · rw [if_pos h]
    cases hj : aJobs (sMe st) (aOv st to) (aWh st to sv) with
    | none => simp
    | some M =>
      rw [Option.bind_some]
      by_cases ha : (List.range M).all (fun n => (aJob st to (aWh st to sv) n).isSome) = true
      · rw [if_pos ha]
        constructor
        · intro e
          cases e
          refine ⟨h, rfl, fun i hi => ?_⟩
          have := List.all_eq_true.mp ha i (List.mem_range.mpr hi)
          rw [Option.isSome_iff_ne_none] at this; exact this
        · rintro ⟨_, e, _⟩; exact e
      · rw [if_neg ha]
        constructor
        · intro e; cases e
        · rintro ⟨_, e, g⟩
          cases e
          exact absurd (List.all_eq_true.mpr (fun i hi => by rw [Option.isSome_iff_ne_none]; exact g i (List.mem_range.mp hi))) ha
  · rw [if_neg h]
    constructor
    · intro e; cases e
    · rintro ⟨g, _⟩; exact absurd g h
section CX3
variable {X : List Int32} {d : Nat} {hp : mm_H} {Q : Option Value → mm_H → Prop}
/-- expand -/
theorem k61 {s r tr : Nat} {st : mStp} {to : mTo} {sv : Nat → mT} {jc nj tk ph : Int32} {out : Value} {jl rl : List Value} (hs : sOk st) (hto : tOk to) (hord : (aOrd to.2).length = to.2.length) (hs6 : s < 6) (hr : 113 ≤ r) (htr : 113 ≤ tr) (hl : 113 ≤ hp.length) (hsv : ∀ p, p < to.2.length → ∀ c ∈ sSr st p, mt_gd (sv c)) (F : cFp hp r tr st to sv) (XP : cXp hp s r tr st to [] jc 0 nj tk ph out jl rl) (RN : ∀ i, i < 16 → rl[i]? = some .null)
    (H1 : ∀ N, aExp st to sv = some N → ∀ hp' jl' rl' k, cE (wX s jl) hp hp' → cG (8 * k) hp hp' → k + nul jl' = nul jl → cXp hp' s r tr st to (aLvs st to (aWh st to sv) N) (nI N) (aCt (aJob st to (aWh st to sv)) N) nj tk ph out jl' rl' → aDn hp' s N (aJob st to (aWh st to sv)) jl' rl' → (∀ i, N ≤ i → i < 16 → rl'[i]? = some .null) → Q (some (.int 1)) hp')
    (H0 : aExp st to sv = none → ∀ hp' jl' rl' lv' oc' k, cE (wX s jl) hp hp' → cG (8 * k) hp hp' → k + nul jl' = nul jl → cXp hp' s r tr st to lv' jc oc' nj tk ph out jl' rl' → Q (some (.int 0)) hp') : mm_R X (d + 7) 61 0 (mm_L0 61 [.ref 13, .ref r, .ref (56 + 5 * s), .ref 52, .ref 3]) [] hp Q := by
  have hg := aWh_gd (to := to) hs hsv
  obtain ⟨ls0, pv0, _⟩ := id XP.2.2.2.1
  refine w61_0 ⟨rfl, rfl, rfl, ⟨13, _, rfl, XP.1.1⟩, k62 (d := d + 1) (wh := aWh st to sv) hs (by omega) (by omega) hsv (fun i _ => rfl) F ?_ ?_⟩
  · intro hall hp1 E1 G1 F1 PT1
    have XP1 := XP.keepE E1 (fun x h => h) F1.1 hr htr
    obtain ⟨EX1, ST1, TO1, PV1, JS1, RS1⟩ := id XP1
    obtain ⟨ls1, pv1, _⟩ := id PV1
    have n4 := TO1.le
    have hpw : 2 ^ to.2.length ≤ 2 ^ 4 := Nat.pow_le_pow_right (by decide) n4
    have hpts := aPts_iff.mpr hall
    have jge : ∀ j : Nat, Value.ref j ∈ jl → 113 ≤ j := fun j hj => by
      obtain ⟨n', hn', en⟩ := List.getElem_of_mem hj
      rcases JS1.2.2 n' hn' with g | ⟨j', ws, g, _, hj'⟩
      · rw [en] at g; cases g
      · rw [en] at g; cases g; exact hj'
    have q2 : qW hp1 (wP s) := fun x hx w => ⟨PV1.nV x hx w, Or.inl (by unfold wP at w; omega)⟩
    have nW : ∀ j : Nat, Value.ref j ∈ jl → ∀ x, wJ j x → ¬ wP s x := fun j hj x hx => by have := jge j hj; unfold wJ at hx; unfold wP; omega
    have kx : ∀ hp2 lv2, cE (wP s) hp1 hp2 → cPv hp2 s lv2 jc (nI 0) nj tk ph out → cXp hp2 s r tr st to lv2 jc 0 nj tk ph out jl rl := fun hp2 lv2 E2 P2 => ⟨EX1.keepJ E2 (fun x hx => by unfold wP; omega), ST1.keepJ E2 q2 hr, TO1.keepJ E2 q2 htr, P2, JS1.keep E2 (by unfold wP; omega) nW, E2.at RS1.1 (by unfold wP; omega), RS1.2⟩
    have kE : ∀ hp2, cE (wP s) hp1 hp2 → cE (wX s jl) hp hp2 := fun hp2 E2 => (E1.mono (fun x _ h => Or.inl h)).tr (E2.mono (fun x _ h => Or.inr (Or.inl (by unfold wP at h; omega))))
    refine ⟨_, rfl, fun _ => ⟨rfl, ⟨13, _, rfl, EX1.1⟩, k70 (d := d + 3) hs hg ST1 TO1 EX1 PT1 PV1 ?_ ?_⟩, fun g => absurd g (by decide)⟩
    · intro N lv hlv hp2 E2 G2 P2
      have XP2 := kx hp2 lv E2 P2
      have PT2 := PT1.keepT E2 PV1.nV (by unfold wP; omega)
      have hNb : N ≤ 8 ^ 4 := by
        rcases hlv with ⟨_, e, _⟩ | ⟨_, e, _⟩
        · omega
        · have gen : ∀ (ps : List Nat) (j : Option Nat) (M : Nat), aCf (sMe st) (aWh st to sv) ps j = some (some M) → ∀ b, (∀ i, j = some i → i ≤ b) → 1 ≤ b → M ≤ b * 8 ^ ps.length := by
            intro ps
            induction ps with
            | nil => intro j M h b hb h1; cases h; simp; exact hb M rfl
            | cons p ps ih =>
              intro j M h b hb h1
              rw [aCf] at h
              split at h
              · have h8 : aLen (aWh st to sv) p ≤ 8 := (mt_g_sz (mt_gd_g (hg p))).2
                have := ih _ M h (b * 8) (fun i hi => by
                  cases hi
                  split
                  · omega
                  · have : j.getD 1 ≤ b := by
                      cases j with
                      | none => exact h1
                      | some i => exact hb i rfl
                    exact Nat.mul_le_mul this h8) (by omega)
                rw [List.length_cons, Nat.pow_succ, Nat.mul_comm (8 ^ ps.length) 8, ← Nat.mul_assoc]
                exact this
              · cases h
          have := gen _ none N e 1 (fun i hi => nomatch hi) (by omega)
          have hl4 : (aLr (sMk st % 2 ^ to.2.length) 4 0).length ≤ 4 := by
            have h : ∀ a : Fin 16, (aLr a.val 4 0).length ≤ 4 := by decide
            exact h ⟨_, aOv_lt hs.2.2.2.2.1 n4⟩
          have h2 : 8 ^ (aLr (sMk st % 2 ^ to.2.length) 4 0).length ≤ 8 ^ 4 := Nat.pow_le_pow_right (by decide) hl4
          omega
      have eJ : aJobs (sMe st) (aOv st to) (aWh st to sv) = if N ≤ 16 then some N else none := by
        unfold aJobs aOv
        rcases hlv with ⟨a, b, c⟩ | ⟨a, b, c⟩
        · rw [if_pos a, if_pos (by omega), b]
        · rw [if_neg a, b]; rfl
      refine ⟨_, rfl, pk_lt N 0 (fun g => absurd g (by omega)) (fun _ => pk_le N 16 (fun h16 => ?_) (fun h16 => ?_))⟩
      · rw [if_pos h16] at eJ
        have elv : lv = aLvs st to (aWh st to sv) N := by
          unfold aLvs aOv
          rcases hlv with ⟨a, b, c⟩ | ⟨a, b, c⟩
          · rw [if_pos a, c]
          · rw [if_neg a, c]
        rw [elv] at XP2
        refine k61_38 (d := d + 1) hs hto hord hs6 hr htr hg eJ N 0 hp2 jl rl none none none (by omega) (Nat.le_trans (Nat.le_trans hl E1.1) E2.1) XP2 PT2 (fun i hi => absurd hi (by omega)) (fun i _ h => RN i h) ?_ ?_
        · intro ha hp3 jl3 rl3 k E3 G3 K3 X3 D3 R3
          exact H1 N (aExp_iff.mpr ⟨hpts, eJ, fun i hi => ha i (by omega) hi⟩) hp3 jl3 rl3 k ((kE hp2 E2).tr2 E3 (fun x _ h => h)) (((G1.tr G2).tr G3).mono (by omega)) K3 X3 D3 R3
        · intro ha hp3 jl3 rl3 oc3 k E3 G3 K3 X3
          refine H0 ?_ hp3 jl3 rl3 _ oc3 k ((kE hp2 E2).tr2 E3 (fun x _ h => h)) (((G1.tr G2).tr G3).mono (by omega)) K3 X3
          cases he : aExp st to sv with
          | none => rfl
          | some M =>
            obtain ⟨_, b, c⟩ := aExp_iff.mp he
            rw [eJ] at b
            cases b
            exact absurd (fun i _ hi => c i hi) ha
      · rw [if_neg (by omega)] at eJ
        refine H0 ?_ hp2 jl rl lv 0 0 (kE hp2 E2) ((G1.tr G2).mono (by omega)) (by omega) XP2
        unfold aExp
        rw [if_pos hpts, eJ]; rfl
    · intro hov hn hp2 lv2 E2 G2 P2
      refine ⟨_, rfl, fun _ => H0 ?_ hp2 jl rl lv2 0 0 (kE hp2 E2) ((G1.tr G2).mono (by omega)) (by omega) (kx hp2 lv2 E2 P2), fun g => absurd (by decide) g⟩
      unfold aExp aJobs aOv
      rw [if_pos hpts, if_neg hov, hn]; rfl
  · intro hno hp1 E1 G1 F1
    have XP1 := XP.keepE E1 (fun x h => h) F1.1 hr htr
    refine ⟨_, rfl, fun g => absurd rfl g, fun _ => H0 ?_ hp1 jl rl [] 0 0 (E1.mono (fun x _ h => Or.inl h)) (G1.mono (by omega)) (by omega) XP1⟩
    unfold aExp
    rw [if_neg (fun g => hno (aPts_iff.mp g))]
end CX3
