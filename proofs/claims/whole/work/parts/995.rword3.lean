/-! THE REFERENCE'S WORDS: a command -/
section RWQ
variable {X : List Int32} {d : Nat} {σ : mS} {Q : Option Value → mS → Prop} {B : Nat → Prop}
/-- what comes behind a prefix word of its own -/
def tW (pf sy : Nat) (t : mT) : List (Option Nat) := if mt_isL t = true ∧ sy = 2 then wl (mt_els t) else none :: ((if pf ≠ 0 ∧ sy = 1 then [45, pf] else []) ++ (if mt_isL t = true ∧ sy = 3 then jl (mt_els t) else mt_pl t)).map some
theorem aTk_tW {pf sy : Nat} {t : mT} (hsy : sy < 4) (hne : mt_isL t = true → mt_els t ≠ []) : aTk pf sy t = (if pf ≠ 0 ∧ sy ≠ 1 then [none, some 45, some pf] else []) ++ tW pf sy t := by
  unfold aTk tW
  by_cases hp : pf = 0
  · subst hp
    simp only [if_pos, ne_eq, not_true, false_and, if_false, List.nil_append, and_false]
    by_cases hL : mt_isL t = true
    · by_cases h2 : sy = 2
      · subst h2; rw [if_pos ⟨hL, by omega⟩, if_pos ⟨hL, rfl⟩]; exact aJt_wl _ (hne hL)
      · rw [if_neg (fun g => h2 g.2) (c := mt_isL t = true ∧ sy = 2)]
        by_cases h3 : sy = 3
        · subst h3; rw [if_pos ⟨hL, by omega⟩, if_pos ⟨hL, rfl⟩, aJt_jl 3 (by omega)]
        · rw [if_neg (fun g => by omega), if_neg (fun g => h3 g.2)]; rfl
    · rw [if_neg (fun g => hL g.1), if_neg (fun g => hL g.1), if_neg (fun g => hL g.1)]; rfl
  · by_cases h1 : sy = 1
    · subst h1
      rw [if_neg hp, if_neg (fun g => by omega), if_pos ⟨rfl, hp⟩, if_neg (fun g => g.2 rfl), if_neg (fun g => by omega), if_pos ⟨hp, rfl⟩, if_neg (fun g => by omega)]
      rfl
    · rw [if_neg hp, if_pos (show pf ≠ 0 ∧ sy ≠ 1 from ⟨hp, h1⟩), if_neg (fun g => h1 g.1) (c := sy = 1 ∧ pf ≠ 0), if_neg (fun g => h1 g.2) (c := pf ≠ 0 ∧ sy = 1)]
      congr 1
      by_cases hL : mt_isL t = true
      · by_cases h2 : sy = 2
        · subst h2; rw [if_pos ⟨hL, by omega⟩, if_pos ⟨hL, rfl⟩]; exact aJt_wl _ (hne hL)
        · rw [if_neg (fun g => h2 g.2) (c := mt_isL t = true ∧ sy = 2)]
          by_cases h3 : sy = 3
          · subst h3; rw [if_pos ⟨hL, by omega⟩, if_pos ⟨hL, rfl⟩, aJt_jl 3 (by omega)]; rfl
          · rw [if_neg (fun g => by omega), if_neg (fun g => h3 g.2)]; rfl
      · rw [if_neg (fun g => hL g.1), if_neg (fun g => hL g.1), if_neg (fun g => hL g.1)]; rfl
theorem t190_156 {job s pf sy : Nat} {t : mT} {r : Option (List (List Nat))} {i2 : Int32} {o8 : Option Value} (hj : job < 96) (hsy : sy < 4) (hpf : pf = 0 ∨ 97 ≤ pf ∧ pf ≤ 122) (hg : mt_gd t) (hB : ∀ p, B p → ¬ wA job p) (hno2 : ¬ (mt_isL t = true ∧ sy = 2)) (W : wdS σ job r) (S : mSlot σ B s (mt_tk t 0))
    (H1 : ∀ σ', wdK job σ σ' → wdS σ' job (tR r (tW pf sy t)) → Q (some (.int 1)) σ') (H0 : tR r (tW pf sy t) = none → ∀ σ', wdK job σ σ' → Q (some (.int 0)) σ') :
    mM X (d + 6) 190 156 [some (.ref 86), some (.int (nI job)), some (.int i2), some (.int (nI pf)), some (.int (nI sy)), some (.int (nI (mb s))), some (.int (nI (mb s + (mt_tk t 0).length))), some (.int (if mt_isL t = true then 1 else 0)), o8] [] σ Q := by
  have eT : tW pf sy t = none :: ((if pf ≠ 0 ∧ sy = 1 then [45, pf] else []) ++ (if mt_isL t = true ∧ sy = 3 then jl (mt_els t) else mt_pl t)).map some := if_neg hno2
  rw [eT, ← aWd_tR] at H1 H0
  have hlt := S.lt
  have hpos := mt_tk_pos t 0
  refine u190_156 (t191 hj W ?_ ?_)
  · intro σ1 m P hP hm1 hm2 K1 P1 hE
    have S1 := S.keep K1 id (fun p hp => hB p hp)
    refine ⟨_, rfl, fun _ => ?_, fun g => absurd g (by decide)⟩
    have go : ∀ (l0 : List Nat) (σ2 : mS), l0.length < 10 → l0 = (if pf ≠ 0 ∧ sy = 1 then [45, pf] else []) → wdK job σ σ2 → P l0 σ2 → mM X (d + 6) 190 194 [some (.ref 86), some (.int (nI job)), some (.int i2), some (.int (nI pf)), some (.int (nI sy)), some (.int (nI (mb s))), some (.int (nI (mb s + (mt_tk t 0).length))), some (.int (if mt_isL t = true then 1 else 0)), some (.int (nI (mb s) + 1))] [] σ2 Q := by
      intro l0 σ2 hl0 el0 K2 P2
      have S2 := S.keep K2 id (fun p hp => hB p hp)
      rw [← el0] at H1 H0
      by_cases h3 : mt_isL t = true ∧ sy = 3
      · rw [if_pos h3] at H1
        rw [if_pos h3.1, h3.2, nI_1]
        exact t190_194 (X := X) (d := d) (Q := Q) (l0 := l0) (σ0 := σ) h3.1 hg hB hP hm1 hm2 hE hl0 H1 (mt_els t) [] σ2 rfl K2 S2 (by rw [show jl [] = [] from rfl, List.append_nil]; exact P2)
      · rw [if_neg h3] at H1
        have fin : ∀ i8 : Int32, mM X (d + 6) 190 248 [some (.ref 86), some (.int (nI job)), some (.int i2), some (.int (nI pf)), some (.int (nI sy)), some (.int (nI (mb s))), some (.int (nI (mb s + (mt_tk t 0).length))), some (.int (if mt_isL t = true then 1 else 0)), some (.int i8)] [] σ2 Q := fun i8 => t190_248 (σ0 := σ) hsy hg hB hP hm1 hm2 hE (by omega) K2 S2 P2 (fun σ' K' W' => H1 σ' K' (by rw [if_neg h3] at W'; exact W'))
        rw [nI_1]
        refine u190_194 (pk_le (mb s + (mt_tk t 0).length) (mb s + 1) (fun _ => fin _) (fun _ => ?_))
        by_cases hL : mt_isL t = true
        · have f := fin (nI (mb s + 1))
          rw [if_pos hL] at f ⊢
          refine ⟨fun g => absurd g (by decide), fun _ => pk_ne sy 3 (fun e3 => absurd ⟨hL, e3⟩ h3) (fun _ => f)⟩
        · have f := fin (nI (mb s + 1))
          rw [if_neg hL] at f ⊢
          exact ⟨fun _ => f, fun g => absurd rfl g⟩
    refine pk_eq pf 0 (fun h0 => go [] σ1 (by simp) (by rw [if_neg (fun g => g.1 h0)]) K1 P1) (fun h0 => pk_ne sy 1 (fun h1 => ?_) (fun h1 => go [] σ1 (by simp) (by rw [if_neg (fun g => h1 g.2)]) K1 P1))
    refine hP.1 (d + 3) [] σ1 45 _ (by omega) (by simp) P1 (fun σ2 K2 P2 => ⟨rfl, ?_⟩)
    rw [m_ch (by omega)]
    refine hP.1 (d + 3) _ σ2 pf _ (by omega) (by simp) P2 (fun σ3 K3 P3 => ⟨rfl, go _ σ3 (by simp) (by rw [if_pos ⟨h0, h1⟩]; rfl) ((K1.tr (K2.wd hm1 hm2)).tr (K3.wd hm1 hm2)) P3⟩)
  · intro hno σ1 K1
    exact ⟨_, rfl, fun g => absurd rfl g, fun _ => H0 (hno _) σ1 K1⟩
theorem t190 {job s pf sy : Nat} {t : mT} {r : Option (List (List Nat))} {pl : Int32} (hj : job < 96) (hsy : sy < 4) (hpf : pf = 0 ∨ 97 ≤ pf ∧ pf ≤ 122) (hg : mt_gd t) (hB : ∀ p, B p → ¬ wA job p) (W : wdS σ job r) (S : mSlot σ B s (mt_tk t 0))
    (H1 : ∀ σ', wdK job σ σ' → wdS σ' job (tR r (aTp (pl, pf, sy) t)) → Q (some (.int 1)) σ') (H0 : tR r (aTp (pl, pf, sy) t) = none → ∀ σ', wdK job σ σ' → Q (some (.int 0)) σ') : mM X (d + 6) 190 0 (mm_L0 190 [.ref 86, .int (nI job), .int (nI s), .int (nI pf), .int (nI sy)]) [] σ Q := by
  obtain ⟨u, us', etk, eu, _⟩ := mt_tk_ne t 0
  have hk4 := mt_k_lt t
  have hu : (mt_tk t 0)[0]? = some u := by rw [etk]; rfl
  have isl : (if mt_isL t = true then (1 : Int32) else 0) = if mt_k t = 3 then 1 else 0 := by
    by_cases h : mt_k t = 3
    · rw [if_pos h, if_pos (mt_k3.mp h)]
    · rw [if_neg h, if_neg (fun g => h (mt_k3.mpr g))]
  have empty : (mt_k t = 0 ∨ mt_isL t = true ∧ mt_els t = []) → Q (some (.int 1)) σ := fun h => by
    have : aTp (pl, pf, sy) t = [] := if_pos (Or.inr h)
    rw [this, tR_nil] at H1
    exact H1 σ wdK.rf W
  have c57 : ¬ (mt_k t = 0 ∨ mt_isL t = true ∧ mt_els t = []) → ∀ o8 : Option Value, mM X (d + 6) 190 57 [some (.ref 86), some (.int (nI job)), some (.int (nI s)), some (.int (nI pf)), some (.int (nI sy)), some (.int (nI (mb s))), some (.int (nI (mb s + (mt_tk t 0).length))), some (.int (if mt_isL t = true then 1 else 0)), o8] [] σ Q := by
    intro hne o8
    have eT : aTp (pl, pf, sy) t = (if pf ≠ 0 ∧ sy ≠ 1 then [none, some 45, some pf] else []) ++ tW pf sy t := by
      have : aTp (pl, pf, sy) t = aTk pf sy t := if_neg (fun g => by
        rcases g with g | g
        · have : sy = 4 := g; omega
        · exact hne g)
      rw [this]
      exact aTk_tW hsy (fun hL h => hne (Or.inr ⟨hL, h⟩))
    rw [eT, tR_app] at H1 H0
    have tail : ∀ (r1 : Option (List (List Nat))) (σ1 : mS), r1 = tR r (if pf ≠ 0 ∧ sy ≠ 1 then [none, some 45, some pf] else []) → wdK job σ σ1 → wdS σ1 job r1 → ((if mt_isL t = true then (1 : Int32) else 0) = 0 → mM X (d + 6) 190 156 [some (.ref 86), some (.int (nI job)), some (.int (nI s)), some (.int (nI pf)), some (.int (nI sy)), some (.int (nI (mb s))), some (.int (nI (mb s + (mt_tk t 0).length))), some (.int (if mt_isL t = true then 1 else 0)), o8] [] σ1 Q) ∧ (¬ (if mt_isL t = true then (1 : Int32) else 0) = 0 → ((¬ nI sy = (2 : Int32) → mM X (d + 6) 190 156 [some (.ref 86), some (.int (nI job)), some (.int (nI s)), some (.int (nI pf)), some (.int (nI sy)), some (.int (nI (mb s))), some (.int (nI (mb s + (mt_tk t 0).length))), some (.int (if mt_isL t = true then 1 else 0)), o8] [] σ1 Q) ∧ (nI sy = (2 : Int32) → mM X (d + 6) 190 111 [some (.ref 86), some (.int (nI job)), some (.int (nI s)), some (.int (nI pf)), some (.int (nI sy)), some (.int (nI (mb s))), some (.int (nI (mb s + (mt_tk t 0).length))), some (.int (if mt_isL t = true then 1 else 0)), some (.int (nI (mb s) + 1))] [] σ1 Q))) := by
      intro r1 σ1 er K1 W1
      have S1 := S.keep K1 id (fun p hp => hB p hp)
      rw [← er] at H1 H0
      have w156 : ¬ (mt_isL t = true ∧ sy = 2) → mM X (d + 6) 190 156 [some (.ref 86), some (.int (nI job)), some (.int (nI s)), some (.int (nI pf)), some (.int (nI sy)), some (.int (nI (mb s))), some (.int (nI (mb s + (mt_tk t 0).length))), some (.int (if mt_isL t = true then 1 else 0)), o8] [] σ1 Q := fun hno => t190_156 hj hsy hpf hg hB hno W1 S1 (fun σ' K' W' => H1 σ' (K1.tr K') W') (fun h σ' K' => H0 h σ' (K1.tr K'))
      refine ⟨fun h => w156 (fun g => by rw [if_pos g.1] at h; exact absurd h (by decide)), fun h => pk_ne sy 2 (fun h2 => ?_) (fun h2 => w156 (fun g => h2 g.2))⟩
      have hL : mt_isL t = true := by
        by_cases hL : mt_isL t = true
        · exact hL
        · rw [if_neg hL] at h; exact absurd rfl h
      have eW : tW pf sy t = wl (mt_els t) := if_pos ⟨hL, h2⟩
      rw [eW] at H1 H0
      rw [nI_1]
      exact t190_111 (X := X) (d := d) (Q := Q) hj hL hg hB (mt_els t) [] r1 σ1 rfl W1 S1 (fun σ' K' W' => H1 σ' (K1.tr K') W') (fun h σ' K' => H0 h σ' (K1.tr K'))
    refine u190_57 (pk_eq pf 0 (fun h0 => ?_) (fun h0 => pk_eq sy 1 (fun h1 => ?_) (fun h1 => ?_)))
    · exact tail r σ (by rw [if_neg (fun g => g.1 h0), tR_nil]) wdK.rf W
    · exact tail r σ (by rw [if_neg (fun g => g.2 h1), tR_nil]) wdK.rf W
    · rw [m_ch (by omega)]
      refine t191 hj W ?_ ?_
      · intro σ1 m P hP hm1 hm2 K1 P1 hE
        refine ⟨_, rfl, fun _ => ?_, fun g => absurd g (by decide)⟩
        refine hP.1 (d + 3) [] σ1 45 _ (by omega) (by simp) P1 (fun σ2 K2 P2 => ⟨rfl, ?_⟩)
        refine hP.1 (d + 3) _ σ2 pf _ (by omega) (by simp) P2 (fun σ3 K3 P3 => ⟨rfl, ?_⟩)
        refine hE _ σ3 _ _ P3 (fun σ4 K4 W4 => ⟨rfl, ?_⟩)
        exact tail _ σ4 (by rw [if_pos ⟨h0, h1⟩]; rfl) (((K1.tr (K2.wd hm1 hm2)).tr (K3.wd hm1 hm2)).tr K4) W4
      · intro hno σ1 K1
        refine ⟨_, rfl, fun g => absurd rfl g, fun _ => H0 ?_ σ1 K1⟩
        rw [if_pos ⟨h0, h1⟩]
        have := hno [45, pf]
        rw [aWd_tR] at this
        have e : tR r [none, some 45, some pf] = none := this
        rw [e]; rfl
  have c28 : ∀ (o7 o8 : Option Value), mM X (d + 6) 190 28 [some (.ref 86), some (.int (nI job)), some (.int (nI s)), some (.int (nI pf)), some (.int (nI sy)), some (.int (nI (mb s))), some (.int (nI (mb s + (mt_tk t 0).length))), o7, o8] [.int (if mt_isL t = true then 1 else 0)] σ Q := by
    intro o7 o8
    refine u190_28 (t144 (i := 0) (u := u) S hu ⟨_, rfl, ?_⟩)
    rw [eu]
    refine pk_eq (mt_k t) 0 (fun h0 => empty (Or.inl h0)) (fun h0 => ?_)
    by_cases hL : mt_isL t = true
    · have h8 := ((mt_gl_list hL).mp hg).2.1
      refine ⟨fun g => absurd g (by rw [if_pos hL]; decide), fun _ => ?_⟩
      refine t146 (pre := []) (rest := []) (t := t) (l := 0) S (by simp) (mt_cl_nil 0) rfl rfl ⟨_, rfl, pk_ne (mt_els t).length 0 (fun e => empty (Or.inr ⟨hL, List.length_eq_zero_iff.mp e⟩)) (fun e => c57 (fun g => ?_) o8)⟩
      rcases g with g | g
      · exact h0 g
      · rw [g.2] at e; exact e rfl
    · exact ⟨fun _ => c57 (fun g => g.elim h0 (fun g => hL g.1)) o8, fun g => absurd (if_neg hL) g⟩
  refine u190_0 (s123 S.1 ⟨_, rfl, s143 S.1 S.2.2.1 ⟨_, rfl, t144 (i := 0) (u := u) S hu ⟨_, rfl, ?_⟩⟩⟩)
  rw [eu]
  have c := c28 none none
  rw [isl] at c
  refine pk_ne (mt_k t) 3 (fun h3 => ?_) (fun h3 => ?_)
  · rw [if_pos h3] at c; exact c
  · rw [if_neg h3] at c; exact c
end RWQ
