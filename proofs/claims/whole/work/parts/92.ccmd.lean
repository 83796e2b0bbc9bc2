/-! THE CLASS'S JOBS: commands -/
theorem aE1_sn {ws ws' : List (List Nat)} {t : Option Nat} (h : aE1 ws t = some ws') : ∃ vs w, ws' = vs ++ [w] := by
  cases t with
  | none =>
    rw [aE1] at h
    split at h
    · cases h; exact ⟨_, _, rfl⟩
    · cases h
  | some c =>
    rw [aE1] at h
    split at h
    · cases h
    · split at h
      · cases h; exact ⟨_, _, rfl⟩
      · cases h
theorem cJw.w24 {hp : mm_H} {j s n : Nat} {ws : List (List Nat)} (h : cJw hp j s n ws) : ∀ w ∈ ws, w.length ≤ 24 := by
  obtain ⟨lb, junk, ej, a, b, c, e, f, g, h, i⟩ := h
  exact h
section CC
variable {X : List Int32} {d : Nat} {hp : mm_H} {Q : Option Value → mm_H → Prop}
theorem k91_23 {j s n q b e : Nat} {t : mT} {vs : List (List Nat)} (hg : mt_gd t) (hb : b = if mt_k t = 2 then 1 else 0) (he : e = b + (mt_pl t).length) : ∀ (m i : Nat) (w : List Nat) (hp : mm_H), i + m = (mt_pl t).length → cJw hp j s n (vs ++ [w]) → cT cS hp t q →
    (∀ ws', aEm (vs ++ [w]) (((mt_pl t).drop i).map some) = some ws' → ∀ hp', cE (wJ j) hp hp' → cG 0 hp hp' → cJw hp' j s n ws' → Q (some (.int 1)) hp') →
    (aEm (vs ++ [w]) (((mt_pl t).drop i).map some) = none → ∀ hp' ws', cE (wJ j) hp hp' → cG 0 hp hp' → cJw hp' j s n ws' → Q (some (.int 0)) hp') →
    mm_R X (d + 2) 91 23 [some (.ref j), some (.ref q), some (.int (nI b)), some (.int (nI e)), some (.int (nI (b + i)))] [] hp Q := by
  have hl := mt_pl_le hg
  have hb1 : b ≤ 1 := by rw [hb]; split <;> omega
  intro m
  induction m with
  | zero =>
    intro i w hp hi J T H1 H0
    have hd : (mt_pl t).drop i = [] := List.drop_eq_nil_of_le (by omega)
    rw [hd] at H1
    exact w91_23 (pk_le e (b + i) (fun _ => H1 _ rfl hp cE.rf cG.rf J) (fun g => absurd g (by omega)))
  | succ m ih =>
    intro i w hp hi J T H1 H0
    have hil : i < (mt_pl t).length := by omega
    have hget := mt_pl_get t hil
    rw [← hb] at hget
    have hc := mt_pl_ch hg.2 _ (List.getElem_mem hil)
    have hdr := List.drop_eq_getElem_cons hil
    obtain ⟨vq, hvq⟩ := T.tag
    rw [hdr, List.map_cons] at H1 H0
    have ee : ∀ ts, aEm (vs ++ [w]) (some (mt_pl t)[i] :: ts) = (aE1 (vs ++ [w]) (some (mt_pl t)[i])).bind (fun ws' => aEm ws' ts) := fun ts => rfl
    rw [ee] at H1 H0
    refine w91_23 (pk_le e (b + i) (fun g => absurd g (by omega)) (fun _ => ⟨rfl, ⟨_, _, rfl, hvq⟩, k82 T hg (by omega) ⟨_, rfl, J.rc rfl, ?_⟩⟩))
    rw [mt_at_some hget, m_ch (by omega)]
    refine k90 J (by omega) (fun ws1 e1 hp1 E1 G1 J1 => ⟨_, rfl, fun _ => ?_, fun g => absurd g (by decide)⟩) (fun e0 => ⟨_, rfl, fun g => absurd rfl g, fun _ => H0 (by rw [e0]; rfl) hp _ cE.rf cG.rf J⟩)
    rw [e1, Option.bind_some] at H1 H0
    rw [aE1_l] at e1
    split at e1
    · cases e1
      rw [nI_1, Nat.add_assoc]
      exact ih (i + 1) (w ++ [(mt_pl t)[i]]) hp1 (by omega) J1 (T.keepT E1 J.nV) (fun ws2 e2 hp2 E2 G2 J2 => H1 ws2 e2 hp2 (E1.tr E2) (G1.tr G2) J2) (fun e2 hp2 ws2 E2 G2 J2 => H0 e2 hp2 ws2 (E1.tr E2) (G1.tr G2) J2)
    · cases e1
/-- addPlain -/
theorem k91 {j s n q : Nat} {t : mT} {vs : List (List Nat)} {w : List Nat} (hg : mt_gd t) (J : cJw hp j s n (vs ++ [w])) (T : cT cS hp t q)
    (H1 : ∀ ws', aEm (vs ++ [w]) ((mt_pl t).map some) = some ws' → ∀ hp', cE (wJ j) hp hp' → cG 0 hp hp' → cJw hp' j s n ws' → Q (some (.int 1)) hp')
    (H0 : aEm (vs ++ [w]) ((mt_pl t).map some) = none → ∀ hp' ws', cE (wJ j) hp hp' → cG 0 hp hp' → cJw hp' j s n ws' → Q (some (.int 0)) hp') : mm_R X (d + 2) 91 0 (mm_L0 91 [.ref j, .ref q]) [] hp Q := by
  have hl := mt_pl_le hg
  obtain ⟨vq, hxq⟩ := T.tag
  have hb1 : (if mt_k t = 2 then 1 else 0) ≤ 1 := by split <;> omega
  have hw24 := J.w24 w (by simp)
  refine w91_0 ⟨rfl, ⟨_, _, rfl, hxq⟩, k80 T ⟨_, rfl, ⟨_, _, rfl, hxq⟩, k81 T ⟨_, rfl, ?_⟩⟩⟩
  dsimp only
  rw [pk_sub (by omega), show (if mt_k t = 2 then 1 else 0) + (mt_pl t).length - (if mt_k t = 2 then 1 else 0) = (mt_pl t).length by omega]
  refine pk_le (mt_pl t).length 24 (fun _ => ?_) (fun h => H0 (by rw [aEm_ls _ _ _ hw24, if_neg (by omega)]) hp _ cE.rf cG.rf J)
  have := k91_23 (X := X) (d := d) (Q := Q) (q := q) (b := if mt_k t = 2 then 1 else 0) hg rfl rfl (mt_pl t).length 0 w hp (by omega) J T (by simpa using H1) (by simpa using H0)
  simpa using this
/-- one part of a port's words -/
theorem k88_83 {j s n q pf sy parts i ta : Nat} {t x : mT} {ws : List (List Nat)} {jo : Int32} {hd : List (Option Nat)} {o8 o9 : Option Value} (hg : mt_gd t) (hgx : mt_gd x) (T : cT cS hp t q) (J : cJw hp j s n ws) (hi : i < parts) (hpr : parts ≤ 8) (hsy : sy ≤ 4)
    (hhd : i = 0 ∧ jo = 0 ∧ hd = [none] ∨ i = 0 ∧ jo = 1 ∧ hd = [] ∧ (∃ vs w, ws = vs ++ [w]) ∨ i ≠ 0 ∧ sy = 2 ∧ hd = [none] ∨ i ≠ 0 ∧ sy ≠ 2 ∧ hd = [some 44] ∧ (∃ vs w, ws = vs ++ [w]))
    (hx : ta = 0 ∧ x = t ∨ ta = 1 ∧ ∃ h : i < (mt_els t).length, (mt_els t)[i] = x)
    (H1 : ∀ ws', aEm ws (hd ++ (mt_pl x).map some) = some ws' → ∀ hp' o8 o9, cE (wJ j) hp hp' → cG 0 hp hp' → cJw hp' j s n ws' → mm_R X (d + 3) 88 83 [some (.ref j), some (.int (nI pf)), some (.int (nI sy)), some (.ref q), some (.int (nI ta)), some (.int jo), some (.int (nI parts)), some (.int (nI (i + 1))), o8, o9] [] hp' Q)
    (H0 : aEm ws (hd ++ (mt_pl x).map some) = none → ∀ hp' ws', cE (wJ j) hp hp' → cG 0 hp hp' → cJw hp' j s n ws' → Q (some (.int 0)) hp') :
    mm_R X (d + 3) 88 83 [some (.ref j), some (.int (nI pf)), some (.int (nI sy)), some (.ref q), some (.int (nI ta)), some (.int jo), some (.int (nI parts)), some (.int (nI i)), o8, o9] [] hp Q := by
  obtain ⟨vq, hvq⟩ := T.tag
  obtain ⟨gz, g8⟩ := mt_g_sz (mt_gd_g hg)
  -- the plain, once the head is there
  have plain : ∀ (hp1 : mm_H) (vs : List (List Nat)) (w : List Nat) (z : Int32) (o9 : Option Value), cE (wJ j) hp hp1 → cG 0 hp hp1 → cJw hp1 j s n (vs ++ [w]) → (aEm ws (hd ++ (mt_pl x).map some) = aEm (vs ++ [w]) ((mt_pl x).map some)) → ((nI ta = (0 : Int32) → mm_isr (.ref q) = true ∧ mm_R X (d + 2 + 1) 88 168 [some (.ref j), some (.int (nI pf)), some (.int (nI sy)), some (.ref q), some (.int (nI ta)), some (.int jo), some (.int (nI parts)), some (.int (nI i)), some (.int z), o9] [.ref q] hp1 Q) ∧ (¬ nI ta = (0 : Int32) → mm_isr (.ref q) = true ∧ mw_rc (.ref q) 67 hp1 ∧ mm_R X (d + 2) 67 0 (mm_L0 67 [.ref q, .int (nI i)]) [] hp1 (mw_rv (fun v5 hp4 => mm_R X (d + 2 + 1) 88 168 [some (.ref j), some (.int (nI pf)), some (.int (nI sy)), some (.ref q), some (.int (nI ta)), some (.int jo), some (.int (nI parts)), some (.int (nI i)), some (.int z), o9] [v5] hp4 Q)))) := by
    intro hp1 vs w z o9 E1 G1 J1 ee
    have T1 : cT cS hp1 t q := T.keepT E1 J.nV
    obtain ⟨vq1, hvq1⟩ := T1.tag
    rw [ee] at H1 H0
    have fin : ∀ (y : Nat), cT cS hp1 x y → mm_R X (d + 2 + 1) 88 168 [some (.ref j), some (.int (nI pf)), some (.int (nI sy)), some (.ref q), some (.int (nI ta)), some (.int jo), some (.int (nI parts)), some (.int (nI i)), some (.int z), o9] [.ref y] hp1 Q := by
      intro y Ty
      refine w88_168 ⟨rfl, Or.inr ⟨⟨_, rfl⟩, J1.rc rfl, k91 hgx J1 Ty (fun ws2 e2 hp2 E2 G2 J2 => ⟨_, rfl, fun _ => ?_, fun g => absurd g (by decide)⟩) (fun e2 hp2 ws2 E2 G2 J2 => ⟨_, rfl, fun g => absurd rfl g, fun _ => H0 e2 hp2 ws2 (E1.tr E2) (G1.tr G2) J2⟩)⟩⟩
      rw [nI_1]
      exact H1 ws2 e2 hp2 _ _ (E1.tr E2) (G1.tr G2) J2
    rcases hx with ⟨ea, ex⟩ | ⟨ea, hlt, ex⟩
    · subst ea
      refine ⟨fun _ => ⟨rfl, fin q (by rw [ex]; exact T1)⟩, fun g => absurd rfl g⟩
    · subst ea
      refine ⟨fun g => absurd g (by decide), fun _ => ⟨rfl, ⟨_, _, rfl, hvq1⟩, k67 T1 (by omega) g8 (fun h q' s' T' => ⟨_, rfl, fin q' (by rw [← ex]; exact T')⟩) (fun g => absurd g (by omega))⟩⟩
  have opened : (hd = [none]) → ∀ (z : Int32), z = 1 → mw_rc (.ref j) 89 hp ∧ mm_R X (d + 2) 89 0 (mm_L0 89 [.ref j]) [] hp (mw_ri (fun x3 hp2 => ((x3 = (0 : Int32) → Q (some (.int (0 : Int32))) hp2) ∧ (¬ x3 = (0 : Int32) → mm_R X (d + 2 + 1) 88 132 [some (.ref j), some (.int (nI pf)), some (.int (nI sy)), some (.ref q), some (.int (nI ta)), some (.int jo), some (.int (nI parts)), some (.int (nI i)), some (.int z), o9] [] hp2 Q)))) := by
    rintro eh z rfl
    refine ⟨J.rc rfl, k89 J (fun ws1 e1 hp1 E1 G1 J1 => ⟨_, rfl, fun g => absurd g (by decide), fun _ => ?_⟩) (fun e0 => ⟨_, rfl, fun _ => H0 (by rw [eh]; show (aE1 ws none).bind _ = _; rw [e0]; rfl) hp ws cE.rf cG.rf J, fun g => absurd rfl g⟩)⟩
    obtain ⟨vs, w, ew⟩ := aE1_sn e1
    subst ew
    exact w88_132 ⟨fun _ => plain hp1 vs w 1 _ E1 G1 J1 (by rw [eh]; show (aE1 ws none).bind _ = _; rw [e1]; rfl), fun g => absurd g (by decide)⟩
  refine w88_83 (pk_le parts i (fun g => absurd g (by omega)) (fun _ => pk_ne i 0 (fun e0 => ?_) (fun e0 => pk_ne sy 2 (fun e2 => ⟨fun g => absurd g (by decide), fun _ => ?_⟩) (fun e2 => ⟨fun _ => ?_, fun g => absurd rfl g⟩))))
  · rcases hhd with ⟨_, ej, eh⟩ | ⟨_, ej, eh, vs, w, ew⟩ | ⟨g, _⟩ | ⟨g, _⟩
    · refine ⟨fun g => absurd ej g, fun _ => ⟨fun g => absurd g (by decide), fun _ => opened eh 1 rfl⟩⟩
    · refine ⟨fun _ => ⟨fun _ => ?_, fun g => absurd rfl g⟩, fun g => absurd g (by rw [ej]; decide)⟩
      refine w88_132 ⟨fun g => absurd rfl g, fun _ => ⟨fun _ => ?_, fun g => absurd (by rw [e0]; decide) g⟩⟩
      subst ew
      exact plain hp vs w 0 _ cE.rf cG.rf J (by rw [eh]; rfl)
    · exact absurd e0 g
    · exact absurd e0 g
  · rcases hhd with ⟨g, _⟩ | ⟨g, _⟩ | ⟨_, _, eh⟩ | ⟨_, g, _⟩
    · exact absurd g e0
    · exact absurd g e0
    · exact opened eh 1 rfl
    · exact absurd e2 g
  · rcases hhd with ⟨g, _⟩ | ⟨g, _⟩ | ⟨_, g, _⟩ | ⟨_, _, eh, vs, w, ew⟩
    · exact absurd g e0
    · exact absurd g e0
    · exact absurd g e2
    · subst ew
      refine w88_132 ⟨fun g => absurd rfl g, fun _ => pk_le i 0 (fun g => absurd g (by omega)) (fun _ => ⟨J.rc rfl, k90 (c := 44) J (by decide) (fun ws1 e1 hp1 E1 G1 J1 => ⟨_, rfl, fun _ => ?_, fun g => absurd g (by decide)⟩) (fun e1 => ⟨_, rfl, fun g => absurd rfl g, fun _ => H0 (by rw [eh]; show (aE1 (vs ++ [w]) (some 44)).bind _ = _; rw [e1]; rfl) hp _ cE.rf cG.rf J⟩)⟩)⟩
      obtain ⟨vs', w', ew'⟩ := aE1_sn e1
      subst ew'
      exact plain hp1 vs' w' 0 _ E1 G1 J1 (by rw [eh]; show (aE1 (vs ++ [w]) (some 44)).bind _ = _; rw [e1]; rfl)
end CC
