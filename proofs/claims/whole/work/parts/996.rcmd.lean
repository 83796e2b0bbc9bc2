/-! THE REFERENCE'S COMMANDS -/
theorem aTs_app (ps : List (Int32 × Nat × Nat)) (af : Nat → mT) : ∀ (a b : List Nat), aTs ps af (a ++ b) = aTs ps af a ++ aTs ps af b
  | [], b => rfl
  | p :: a, b => by
    show aTp _ _ ++ aTs ps af (a ++ b) = (aTp _ _ ++ aTs ps af a) ++ aTs ps af b
    rw [aTs_app ps af a b, List.append_assoc]
theorem sE.wd {σ σ' : mS} {E : mEv} {job : Nat} (h : sE σ E) (K : wdK job σ σ') : sE σ' E :=
  h.kp K ⟨by omega, by omega⟩ (fun b j h1 h2 hB => by unfold wdB at hB; omega) (fun p hp hP => by unfold wA at hP; omega) (fun s hs => id)
section RCM
variable {X : List Int32} {d : Nat} {σ : mS} {Q : Option Value → mS → Prop} {B : Nat → Prop}
theorem t189_38 {E : mEv} {s job i : Nat} {af : Nat → mT} {i4 : Int32} (hs : s < 6) (hj : job < 96) (ht4 : sTl (eSt E s) < 4) (hto : tOk (eTo E s)) (hnp : (eTo E s).2.length ≤ 4) (hg : ∀ p, mt_gd (af p)) (hB : ∀ p, B p → ¬ wA job p) (hi4 : i4 = nI i - 9)
    (H0 : ∀ (σ' : mS), Q (some (.int 0)) σ' → True) : ∀ (m p : Nat) (r : Option (List (List Nat))) (σ : mS) (o6 : Option Value), p + m = (eTo E s).2.length → sE σ E → wdS σ job r → (∀ q, q < (eTo E s).2.length → mSlot σ B (137 + q) (mt_tk (af q) 0)) →
    (∀ σ' o5 o6, wdK job σ σ' → wdS σ' job (tR r (aTs (eTo E s).2 af ((List.range' p m).filter (fun q => ((eTo E s).2.getD q (0, 0, 0)).1 == nI i - 9)))) → mM X (d + 7) 189 28 [some (.ref 86), some (.int (nI s)), some (.int (nI job)), some (.int (nI (eTo E s).2.length)), some (.int (i4 + 1)), o5, o6] [] σ' Q) →
    (tR r (aTs (eTo E s).2 af ((List.range' p m).filter (fun q => ((eTo E s).2.getD q (0, 0, 0)).1 == nI i - 9))) = none → ∀ σ', wdK job σ σ' → Q (some (.int 0)) σ') →
    mM X (d + 7) 189 38 [some (.ref 86), some (.int (nI s)), some (.int (nI job)), some (.int (nI (eTo E s).2.length)), some (.int i4), some (.int (nI p)), o6] [] σ Q := by
  intro m
  induction m with
  | zero =>
    intro p r σ o6 hm hE W SS H1 HN
    have e : p = (eTo E s).2.length := by omega
    subst e
    refine u189_38 ⟨fun _ => H1 σ _ _ wdK.rf ?_, fun g => absurd (Int32.le_refl _) g⟩
    show wdS σ job (tR r [])
    rw [tR_nil]; exact W
  | succ m ih =>
    intro p r σ o6 hm hE W SS H1 HN
    have hp : p < (eTo E s).2.length := by omega
    obtain ⟨_, _, e3, e4, _⟩ := id hE
    obtain ⟨a1, _⟩ := e4 s hs
    obtain ⟨b1, b2, b3⟩ := e3 _ ht4
    obtain ⟨c1, c2, c3, c4⟩ := b3 p hp
    obtain ⟨x, ex⟩ : ∃ x, x = (eTo E s).2[p] := ⟨_, rfl⟩
    have hx := hto.2 x (by rw [ex]; exact List.getElem_mem hp)
    have eg : (eTo E s).2.getD p (0, 0, 0) = x := by rw [List.getD_eq_getElem?_getD, List.getElem?_eq_getElem hp, ex]; rfl
    have c2' : σ.2.1 93 (4 * sTl (eSt E s) + p) = x.1 := by rw [ex]; exact c2
    have c3' : σ.2.1 94 (4 * sTl (eSt E s) + p) = nI x.2.1 := by rw [ex]; exact c3
    have c4' : σ.2.1 95 (4 * sTl (eSt E s) + p) = nI x.2.2 := by rw [ex]; exact c4
    rw [List.range'_succ, List.filter_cons] at H1 HN
    rw [eg] at H1 HN
    have eix : (4 : Int32) * mGet σ 96 (nI s) + nI p = nI (4 * sTl (eSt E s) + p) := by
      rw [mGet_e (by omega), a1, show (4 : Int32) = nI 4 from rfl, pk_mul, nI_add]
    have hix := m_ix (show 4 * sTl (eSt E s) + p < 16 by omega) (by decide)
    have next : ∀ (r1 : Option (List (List Nat))) (σ1 : mS) (o6 : Option Value), wdK job σ σ1 → wdS σ1 job r1 → (∀ ts, tR r1 ts = tR r ((if (x.1 == nI i - 9) = true then aTp x (af p) else []) ++ ts)) → mM X (d + 7) 189 38 [some (.ref 86), some (.int (nI s)), some (.int (nI job)), some (.int (nI (eTo E s).2.length)), some (.int i4), some (.int (nI p + 1)), o6] [] σ1 Q := by
      intro r1 σ1 o6 K1 W1 er
      rw [nI_1]
      have eq2 : tR r1 (aTs (eTo E s).2 af ((List.range' (p + 1) m).filter (fun q => ((eTo E s).2.getD q (0, 0, 0)).1 == nI i - 9))) = tR r (aTs (eTo E s).2 af (if (x.1 == nI i - 9) = true then p :: (List.range' (p + 1) m).filter (fun q => ((eTo E s).2.getD q (0, 0, 0)).1 == nI i - 9) else (List.range' (p + 1) m).filter (fun q => ((eTo E s).2.getD q (0, 0, 0)).1 == nI i - 9))) := by
        rw [er]
        congr 1
        split
        · show _ = aTp ((eTo E s).2.getD p (0, 0, 0)) (af p) ++ _
          rw [eg]
        · rfl
      refine ih (p + 1) r1 σ1 o6 (by omega) (hE.wd K1) W1 (fun q hq => (SS q hq).keep K1 id (fun y hy => hB y hy)) (fun σ' o5 o6 K' W' => H1 σ' o5 o6 (K1.tr K') (by rw [← eq2]; exact W')) (fun h σ' K' => HN (by rw [← eq2]; exact h) σ' (K1.tr K'))
    have skip : (if (x.1 == nI i - 9) = true then aTp x (af p) else []) = [] → ∀ o6, mM X (d + 7) 189 38 [some (.ref 86), some (.int (nI s)), some (.int (nI job)), some (.int (nI (eTo E s).2.length)), some (.int i4), some (.int (nI p + 1)), o6] [] σ Q := fun h o6 => next r σ o6 wdK.rf W (fun ts => by rw [h]; rfl)
    refine u189_38 (pk_le (eTo E s).2.length p (fun g => absurd g (by omega)) (fun _ => ⟨m_ix hs (by decide), ?_⟩))
    rw [eix]
    refine ⟨hix, ?_⟩
    rw [mGet_e (by omega), mGet_e (by omega), mGet_e (by omega), c2', c3', c4', hi4]
    refine ⟨fun hne => ?_, fun heq => ⟨hix, pk_le 4 x.2.2 (fun h4 => ?_) (fun h4 => ⟨hix, hix, ?_⟩)⟩⟩
    · rw [hi4] at skip
      exact skip (if_neg (by rw [beq_iff_eq]; exact hne)) _
    · rw [hi4] at skip
      refine skip ?_ _
      rw [if_pos (by rw [beq_iff_eq]; exact heq)]
      exact if_pos (Or.inl (by omega))
    · rw [show (137 : Int32) = nI 137 from rfl, nI_add]
      have hb : (x.1 == nI i - 9) = true := by rw [beq_iff_eq]; exact heq
      rw [hi4] at next
      refine t190 (pl := x.1) hj h4 hx.2.1 (hg p) hB W (SS p hp) (fun σ1 K1 W1 => ⟨_, rfl, fun _ => next _ σ1 _ K1 W1 (fun ts => ?_), fun g => absurd g (by decide)⟩) (fun hno σ1 K1 => ⟨_, rfl, fun g => absurd rfl g, fun _ => HN ?_ σ1 K1⟩)
      · rw [if_pos hb, tR_app]
      · rw [if_pos hb]
        show tR r (aTp ((eTo E s).2.getD p (0, 0, 0)) (af p) ++ _) = none
        rw [eg, tR_app]
        have : tR r (aTp x (af p)) = none := hno
        rw [this]; rfl
theorem t189_28 {E : mEv} {s job : Nat} {af : Nat → mT} (hs : s < 6) (hj : job < 96) (ht4 : sTl (eSt E s) < 4) (hto : tOk (eTo E s)) (hnp : (eTo E s).2.length ≤ 4) (hg : ∀ p, mt_gd (af p)) (hB : ∀ p, B p → ¬ wA job p) : ∀ (m i : Nat) (r : Option (List (List Nat))) (σ : mS) (o5 o6 : Option Value), i + m = 19 → sE σ E → wdS σ job r → (∀ q, q < (eTo E s).2.length → mSlot σ B (137 + q) (mt_tk (af q) 0)) →
    (∀ ws, tR r (aTs (eTo E s).2 af (((List.range' i m).map (fun i => (List.range (eTo E s).2.length).filter (fun q => ((eTo E s).2.getD q (0, 0, 0)).1 == nI i - 9))).flatten)) = some ws → ∀ σ', wdK job σ σ' → wdS σ' job (some ws) → Q (some (.int 1)) σ') →
    (tR r (aTs (eTo E s).2 af (((List.range' i m).map (fun i => (List.range (eTo E s).2.length).filter (fun q => ((eTo E s).2.getD q (0, 0, 0)).1 == nI i - 9))).flatten)) = none → ∀ σ', wdK job σ σ' → Q (some (.int 0)) σ') →
    mM X (d + 7) 189 28 [some (.ref 86), some (.int (nI s)), some (.int (nI job)), some (.int (nI (eTo E s).2.length)), some (.int (nI i - 9)), o5, o6] [] σ Q := by
  have cmp : ∀ i, i < 20 → ((9 : Int32) < nI i - 9 ↔ 19 ≤ i) := by decide
  have inc : ∀ i, i < 20 → nI i - 9 + 1 = nI (i + 1) - 9 := by decide
  intro m
  induction m with
  | zero =>
    intro i r σ o5 o6 hm hE W SS H1 H0
    have e : i = 19 := by omega
    subst e
    have er : tR r (aTs (eTo E s).2 af (((List.range' 19 0).map (fun i => (List.range (eTo E s).2.length).filter (fun q => ((eTo E s).2.getD q (0, 0, 0)).1 == nI i - 9))).flatten)) = r := tR_nil r
    rw [er] at H1 H0
    refine u189_28 ⟨fun _ => ?_, fun g => absurd ((cmp 19 (by omega)).mpr (by omega)) g⟩
    cases r with
    | none =>
      rw [W.2.1]
      exact ⟨Or.inl rfl, H0 rfl σ wdK.rf⟩
    | some ws =>
      rw [W.2.1]
      exact ⟨Or.inr rfl, H1 ws rfl σ wdK.rf W⟩
  | succ m ih =>
    intro i r σ o5 o6 hm hE W SS H1 H0
    rw [List.range'_succ, List.map_cons, List.flatten_cons, aTs_app, tR_app] at H1 H0
    refine u189_28 ⟨fun g => absurd ((cmp i (by omega)).mp g) (by omega), fun _ => ?_⟩
    refine t189_38 (X := X) (d := d) (i := i) hs hj ht4 hto hnp hg hB rfl (fun _ _ => trivial) (eTo E s).2.length 0 r σ _ (by omega) hE W SS (fun σ1 o5 o6 K1 W1 => ?_) (fun hno σ1 K1 => H0 ?_ σ1 K1)
    · rw [← List.range_eq_range'] at W1
      rw [inc i (by omega)]
      exact ih (i + 1) _ σ1 o5 o6 (by omega) (hE.wd K1) W1 (fun q hq => (SS q hq).keep K1 id (fun y hy => hB y hy)) (fun ws h σ' K' W' => H1 ws h σ' (K1.tr K') W') (fun h σ' K' => H0 h σ' (K1.tr K'))
    · rw [← List.range_eq_range'] at hno
      rw [hno]; rfl
theorem t189 {E : mEv} {s job : Nat} {af : Nat → mT} (hE : sE σ E) (hs : s < 6) (hj : job < 96) (ht4 : sTl (eSt E s) < 4) (hto : tOk (eTo E s)) (hnp : (eTo E s).2.length ≤ 4) (hg : ∀ p, mt_gd (af p)) (hB : ∀ p, B p → ¬ wA job p) (h44 : σ.1 44 = 0) (SS : ∀ q, q < (eTo E s).2.length → mSlot σ B (137 + q) (mt_tk (af q) 0))
    (H1 : ∀ ws, aCmd (eTo E s).2 af = some ws → ∀ σ', wdK job σ σ' → wdS σ' job (some ws) → Q (some (.int 1)) σ') (H0 : aCmd (eTo E s).2 af = none → ∀ σ', wdK job σ σ' → Q (some (.int 0)) σ') : mM X (d + 7) 189 0 (mm_L0 189 [.ref 86, .int (nI s), .int (nI job)]) [] σ Q := by
  obtain ⟨_, _, e3, e4, _⟩ := id hE
  obtain ⟨a1, _⟩ := e4 s hs
  obtain ⟨b1, b2, b3⟩ := e3 _ ht4
  refine u189_0 ⟨m_ix hj (by decide), ?_⟩
  rintro σ2 rfl
  rw [uI_e (by omega)]
  have K0 : wdK job σ (mSet (uI σ 109 job 0) 43 1) := by
    refine ⟨fun k hk => ?_, fun b j hb hB => ?_, fun _ _ => rfl, fun s' hs' _ => ⟨?_, fun _ _ => rfl⟩⟩
    · show (if k = 43 then 1 else σ.1 k) = σ.1 k
      rw [if_neg (by omega)]
    · show (if b = 109 ∧ j = job then 0 else σ.2.1 b j) = σ.2.1 b j
      rw [if_neg (fun h => hB (Or.inl h))]
    · show (if 90 = 109 ∧ s' = job then 0 else σ.2.1 90 s') = σ.2.1 90 s'
      rw [if_neg (by omega)]
  have e96 : mGet (uI σ 109 job 0) 96 (nI s) = nI (sTl (eSt E s)) := by
    rw [mGet_e (by omega)]
    show (if (96 : Nat) = 109 ∧ s = job then 0 else σ.2.1 96 s) = _
    rw [if_neg (by omega)]; exact a1
  have e92 : mGet (uI σ 109 job 0) 92 (nI (sTl (eSt E s))) = nI (eTo E s).2.length := by
    rw [mGet_e (by omega)]
    show (if (92 : Nat) = 109 ∧ sTl (eSt E s) = job then 0 else σ.2.1 92 (sTl (eSt E s))) = _
    rw [if_neg (by omega)]; exact b2
  rw [e96]
  refine ⟨m_ix hs (by decide), m_ix ht4 (by decide), ?_⟩
  rintro σ5 rfl
  rw [e92]
  have W0 : wdS (mSet (uI σ 109 job 0) 43 1) job (some []) := by
    refine ⟨h44, rfl, by simp, ?_, fun i h => absurd h (by simp)⟩
    show (if (109 : Nat) = 109 ∧ job = job then 0 else _) = _
    rw [if_pos ⟨rfl, rfl⟩]; rfl
  have eC : aCmd (eTo E s).2 af = tR (some []) (aTs (eTo E s).2 af (((List.range' 0 19).map (fun i => (List.range (eTo E s).2.length).filter (fun q => ((eTo E s).2.getD q (0, 0, 0)).1 == nI i - 9))).flatten)) := by
    rw [← List.range_eq_range']; rfl
  rw [eC] at H1 H0
  exact t189_28 (X := X) (d := d) (Q := Q) hs hj ht4 hto hnp hg hB 19 0 (some []) _ none none (by omega) (hE.wd K0) W0 (fun q hq => (SS q hq).keep K0 id (fun y hy => hB y hy)) (fun ws h σ' K' W' => H1 ws h σ' (K0.tr K') W') (fun h σ' K' => H0 h σ' (K0.tr K'))
end RCM
