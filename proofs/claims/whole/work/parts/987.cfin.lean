/-! THE CLASS: a job ends -/
theorem arg_n {k : Int32} (h : ¬ k < 0) : ∃ n : Nat, n < 2 ^ 31 ∧ k = nI n := by
  have a : 0 ≤ k.toInt := by have := Int32.not_lt.mp h; exact Int32.le_iff_toInt_le.mp this
  have b := k.toInt_lt
  refine ⟨k.toInt.toNat, by omega, ?_⟩
  apply Int32.toInt_inj.mp
  rw [nI_toInt (by omega)]
  omega
theorem cA.app {hp hp' : mm_H} {E : mEv} {tr sr : Nat → Nat} {R : mRn} {JL : Nat → List Value} (h : cA hp E tr sr R JL) (F : cE (fun _ => False) hp hp') : cA hp' E tr sr R JL := by
  obtain ⟨s1, i1, r12, e⟩ := id h.2.2.1.1
  exact h.keepS (F.mono (fun x _ w => w.elim)) ⟨s1, i1, F.at r12 id, e⟩ (h.2.2.1.2.2.1.keep F id (fun s n hk j ws Jw hj x hx w => w.elim) rfl (fun s n _ => rfl)) rfl
theorem cN_kp {g : mPg} {n : Nat} {t : mT} (hn : n < gN g) (hr : gRs g n = none) : cN (gKp g n t) + 1 = cN g := by
  have key : ∀ (l : List Nat), l.Nodup → n ∈ l → (l.filter (fun k => (up (gRs g) n (some t) k).isNone)).length + 1 = (l.filter (fun k => (gRs g k).isNone)).length := by
    intro l
    induction l with
    | nil => intro _ h; exact absurd h (List.not_mem_nil)
    | cons a l ih =>
      intro hnd hm
      obtain ⟨h1, h2⟩ := List.nodup_cons.mp hnd
      by_cases e : a = n
      · subst e
        have e1 : (up (gRs g) a (some t) a).isNone = false := by rw [up_eq]; rfl
        have e2 : (gRs g a).isNone = true := by rw [hr]; rfl
        rw [List.filter_cons, e1, List.filter_cons, e2]
        have : l.filter (fun k => (up (gRs g) a (some t) k).isNone) = l.filter (fun k => (gRs g k).isNone) := by
          apply List.filter_congr
          intro x hx
          rw [up_ne (fun e => h1 (by rw [← e]; exact hx))]
        simp [this]
      · have hm' : n ∈ l := (List.mem_cons.mp hm).resolve_left (fun h => e h.symm)
        have := ih h2 hm'
        have e1 : (up (gRs g) n (some t) a).isNone = (gRs g a).isNone := by rw [up_ne e]
        rw [List.filter_cons, List.filter_cons, e1]
        split
        · rw [List.length_cons, List.length_cons]; omega
        · exact this
  exact key (List.range (gN g)) List.nodup_range (List.mem_range.mpr hn)
theorem gOk_kp {g : mPg} {n : Nat} {t : mT} (h : gOk g) (hn : n < gN g) (ht : mt_gd t) : gOk (gKp g n t) := by
  refine ⟨h.1, fun e => ?_, h.2.2⟩
  obtain ⟨a1, a2, a3, a4, a5, a6⟩ := h.2.1 e
  refine ⟨a1, a2, a3, a4, fun k t' hk => ?_, fun k hk hk2 => ?_⟩
  · have hk' : up (gRs g) n (some t) k = some t' := hk
    by_cases e : k = n
    · subst e; rw [up_eq] at hk'; cases hk'; exact ⟨hn, ht⟩
    · rw [up_ne e] at hk'; exact a5 k t' hk'
  · have hk' : up (gRs g) n (some t) k = none := hk2
    by_cases e : k = n
    · subst e; rw [up_eq] at hk'; cases hk'
    · rw [up_ne e] at hk'; exact a6 k hk hk'
theorem mem_eraseIdx {α : Type} {l : List α} {k : Nat} {x : α} (h : x ∈ l.eraseIdx k) : x ∈ l := (List.eraseIdx_subset) h
theorem nodup_erase {α : Type} {l : List α} {k : Nat} {x : α} (hnd : l.Nodup) (hk : l[k]? = some x) : x ∉ l.eraseIdx k := by
  intro h
  obtain ⟨hk1, hk2⟩ := List.getElem?_eq_some_iff.mp hk
  obtain ⟨i, hi, ei⟩ := List.getElem_of_mem h
  have : (l.eraseIdx k)[i]? = some x := by rw [List.getElem?_eq_getElem hi, ei]
  rw [List.getElem?_eraseIdx] at this
  split at this
  · obtain ⟨h1, h2⟩ := List.getElem?_eq_some_iff.mp this
    have := (List.getElem_inj hnd).mp (h2.trans hk2.symm)
    omega
  · obtain ⟨h1, h2⟩ := List.getElem?_eq_some_iff.mp this
    have := (List.getElem_inj hnd).mp (h2.trans hk2.symm)
    omega
/-- what finishing a job makes of its step -/
theorem aFg_ok {E : mEv} {R : mRn} {k s n : Nat} (hR : rOk E R) (hk : (nAc R)[k]? = some (s, n)) : gOk (aFg E R s n) ∧ (gPh (aFg E R s n) = 1 ∨ gPh (aFg E R s n) = 3 ∨ gPh (aFg E R s n) = 2) ∧ gCm (aFg E R s n) = gCm (nPg R s) ∧ gN (aFg E R s n) = gN (nPg R s) := by
  obtain ⟨r1, r2, r3, r4, r5, r6, r7, r8⟩ := id hR
  obtain ⟨b1, b2, b3, ⟨ws, b4, b4'⟩, b5, b6⟩ := r4 s n (List.mem_of_getElem? hk)
  unfold aFg
  split
  · exact ⟨⟨by show 3 ≤ 3; omega, fun e => absurd e (by show ¬ 3 = 1; omega), fun e => absurd e (by show ¬ 3 = 2; omega)⟩, Or.inr (Or.inl rfl), rfl, rfl⟩
  · rename_i t ht
    rw [b4] at ht
    have tg := aRes_gd b4' ht
    split
    · rename_i h1
      have g1 := gOk_kp (t := t) (r2 s) b5 tg
      refine ⟨gOk_se g1, ?_, by rw [gSe_cm]; rfl, ?_⟩
      · have := gSe_n0 (g := gKp (nPg R s) n t) (by show gPh (nPg R s) ≠ 0; omega)
        have := (gOk_se g1).1
        omega
      · unfold gSe
        split
        · split <;> rfl
        · rfl
    · exact ⟨r2 s, by omega, rfl, rfl⟩
theorem rOk_fin {E : mEv} {R : mRn} {k s n : Nat} (hR : rOk E R) (hk : (nAc R)[k]? = some (s, n)) : rOk E (rPg (aDe R k) s (aFg E R s n)) := by
  obtain ⟨f1, f2, f3, f4⟩ := aFg_ok (E := E) hR hk
  obtain ⟨r1, r2, r3, r4, r5, r6, r7, r8⟩ := id hR
  have hm := List.mem_of_getElem? hk
  obtain ⟨b1, b2, b3, ⟨ws, b4, b4'⟩, b5, b6⟩ := r4 s n hm
  refine ⟨r1, fun i => ?_, r3, fun i m hi => ?_, ?_, ?_, r7, fun i hi => ?_⟩
  · show gOk (up (nPg R) s (aFg E R s n) i)
    by_cases e : i = s
    · subst e; rw [up_eq]; exact f1
    · rw [up_ne e]; exact r2 i
  · have hi' : (i, m) ∈ (nAc R).eraseIdx k := hi
    have hi2 := mem_eraseIdx hi'
    obtain ⟨c1, c2, c3, ⟨ws', c4, c4'⟩, c5, c6⟩ := r4 i m hi2
    show i < nKn R ∧ m < 16 ∧ (gPh (up (nPg R) s (aFg E R s n) i) = 1 ∨ gPh (up (nPg R) s (aFg E R s n) i) = 3) ∧ (∃ ws, gCm (up (nPg R) s (aFg E R s n) i) m = some ws ∧ aWok ws) ∧ m < gN (up (nPg R) s (aFg E R s n) i) ∧ (gPh (up (nPg R) s (aFg E R s n) i) = 1 → gRs (up (nPg R) s (aFg E R s n) i) m = none ∧ gTk (up (nPg R) s (aFg E R s n) i) m = true)
    by_cases e : i = s
    · subst e
      rw [up_eq, f3, f4]
      have hmn : m ≠ n := fun e => by subst e; exact nodup_erase r5 hk hi'
      refine ⟨c1, c2, ?_, ⟨ws', c4, c4'⟩, c5, ?_⟩
      · unfold aFg
        split
        · exact Or.inr rfl
        · rename_i t ht
          split
          · rename_i h1
            unfold gSe
            split
            · rename_i hall
              have := List.all_eq_true.mp hall.2 m (List.mem_range.mpr c5)
              have e2 : gRs (gKp (nPg R i) n t) m = gRs (nPg R i) m := up_ne hmn
              rw [e2, (c6 h1).1] at this
              cases this
            · exact Or.inl h1
          · exact c3
      · unfold aFg
        split
        · intro h; exact absurd h (by show ¬ 3 = 1; omega)
        · rename_i t ht
          split
          · rename_i h1
            intro h
            rw [gSe_1 h]
            have e2 : gRs (gKp (nPg R i) n t) m = gRs (nPg R i) m := up_ne hmn
            rw [e2]
            exact c6 h1
          · exact c6
    · rw [up_ne e]; exact ⟨c1, c2, c3, ⟨ws', c4, c4'⟩, c5, c6⟩
  · show ((nAc R).eraseIdx k).Nodup
    exact List.Nodup.sublist (List.eraseIdx_sublist _ _) r5
  · show ((nAc R).eraseIdx k).length ≤ nWk R
    have := List.length_eraseIdx_le (nAc R) k
    omega
  · show gPh (up (nPg R) s (aFg E R s n) i) = 0
    have hi : nKn R ≤ i := hi
    rw [up_ne (by omega)]
    exact r8 i hi
section CFI
variable {X : List Int32} {d : Nat} {hp : mm_H} {Q : Option Value → mm_H → Prop}
theorem k100 {R : mRn} {JL : Nat → List Value} {k : Int32} (RN : cRn hp R JL) (H1 : ∀ n : Nat, k = nI n → n < (nAc R).length → ∀ s m j ws, (nAc R)[n]? = some (s, m) → gCm (nPg R s) m = some ws → cJw hp j s m ws → 113 ≤ j → Q (some (.ref j)) hp) (H0 : (∀ n : Nat, n < (nAc R).length → k ≠ nI n) → Q (some .null) hp) : mm_R X (d + 1) 100 0 (mm_L0 100 [.ref 12, .int k]) [] hp Q := by
  obtain ⟨⟨s1, i1', r12, _⟩, _, ⟨al, r53, a2, a3, a4, a5⟩, _⟩ := RN
  refine w100_0 ⟨fun h => H0 (fun n hn e => ?_), fun h => ?_⟩
  · subst e; exact absurd h (nI_nlt (a := n) (b := 0) (by omega) (by omega))
  · obtain ⟨n, hn, rfl⟩ := arg_n h
    refine ⟨_, _, _, rfl, r12, rfl, pk_le (nAc R).length n (fun g => H0 (fun m hm e => ?_)) (fun g => pk_lt n 3 (fun g3 => ?_) (fun g3 => absurd g3 (by omega)))⟩
    · have := (nI_eq hn (by omega)).mp e; omega
    · obtain ⟨⟨s, m⟩, e⟩ : ∃ p, (nAc R)[n]? = some p := ⟨_, List.getElem?_eq_getElem g⟩
      obtain ⟨j, ws, b1, b2, b3, b4⟩ := a5 n s m e
      exact ⟨_, _, _, rfl, r12, rfl, mw_avr r53 (by omega) rfl b1 rfl hn ⟨Or.inr ⟨_, rfl⟩, H1 n rfl g s m j ws e b2 b3 b4⟩⟩
/-- the row moves up -/
theorem k99_42 {R : mRn} {k j : Nat} {al : List Value} (hal : al.length = 3) (hlen : (nAc R).length ≤ 3) (hk : k < (nAc R).length) (hnr : ∀ v ∈ al, mw_nr v)
    (hjob : ∀ x, x < (nAc R).length → ∃ (y : Nat) (ws : List Value), al[x]? = some (.ref y) ∧ 113 ≤ y ∧ hp[y]? = some (9, ws))
    (H : ∀ hp' al', cE (fun x => x = 53) hp hp' → cH 0 0 hp hp' → hp'[12]? = some (3, rnL (aDe R k) (.ref 11) (.ref 3)) → hp'[53]? = some (2009, al') → al'.length = 3 → (∀ v ∈ al', mw_nr v) → (∀ x, x < (nAc R).length - 1 → al'[x]? = if x < k then al[x]? else al[x + 1]?) → ∀ o4 o5, mm_R X (d + 1) 99 42 [some (.ref 12), some (.int (nI k)), some (.ref j), some (.int (nI ((nAc R).length - 1))), o4, o5] [] hp' Q) :
    ∀ (m i : Nat) (hp2 : mm_H) (al2 : List Value) (o4 o5 : Option Value), i + m = (nAc R).length - 1 → k ≤ i → cE (fun x => x = 53) hp hp2 → cH 0 0 hp hp2 → hp2[12]? = some (3, rnL (aDe R k) (.ref 11) (.ref 3)) → hp2[53]? = some (2009, al2) → al2.length = 3 → (∀ v ∈ al2, mw_nr v) → (∀ x : Nat, al2[x]? = if k ≤ x ∧ x < i then al[x + 1]? else al[x]?) →
    mm_R X (d + 1) 99 42 [some (.ref 12), some (.int (nI k)), some (.ref j), some (.int (nI i)), o4, o5] [] hp2 Q := by
  have eL : (nAc (aDe R k)).length = (nAc R).length - 1 := by
    show ((nAc R).eraseIdx k).length = _
    rw [List.length_eraseIdx, if_pos hk]
  intro m
  induction m with
  | zero =>
    intro i hp2 al2 o4 o5 hm hki F G r12 r53 h3 hn2 hx
    have : i = (nAc R).length - 1 := by omega
    subst this
    refine H hp2 al2 F G r12 r53 h3 hn2 (fun x hx' => ?_) o4 o5
    rw [hx x]
    by_cases e : x < k
    · rw [if_pos e, if_neg (by omega)]
    · rw [if_neg e, if_pos (by omega)]
  | succ m ih =>
    intro i hp2 al2 o4 o5 hm hki F G r12 r53 h3 hn2 hx
    obtain ⟨y, ws, y1, y2, y3⟩ := hjob (i + 1) (by omega)
    have r12' := r12
    unfold rnL at r12'
    rw [eL] at r12'
    have g18 : al2[i + 1]? = some (.ref y) := by rw [hx, if_neg (by omega)]; exact y1
    have l53 := (List.getElem?_eq_some_iff.mp r53).1
    have F' : cE (fun x => x = 53) hp2 (hp2.set 53 (2009, al2.set i (.ref y))) := cE.set rfl
    refine w99_42 ⟨_, _, _, rfl, r12', rfl, pk_le ((nAc R).length - 1) i (fun g => absurd g (by omega)) (fun _ => ⟨_, _, _, rfl, r12', rfl, _, _, _, rfl, r12', rfl, mw_avr r53 (by omega) rfl g18 (by rw [nI_1]) (by omega) ⟨_, _, _, rfl, r53, by omega, rfl, nI_pos' (by omega), by rw [nI_clamp (by omega)]; omega, Or.inr ⟨y, 9, ws, rfl, F.at y3 (by omega), by omega, rfl⟩, ?_⟩⟩)⟩
    rw [nI_clamp (by omega), nI_1]
    refine ih (i + 1) _ _ _ _ (by omega) (by omega) (F.tr F') ((G.tr (show cH 0 0 hp2 (hp2.set 53 (2009, al2.set i (.ref y))) from ⟨by rw [List.length_set]; omega, by rw [mm_sz_set (c' := (2009, al2.set i (.ref y))) r53 (by simp)]; omega⟩)).mono (by omega) (by omega)) (by rw [List.getElem?_set_ne (by omega)]; exact r12) (List.getElem?_set_self l53) (by rw [List.length_set]; exact h3) ?_ ?_
    · intro v hv
      rcases List.mem_or_eq_of_mem_set hv with g | g
      · exact hn2 v g
      · exact Or.inr ⟨_, g⟩
    · intro x
      by_cases e : x = i
      · subst e
        rw [List.getElem?_set_self (by omega), if_pos (by omega)]; exact y1.symm
      · rw [List.getElem?_set_ne (fun h => e h.symm), hx]
        by_cases e2 : k ≤ x ∧ x < i
        · rw [if_pos e2, if_pos (by omega)]
        · rw [if_neg e2, if_neg (by omega)]
end CFI
