/-! THE CLASS SETTLES AND EXPANDS, with what holds of the run -/
theorem cN_all {g : mPg} : cN g = 0 ↔ gAll g = true := by
  unfold cN gAll
  rw [List.length_eq_zero_iff, List.filter_eq_nil_iff, List.all_eq_true]
  constructor
  · intro h n hn
    have := h n hn
    cases e : gRs g n with
    | none => rw [e] at this; exact absurd rfl this
    | some t => rfl
  · intro h n hn
    have := h n hn
    cases e : gRs g n with
    | none => rw [e] at this; cases this
    | some t => simp
theorem cN_le (g : mPg) : cN g ≤ gN g := by
  have := List.length_filter_le (fun n => (gRs g n).isNone) (List.range (gN g))
  rw [List.length_range] at this
  exact this
def NU (JL : Nat → List Value) : Nat := nul (JL 0) + (nul (JL 1) + (nul (JL 2) + (nul (JL 3) + (nul (JL 4) + nul (JL 5)))))
theorem NU_up {JL : Nat → List Value} {s : Nat} {jl : List Value} (hs : s < 6) : NU (up JL s jl) + nul (JL s) = NU JL + nul jl := by
  unfold NU
  match s, hs with
  | 0, _ => simp [up]; omega
  | 1, _ => simp [up]; omega
  | 2, _ => simp [up]; omega
  | 3, _ => simp [up]; omega
  | 4, _ => simp [up]; omega
  | 5, _ => simp [up]; omega
/-- growth, jobs still to be made set off -/
def cB (c w : Nat) (hp hp' : mm_H) (JL JL' : Nat → List Value) : Prop := hp'.length + 8 * NU JL' ≤ hp.length + 8 * NU JL + c ∧ mm_sz hp' + 208 * NU JL' ≤ mm_sz hp + 208 * NU JL + w
theorem cB.tr {a b c w : Nat} {x y z : mm_H} {J K L : Nat → List Value} (h : cB a b x y J K) (k : cB c w y z K L) : cB (a + c) (b + w) x z J L := ⟨by have := h.1; have := k.1; omega, by have := h.2; have := k.2; omega⟩
theorem cB.mono {a b c w : Nat} {x y : mm_H} {J K : Nat → List Value} (h : cB a b x y J K) (h1 : a ≤ c) (h2 : b ≤ w) : cB c w x y J K := ⟨by have := h.1; omega, by have := h.2; omega⟩
theorem cH.b {c w : Nat} {x y : mm_H} {J : Nat → List Value} (h : cH c w x y) : cB c w x y J J := ⟨by have := h.1; omega, by have := h.2; omega⟩
def wRun (x : Nat) : Prop := x = 12 ∨ x = 53 ∨ (21 ≤ x ∧ x ≤ 51) ∨ (56 ≤ x ∧ x ≤ 85) ∨ 113 ≤ x
section CSX
variable {X : List Int32} {d : Nat} {hp : mm_H} {Q : Option Value → mm_H → Prop}
theorem k92 {s : Nat} {g : mPg} {jl : List Value} (hs : s < 6) (hg : gOk g) (P : cPr hp s g jl) (hL : 52 ≤ hp.length)
    (H : ∀ hp', cE (fun x => x = 56 + 5 * s) hp hp' → cH 146 1095 hp hp' → cPr hp' s (gSe g) jl → Q none hp') : mm_R X (d + 9) 92 0 (mm_L0 92 [.ref (56 + 5 * s)]) [] hp Q := by
  obtain ⟨lv, jc, oc, nj, tk, out, rl, PV, JS, RS, hr, ho, e0, z0, z1, z2⟩ := id P
  obtain ⟨ls, p0, _⟩ := id PV
  have hg1 := hg.1
  have stay : gSe g = g → Q none hp := fun e => H hp cE.rf (cH.rf.mono (by omega) (by omega)) (by rw [e]; exact P)
  refine w92_0 ⟨rfl, _, _, _, rfl, p0, rfl, pk_ne (gPh g) 1 (fun h1 => ?_) (fun h1 => stay (if_neg (fun h => h1 h.1)))⟩
  obtain ⟨a1, a2, a3, a4, a5, a6⟩ := z1 h1
  obtain ⟨b1, b2, b3, b4, b5, b6⟩ := hg.2.1 h1
  have hcn := cN_le g
  refine ⟨_, _, _, rfl, p0, rfl, ?_⟩
  rw [a3]
  refine pk_ne (cN g) 0 (fun h0 => ?_) (fun h0 => stay (if_neg (fun h => h0 (cN_all.mpr h.2))))
  have hall := cN_all.mp h0
  have ml : aMl lv ≤ 73 := by
    rw [a1]
    rcases b4 with g1 | g1
    · exact aMl_le b3 g1 (by omega)
    · rw [g1]; show (if gN g = 0 then 0 else 1 + gN g * 0) ≤ 73; split <;> omega
  have h16 : ∀ n ∈ lv, n ≤ 16 := by
    rw [a1]
    rcases b4 with g1 | g1
    · intro n hn; have := g1 n hn; omega
    · rw [g1]; intro n hn; rw [List.mem_singleton.mp hn]; exact b1
  have esome : ∀ i, i < gN g → ∃ t, gRs g i = some t := fun i hi => by
    have := List.all_eq_true.mp hall i (List.mem_range.mpr hi)
    exact Option.isSome_iff_exists.mp this
  have eT : aNs (fun i => (gRs g i).getD (.leaf none)) lv 0 = gTr g := by rw [a1]; rfl
  refine ⟨⟨_, _, rfl, p0⟩, k93 (rs := fun i => (gRs g i).getD (.leaf none)) hs (by rw [a1]; exact b3) h16 (by rw [a1]; omega) (fun i => mt_gd_dp (gRs_gd b5 i)) PV RS (fun i hi => ?_) e0 hL ?_ ?_⟩
  · rw [a1, b2] at hi
    obtain ⟨t, et⟩ := esome i hi
    obtain ⟨q, q1, q2, q3⟩ := (a5 i (by omega)).2 t et
    refine ⟨(mt_gd_iff.mp (gRs_gd b5 i)).1, q, q1, q2, ?_⟩
    show cT cS hp ((gRs g i).getD (.leaf none)) q
    rw [et]; exact q3
  · intro ok hp' q tk' E G P' T hq
    rw [eT] at ok T
    have eS : gSe g = (2, gLv g, gN g, gCm g, gRs g, gTk g, gTr g) := by unfold gSe; rw [if_pos ⟨h1, hall⟩, if_pos (okB_iff.mpr ok)]
    refine ⟨rfl, H hp' E (G.mono (by omega) (by omega)) ?_⟩
    rw [eS]
    refine ⟨lv, jc, oc, nj, tk', .ref q, rl, P', ⟨E.at JS.1 (by omega), JS.2.1, fun n hn => ?_⟩, ⟨E.at RS.1 (by omega), RS.2⟩, hr, Or.inr ⟨_, rfl⟩, E.at e0 (by omega), fun h => absurd h (by show ¬ 2 = 0; omega), fun h => absurd h (by show ¬ 2 = 1; omega), fun _ => ⟨q, rfl, hq, T⟩⟩
    rcases JS.2.2 n hn with e | ⟨j, ws, e, Jw, hj⟩
    · exact Or.inl e
    · exact Or.inr ⟨j, ws, e, Jw.keep E (by omega) (by omega) (by omega), hj⟩
  · intro nok hp' tk' E G P'
    rw [eT] at nok
    have eS : gSe g = (3, g.2) := by unfold gSe; rw [if_pos ⟨h1, hall⟩, if_neg (fun h => nok (okB_iff.mp h))]
    refine ⟨rfl, H hp' E (G.mono (by omega) (by omega)) ?_⟩
    rw [eS]
    refine ⟨lv, jc, oc, nj, tk', .null, rl, P', ⟨E.at JS.1 (by omega), JS.2.1, fun n hn => ?_⟩, ⟨E.at RS.1 (by omega), RS.2⟩, hr, Or.inl rfl, E.at e0 (by omega), fun h => absurd h (by show ¬ 3 = 0; omega), fun h => absurd h (by show ¬ 3 = 1; omega), fun h => absurd h (by show ¬ 3 = 2; omega)⟩
    rcases JS.2.2 n hn with e | ⟨j, ws, e, Jw, hj⟩
    · exact Or.inl e
    · exact Or.inr ⟨j, ws, e, Jw.keep E (by omega) (by omega) (by omega), hj⟩
end CSX
/-- what an expansion may change -/
theorem cPr.qy {hp : mm_H} {s : Nat} {g : mPg} {jl : List Value} (hs : s < 6) (P : cPr hp s g jl) : qY hp (wX s jl) ∧ (∀ s', s' < 6 → s' ≠ s → qP hp s' (wX s jl)) ∧ ∀ x, wX s jl x → wRun x := by
  obtain ⟨lv, jc, oc, nj, tk, out, rl, ⟨ls, p0, p1, _⟩, ⟨j0, j1, j2⟩, ⟨r0, _⟩, _⟩ := P
  have jin : ∀ j : Nat, Value.ref j ∈ jl → ∃ n ws, cJw hp j s n ws ∧ 113 ≤ j ∧ n < 16 := fun j hj => by
    obtain ⟨n, hn, en⟩ := List.getElem_of_mem hj
    rcases j2 n hn with e | ⟨j', ws, e, Jw, hj'⟩
    · rw [en] at e; cases e
    · rw [en] at e; cases e; exact ⟨n, ws, Jw, hj', by omega⟩
  refine ⟨fun x hx w => ?_, fun s' hs' hne x hx w => ?_, fun x w => ?_⟩
  · rcases w with w | w | ⟨j, hj, w⟩
    · exact Or.inl w
    · right
      refine ⟨?_, Or.inl (by omega)⟩
      have : x = 56 + 5 * s ∨ x = 57 + 5 * s ∨ x = 58 + 5 * s ∨ x = 59 + 5 * s := by omega
      rcases this with rfl | rfl | rfl | rfl
      · exact nV.of p0 (by decide) (by decide) (by decide)
      · exact nV.of j0 (by decide) (by decide) (by decide)
      · rw [show 58 + 5 * s = 57 + 5 * s + 1 by omega] at r0 ⊢
        exact nV.of2 r0 (by decide) j0 (by decide)
      · exact nV.of p1 (by decide) (by decide) (by decide)
    · obtain ⟨n, ws, Jw, hj', _⟩ := jin j hj
      exact Or.inr ⟨Jw.nV x hx w, Or.inr (Jw.isJ w)⟩
  · rcases w with w | w | ⟨j, hj, w⟩
    · unfold wE at w
      exact ⟨by omega, fun j n ws _ h h' => by unfold wJ at h'; omega⟩
    · exact ⟨by omega, fun j n ws _ h h' => by unfold wJ at h'; omega⟩
    · obtain ⟨n, ws, Jw, hj', hn⟩ := jin j hj
      refine ⟨by unfold wJ at w; omega, fun j' n' ws' Jw' h' w' => ?_⟩
      by_cases e : j' = j
      · subst e
        obtain ⟨lb, jk, ej, a, _⟩ := Jw
        obtain ⟨lb', jk', ej', a', _⟩ := Jw'
        rw [a] at a'
        simp only [Option.some.injEq, Prod.mk.injEq, List.cons.injEq, Value.int.injEq, true_and] at a'
        exact hne ((nI_eq (by omega) (by omega)).mp a'.1).symm
      · exact Jw'.dis Jw e x w' w
  · rcases w with w | w | ⟨j, hj, w⟩
    · unfold wE at w; unfold wRun; omega
    · unfold wRun; omega
    · obtain ⟨n, ws, Jw, hj', hn⟩ := jin j hj
      unfold wJ at w; unfold wRun; omega
/-- the class, whole but for its draft -/
def cA (hp : mm_H) (E : mEv) (tr sr : Nat → Nat) (R : mRn) (JL : Nat → List Value) : Prop := cEx hp ∧ cEn hp E tr sr ∧ cRn hp R JL ∧ 113 ≤ hp.length
theorem cAct.keep {hp hp' : mm_H} {W : Nat → Prop} {R R' : mRn} (h : cAct hp R) (F : cE W hp hp') (h53 : ¬ W 53) (hj : ∀ s n, (s, n) ∈ nAc R → ∀ j ws, cJw hp j s n ws → 113 ≤ j → ∀ x, x < hp.length → W x → ¬ wJ j x) (eA : nAc R' = nAc R) (eC : ∀ s n, (s, n) ∈ nAc R → gCm (nPg R' s) n = gCm (nPg R s) n) : cAct hp' R' := by
  obtain ⟨al, a1, a2, a3, a4, a5⟩ := h
  refine ⟨al, F.at a1 h53, a2, a3, by rw [eA]; exact a4, fun k s n hk => ?_⟩
  rw [eA] at hk
  have hm := List.mem_of_getElem? hk
  obtain ⟨j, ws, b1, b2, b3, b4⟩ := a5 k s n hk
  refine ⟨j, ws, b1, by rw [eC s n hm]; exact b2, ?_, b4⟩
  obtain ⟨lb, jk, ej, c1, c2, _, c3, _⟩ := id b3
  exact b3.keep F (fun w => hj s n hm j ws b3 b4 _ (List.getElem?_eq_some_iff.mp c1).1 w (Or.inl rfl)) (fun w => hj s n hm j ws b3 b4 _ (List.getElem?_eq_some_iff.mp c2).1 w (Or.inr (Or.inl rfl))) (fun w => hj s n hm j ws b3 b4 _ (List.getElem?_eq_some_iff.mp c3).1 w (Or.inr (Or.inr rfl)))
/-- a change of one progress and its jobs -/
theorem cA.step {hp hp' : mm_H} {E : mEv} {tr sr : Nat → Nat} {R R' : mRn} {JL : Nat → List Value} {s : Nat} {jl : List Value} (hs : s < 6) (h : cA hp E tr sr R JL) (F : cE (wX s (JL s)) hp hp') (EX : cEx hp') (P : cPr hp' s (nPg R' s) jl) (hR : nSt R' = nSt R ∧ nWk R' = nWk R ∧ nKn R' = nKn R ∧ nBg R' = nBg R ∧ nAc R' = nAc R ∧ nFl R' = nFl R) (hP : ∀ k, k ≠ s → nPg R' k = nPg R k) (hn : ∀ k n, (k, n) ∈ nAc R → k ≠ s ∧ k < 6) : cA hp' E tr sr R' (up JL s jl) := by
  obtain ⟨h1, h2, ⟨h3, h4, h5, h6⟩, h7⟩ := h
  obtain ⟨q1, q2, q3⟩ := (h6 s hs).qy hs
  have h20 : ∃ cs, hp[20]? = some (2002, cs) := ⟨_, h1.2.2.2.1⟩
  have nw : ∀ x, x < 21 ∨ x = 52 ∨ x = 53 ∨ x = 54 ∨ x = 55 → ¬ wX s (JL s) x := fun x hx w => by
    rcases w with w | w | ⟨j, hj, w⟩
    · unfold wE at w; omega
    · omega
    · obtain ⟨lv, jc, oc, nj, tk, out, rl, _, ⟨j0, j1, j2⟩, _⟩ := h6 s hs
      obtain ⟨n, hn', en⟩ := List.getElem_of_mem hj
      rcases j2 n hn' with e | ⟨j', ws, e, Jw, hj'⟩
      · rw [en] at e; cases e
      · rw [en] at e; cases e; unfold wJ at w; omega
  refine ⟨EX, h2.keepY h20 F q1 (nw 3 (by omega)) (nw 10 (by omega)) (nw 11 (by omega)), ⟨?_, F.at h4 (nw 52 (by omega)), ?_, fun k hk => ?_⟩, by have := F.1; omega⟩
  · obtain ⟨sr', ir, a, b⟩ := h3
    obtain ⟨e1, e2, e3, e4, e5, e6⟩ := hR
    refine ⟨sr', ir, F.at ?_ (nw 12 (by omega)), ?_⟩
    · unfold rnL at a ⊢; rw [e1, e2, e3, e4, e5, e6]; exact a
    · rw [e1]; exact b
  · refine h5.keep F (nw 53 (by omega)) (fun k n hk j ws Jw hj x hx w => ?_) hR.2.2.2.2.1 (fun k n hk => by rw [hP k (hn k n hk).1])
    exact (q2 k (hn k n hk).2 (hn k n hk).1 x hx w).2 j n ws Jw hj
  · by_cases e : k = s
    · subst e; rw [up_eq]; exact P
    · rw [up_ne e, hP k e]
      exact (h6 k hk).keepY h20 F q1 (q2 k hk e)
