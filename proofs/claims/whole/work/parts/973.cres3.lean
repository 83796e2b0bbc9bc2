/-! THE CLASS'S RESULTS: lists of words; all -/
theorem rX_iff {w : List Nat} (h : w.length ≤ 24) : rX w = if ∀ c ∈ w, 32 ≤ c ∧ c ≤ 126 ∧ c ≠ 34 ∧ c ≠ 92 then some (.leaf (some (.inr w))) else none := by
  unfold rX
  by_cases g : ∀ c ∈ w, 32 ≤ c ∧ c ≤ 126 ∧ c ≠ 34 ∧ c ≠ 92
  · rw [if_pos g, if_pos ⟨h, g⟩]
  · rw [if_neg g, if_neg (fun x => g x.2)]
theorem aIt_all : ∀ {ws : List (List Nat)} {ts : List mT}, aIt ws = some ts → ts.length = ws.length ∧ ∀ t ∈ ts, mt_gd t ∧ mt_dp t < 3
  | [], ts, h => by cases h; exact ⟨rfl, fun t ht => nomatch ht⟩
  | w :: ws, ts, h => by
    have h' : (rX w).bind (fun t => (aIt ws).map (fun l => t :: l)) = some ts := h
    rw [Option.bind_eq_some_iff] at h'
    obtain ⟨t, h1, h2⟩ := h'
    rw [Option.map_eq_some_iff] at h2
    obtain ⟨l, h3, e⟩ := h2
    subst e
    obtain ⟨a, b⟩ := aIt_all h3
    refine ⟨by simp [a], fun x hx => ?_⟩
    rcases List.mem_cons.mp hx with rfl | hx
    · refine ⟨mt_g_gd (rX_g h1), ?_⟩
      unfold rX at h1
      split at h1
      · cases h1; rw [mt_dp_leaf]; omega
      · cases h1
    · exact b x hx
theorem aRes_gd {k : Nat} {ws : List (List Nat)} {t : mT} (hw : aWok ws) (h : aRes k ws = some t) : mt_gd t := by
  unfold aRes at h
  split at h
  · exact mt_g_gd (rX_g h)
  · split at h
    · cases h
      have rg := (mn_rg (a := ws.length) (by have := hw.1; omega)).1
      have lg : mt_lg (some (.inl (nI ws.length))) := rg
      exact mt_gl_leaf lg
    · split at h
      · rw [Option.bind_eq_some_iff] at h
        obtain ⟨n, _, h⟩ := h
        unfold aNu at h
        split at h
        · rename_i hc
          cases h
          have lg : mt_lg (some (.inl n)) := hc
          exact mt_gl_leaf lg
        · cases h
      · rw [Option.map_eq_some_iff] at h
        obtain ⟨ts, h1, e⟩ := h
        subst e
        obtain ⟨a, b⟩ := aIt_all h1
        exact mt_gd_mk (fun e he => (b e he).1) (by have := hw.1; omega) (fun e he => (b e he).2)
theorem tag_ne {hp : mm_H} {x y : Nat} {c e : mm_C} (h : hp[x]? = some c) (k : hp[y]? = some e) (g : c.1 ≠ e.1) : x ≠ y := by
  rintro rfl
  rw [h] at k
  cases k
  exact g rfl
section CR3
variable {X : List Int32} {d : Nat} {hp : mm_H} {Q : Option Value → mm_H → Prop}
theorem k107_10 {j s n r : Nat} {ws : List (List Nat)} (hw : aWok ws) (hr : 113 ≤ r) : ∀ (us vs : List (List Nat)) (xs : List mT) (hp : mm_H) (o3 : Option Value), ws = vs ++ us → cJw hp j s n ws → cO (fun x => r + 2 ≤ x) hp r xs ws.length → xs.length = vs.length → (∀ x ∈ xs, mt_dp x ≤ 3) → r + 2 ≤ hp.length →
    (∀ ts, aIt us = some ts → ∀ hp', cE (fun x => r ≤ x) hp hp' → cG (2 * us.length) hp hp' → cT (fun x => r + 2 ≤ x) hp' (mt_mk (xs ++ ts)) r → Q (some (.ref r)) hp') →
    (aIt us = none → ∀ hp', cE (fun x => r ≤ x) hp hp' → cG (2 * us.length) hp hp' → Q (some .null) hp') →
    mm_R X (d + 4) 107 10 [some (.ref j), some (.ref r), some (.int (nI vs.length)), o3] [] hp Q := by
  have h8 := hw.1
  intro us
  induction us with
  | nil =>
    intro vs xs hp o3 ew J O hxl hxd hrl H1 H0
    rw [List.append_nil] at ew
    subst ew
    obtain ⟨lb, jk, ej, a, _⟩ := id J
    exact w107_10 ⟨j, _, _, rfl, a, rfl, ⟨fun _ => ⟨rfl, Or.inr ⟨_, rfl⟩, H1 [] rfl hp cE.rf (cG.rf.mono (by omega)) (by simpa using O.t)⟩, fun g => absurd (Int32.le_refl _) g⟩⟩
  | cons w us ih =>
    intro vs xs hp o3 ew J O hxl hxd hrl H1 H0
    obtain ⟨lb, jk, ej, a, bb, c, e, f, _⟩ := id J
    obtain ⟨no, io, z1, z2, _⟩ := id O
    have hwl : ws.length = vs.length + (us.length + 1) := by rw [ew]; simp
    have hwm := hw.2 w (by rw [ew]; simp)
    have hwc : ∀ c ∈ w, c < 65536 := fun c hc => by have := hwm.2 c hc; omega
    have J' : cJw hp j s n (vs ++ w :: us) := by rw [← ew]; exact J
    have hfl : ws.flatten.length = vs.flatten.length + (w.length + us.flatten.length) := by rw [ew]; simp only [List.flatten_append, List.flatten_cons, List.length_append]
    have eI : aIt (w :: us) = (rX w).bind (fun t => (aIt us).map (fun l => t :: l)) := rfl
    rw [eI, rX_iff hwm.1] at H1 H0
    rw [List.length_cons] at H1 H0
    refine w107_10 ⟨j, _, _, rfl, a, rfl, pk_le ws.length vs.length (fun g => absurd g (by omega)) (fun _ => ⟨J.rc rfl, k104 J' (by rw [← ew]; exact h8) ⟨_, rfl, J.rc rfl, k105 J' (by rw [← ew]; exact h8) ⟨_, rfl, ?_⟩⟩⟩)⟩
    dsimp only
    rw [pk_sub (by omega), show vs.flatten.length + w.length - vs.flatten.length = w.length by omega]
    refine k7 hwm.1 ?_
    rintro q rfl
    have E0 : cE (fun x => r ≤ x) hp (hp ++ [((2 : Nat), [Value.ref (hp.length + 1), .null, .int 2, .int 0, .int 0, .int 0, .int 2]), ((1001 : Nat), Value.int 34 :: .int 34 :: List.replicate w.length (.int 0))]) := cE.app
    have E0' : ∀ W : Nat → Prop, cE W hp (hp ++ [((2 : Nat), [Value.ref (hp.length + 1), .null, .int 2, .int 0, .int 0, .int 0, .int 2]), ((1001 : Nat), Value.int 34 :: .int 34 :: List.replicate w.length (.int 0))]) := fun W => cE.app
    have G0 : cG 2 hp (hp ++ [((2 : Nat), [Value.ref (hp.length + 1), .null, .int 2, .int 0, .int 0, .int 0, .int 2]), ((1001 : Nat), Value.int 34 :: .int 34 :: List.replicate w.length (.int 0))]) := c2_appG (by simp only [List.length_cons, List.length_nil, List.length_replicate]; omega)
    have T0 : cTx (hp ++ [((2 : Nat), [Value.ref (hp.length + 1), .null, .int 2, .int 0, .int 0, .int 0, .int 2]), ((1001 : Nat), Value.int 34 :: .int 34 :: List.replicate w.length (.int 0))]) hp.length [] (List.replicate w.length (.int 0)) := ⟨.int 0, c2_app0, c2_app1, ⟨0, rfl⟩, by rw [List.length_replicate]; omega⟩
    have J0 := (J'.keep (E0' mN1) id id id)
    have O0 := O.keep (E0' mN1) id id (fun q _ => ⟨id, id⟩)
    refine ⟨_, rfl, rfl, J0.rc rfl, k103 (R := w.length) hwm.1 (by rw [← ew]; exact h8) hwc J0 T0 (by simp) ?_ ?_⟩
    · intro a1 a2 hp1 junk1 E1 G1 T1 r1
      rw [List.nil_append] at T1
      have E01 : cE (fun _ => False) hp hp1 := (E0' _).tr2 E1 (fun x hx h => by omega)
      have O1 : cO (fun x => r + 2 ≤ x) hp1 r xs ws.length := O.keep E01 id id (fun q _ => ⟨id, id⟩)
      have J1 := J'.keep E01 id id id
      have a2 : ∀ c ∈ w, 32 ≤ c ∧ c ≤ 126 ∧ c ≠ 34 ∧ c ≠ 92 := a2
      have dx : mt_dp (mt_mk xs) ≤ 100 := by
        have := mt_dp_mk3 hxd
        omega
      obtain ⟨no1, io1, y1, y2, _⟩ := id O1
      refine ⟨_, rfl, fun g => absurd g (by decide), fun _ => ⟨rfl, ⟨r, _, rfl, y1⟩, k32 O1 T1.t (by show r + 2 ≤ hp.length; exact hrl) (by omega) (by rw [mt_dp_leaf]; omega) dx ?_ ?_⟩⟩
      · intro _ _ hp2 E2 G2 O2
        obtain ⟨lb1, jk1, ej1, a1', b1', _, e1', _⟩ := id J1
        have dj : ∀ y, y = j ∨ y = j + 1 ∨ y = j + 2 → ¬ (y = r ∨ y = r + 1) := by
          intro y hy hr'
          have n1 := tag_ne a1' y1 (by simp)
          have n2 := tag_ne a1' y2 (by simp)
          have n3 := tag_ne b1' y1 (by simp)
          have n4 := tag_ne b1' y2 (by simp)
          have n5 := tag_ne e1' y1 (by simp)
          have n6 := tag_ne e1' y2 (by simp)
          omega
        have J2 := J1.keep E2 (dj _ (Or.inl rfl)) (dj _ (Or.inr (Or.inl rfl))) (dj _ (Or.inr (Or.inr rfl)))
        rw [← ew] at J2
        have EE : cE (fun x => r ≤ x) hp hp2 := (E01.mono (fun x _ h => h.elim)).tr (E2.mono (fun x _ h => by omega))
        have GG : cG 2 hp hp2 := ((G0.tr G1).tr G2).mono (by omega)
        refine ⟨_, rfl, fun _ => ?_, fun g => absurd g (by decide)⟩
        rw [show (nI vs.length + 1 : Int32) = nI (vs ++ [w]).length by rw [nI_1, List.length_append]; rfl]
        refine ih (vs ++ [w]) (xs ++ [.leaf (some (.inr w))]) hp2 _ (by rw [ew]; simp) J2 O2 (by simp [hxl]) ?_ (by have := EE.1; omega) ?_ ?_
        · intro x hx
          rcases List.mem_append.mp hx with hx | hx
          · exact hxd x hx
          · rw [List.mem_singleton.mp hx, mt_dp_leaf]; omega
        · intro ts ets hp3 E3 G3 T3
          rw [List.append_assoc] at T3
          exact H1 _ (by rw [if_pos a2, ets]; rfl) hp3 (EE.tr2 E3 (fun x _ h => h)) ((GG.tr G3).mono (by omega)) T3
        · intro en hp3 E3 G3
          exact H0 (by rw [if_pos a2, en]; rfl) hp3 (EE.tr2 E3 (fun x _ h => h)) ((GG.tr G3).mono (by omega))
      · intro hno _
        exact absurd ⟨by omega, by rw [mt_dp_leaf]; omega⟩ hno
    · intro hno hp1 E1 G1
      refine ⟨_, rfl, fun _ => H0 ?_ hp1 ((E0).tr (E1.mono (fun x _ h => by omega))) ((G0.tr G1).mono (by omega)), fun g => absurd rfl g⟩
      rw [if_neg (fun g => hno ⟨by simp, fun c hc => g c hc⟩)]; rfl
theorem k107 {j s n : Nat} {ws : List (List Nat)} (hw : aWok ws) (J : cJw hp j s n ws) (h0 : 113 ≤ hp.length)
    (H1 : ∀ ts, aIt ws = some ts → ∀ hp' q, cE (fun _ => False) hp hp' → cG 20 hp hp' → q = hp.length → cT cS hp' (mt_mk ts) q → Q (some (.ref q)) hp')
    (H0 : aIt ws = none → ∀ hp', cE (fun _ => False) hp hp' → cG 20 hp hp' → Q (some .null) hp') : mm_R X (d + 4) 107 0 (mm_L0 107 [.ref j]) [] hp Q := by
  have h8 := hw.1
  obtain ⟨lb, jk, ej, a, bb, c, e, f, _⟩ := id J
  cases ws with
  | nil =>
    refine w107_0 ⟨j, _, _, rfl, a, rfl, k9z ?_⟩
    rintro q rfl
    refine ⟨_, rfl, rfl, ?_⟩
    have J1 := J.keep (hp' := hp ++ [((2 : Nat), [Value.null, .null, .int 3, .int 0, .int 0, .int 1, .int 2])]) (W := fun _ => False) cE.app id id id
    obtain ⟨lb1, jk1, ej1, a1, _⟩ := id J1
    refine w107_10 ⟨j, _, _, rfl, a1, rfl, ⟨fun _ => ⟨rfl, Or.inr ⟨_, rfl⟩, H1 [] rfl _ _ cE.app (⟨by simp, by rw [mm_sz_push]; simp only [List.length_cons, List.length_nil]; omega⟩) rfl ?_⟩, fun g => absurd (Int32.le_refl _) g⟩⟩
    exact (cT_list (mt_isL_mk [])).mpr ⟨0, .null, by simp; exact ⟨rfl, rfl, rfl⟩, Or.inl ⟨rfl, by rw [mt_els_mk]⟩⟩
  | cons w us =>
    refine w107_0 ⟨j, _, _, rfl, a, rfl, k9 (by simp) h8 ?_⟩
    rintro q rfl
    refine ⟨_, rfl, rfl, ?_⟩
    have J1 := J.keep (hp' := hp ++ [((2 : Nat), [Value.null, .ref (hp.length + 1), .int 3, .int 0, .int 0, .int 1, .int 2]), ((2002 : Nat), List.replicate (w :: us).length Value.null)]) (W := fun _ => False) cE.app id id id
    have G1 : cG 2 hp (hp ++ [((2 : Nat), [Value.null, .ref (hp.length + 1), .int 3, .int 0, .int 0, .int 1, .int 2]), ((2002 : Nat), List.replicate (w :: us).length Value.null)]) := c2_appG (by simp only [List.length_cons, List.length_nil, List.length_replicate]; simp only [List.length_cons] at h8; omega)
    have O1 : cO (fun x => hp.length + 2 ≤ x) (hp ++ [((2 : Nat), [Value.null, .ref (hp.length + 1), .int 3, .int 0, .int 0, .int 1, .int 2]), ((2002 : Nat), List.replicate (w :: us).length Value.null)]) hp.length [] (w :: us).length := ⟨0, _, c2_app0, c2_app1, List.length_replicate, h8, fun j h => absurd h (Nat.not_lt_zero _)⟩
    refine k107_10 (r := hp.length) hw h0 (w :: us) [] [] _ _ rfl J1 O1 rfl (fun x hx => nomatch hx) (by simp) ?_ ?_
    · intro ts ets hp2 E2 G2 T2
      have EE : cE (fun _ => False) hp hp2 := cE.app.tr2 E2 (fun x hx h => by omega)
      exact H1 ts ets hp2 _ EE ((G1.tr G2).mono (by omega)) rfl (T2.mono (fun q _ h => by right; omega))
    · intro en hp2 E2 G2
      have EE : cE (fun _ => False) hp hp2 := cE.app.tr2 E2 (fun x hx h => by omega)
      exact H0 en hp2 EE ((G1.tr G2).mono (by omega))
theorem k101 {j s n k : Nat} {ws : List (List Nat)} (hk : k < 4) (hw : aWok ws) (J : cJw hp j s n ws) (h0 : 113 ≤ hp.length)
    (H1 : ∀ t, aRes k ws = some t → ∀ hp' q, cE (fun _ => False) hp hp' → cG 20 hp hp' → q = hp.length → cT cS hp' t q → Q (some (.ref q)) hp')
    (H0 : aRes k ws = none → ∀ hp', cE (fun _ => False) hp hp' → cG 20 hp hp' → Q (some .null) hp') : mm_R X (d + 5) 101 0 (mm_L0 101 [.ref j, .int (nI k)]) [] hp Q := by
  obtain ⟨lb, jk, ej, a, bb, c, e, f, _⟩ := id J
  have t0 : ∀ m : Nat, m < 4 → (nI m).toInt = m := fun m hm => by
    match m, hm with
    | 0, _ => rfl
    | 1, _ => rfl
    | 2, _ => rfl
    | 3, _ => rfl
  have ek := t0 k hk
  refine w101_0 ⟨fun g => absurd g (by omega), fun g => ?_, fun g => ?_, fun g => ?_, fun g => ?_⟩
  · have k0 : k = 0 := by omega
    subst k0
    have eR : aRes 0 ws = rX (aJs ws) := rfl
    rw [eR] at H1 H0
    refine ⟨J.rc rfl, w102_0 (k7 (room := 24) (by omega) ?_)⟩
    rintro q rfl
    have T0 : cTx (hp ++ [((2 : Nat), [Value.ref (hp.length + 1), .null, .int 2, .int 0, .int 0, .int 0, .int 2]), ((1001 : Nat), Value.int 34 :: .int 34 :: List.replicate 24 (.int 0))]) hp.length [] (List.replicate 24 (.int 0)) := ⟨.int 0, c2_app0, c2_app1, ⟨0, rfl⟩, by rw [List.length_replicate]; omega⟩
    have G0 : cG 2 hp (hp ++ [((2 : Nat), [Value.ref (hp.length + 1), .null, .int 2, .int 0, .int 0, .int 0, .int 2]), ((1001 : Nat), Value.int 34 :: .int 34 :: List.replicate 24 (.int 0))]) := c2_appG (by simp only [List.length_cons, List.length_nil, List.length_replicate]; omega)
    refine ⟨_, rfl, rfl, k102_8 hw ws [] _ _ rfl (J.keep (W := fun _ => False) cE.app id id id) T0 (by rw [List.length_replicate]; rfl) (fun c hc => nomatch hc) ?_ ?_⟩
    · intro t et hp1 E1 G1 T1
      exact ⟨_, rfl, Or.inr ⟨_, rfl⟩, H1 t et hp1 _ (cE.app.tr2 E1 (fun x hx h => by omega)) ((G0.tr G1).mono (by omega)) rfl T1⟩
    · intro en hp1 E1 G1
      exact ⟨_, rfl, Or.inl rfl, H0 en hp1 (cE.app.tr2 E1 (fun x hx h => by omega)) ((G0.tr G1).mono (by omega))⟩
  · have k1 : k = 1 := by omega
    subst k1
    refine ⟨j, _, _, rfl, a, rfl, k39 ?_ ?_⟩
    · rintro _ _ q hp1 rfl E1 G1 _ T1
      exact ⟨_, rfl, Or.inr ⟨_, rfl⟩, H1 _ rfl hp1 _ E1 (G1.mono (by omega)) rfl (cT_leaf.mpr T1)⟩
    · intro hno hp1 E1 G1
      exact absurd (mn_rg (a := ws.length) (by have := hw.1; omega)).1 hno
  · have k2 : k = 2 := by omega
    subst k2
    refine ⟨J.rc rfl, w106_0 (k106_4 hw ws [] 0 _ rfl J ?_ ?_)⟩
    · rintro t et hp1 q E1 G1 eq T1
      exact ⟨_, rfl, Or.inr ⟨_, rfl⟩, H1 _ et hp1 _ E1 (G1.mono (by omega)) eq T1⟩
    · intro en hp1 E1 G1
      exact ⟨_, rfl, Or.inl rfl, H0 en hp1 E1 (G1.mono (by omega))⟩
  · have k3 : k = 3 := by omega
    subst k3
    have eR : aRes 3 ws = (aIt ws).map mt_mk := rfl
    rw [eR] at H1 H0
    refine ⟨J.rc rfl, k107 hw J h0 ?_ ?_⟩
    · rintro ts et hp1 q E1 G1 eq T1
      exact ⟨_, rfl, Or.inr ⟨_, rfl⟩, H1 _ (by rw [et]; rfl) hp1 _ E1 G1 eq T1⟩
    · intro en hp1 E1 G1
      exact ⟨_, rfl, Or.inl rfl, H0 (by rw [en]; rfl) hp1 E1 G1⟩
end CR3
