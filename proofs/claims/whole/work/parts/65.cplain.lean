/-! PLAIN, and numbers read -/
theorem mt_pl_get (t : mT) {j : Nat} (h : j < (mt_pl t).length) : (mt_fm t)[(if mt_k t = 2 then 1 else 0) + j]? = some (mt_pl t)[j] := by
  by_cases hk : mt_k t = 2
  · rw [if_pos hk, mt_pl2 hk, Nat.add_comm, List.getElem?_cons_succ, List.getElem?_append_left h]
    exact List.getElem?_eq_getElem h
  · rw [if_neg hk, Nat.zero_add, mt_pl0 hk]
    exact List.getElem?_eq_getElem h
/-- letters of forms -/
theorem mt_jn_all {P : Nat → Prop} (h44 : P 44) : ∀ {l : List (List Nat)}, (∀ a ∈ l, ∀ c ∈ a, P c) → ∀ c ∈ mt_jn l, P c
  | [], _, c, hc => by simp [mt_jn] at hc
  | [a], h, c, hc => h a List.mem_cons_self c hc
  | a :: b :: l, h, c, hc => by
    have hc' : c ∈ a ++ 44 :: mt_jn (b :: l) := hc
    rcases List.mem_append.mp hc' with hc | hc
    · exact h a List.mem_cons_self c hc
    · rcases List.mem_cons.mp hc with rfl | hc
      · exact h44
      · exact mt_jn_all h44 (l := b :: l) (fun x hx => h x (List.mem_cons_of_mem _ hx)) c hc
theorem mt_ds_ch {m v c : Nat} (h : c ∈ mt_ds m v) : 48 ≤ c ∧ c ≤ 57 := by
  unfold mt_ds at h
  obtain ⟨i, _, rfl⟩ := List.mem_map.mp h
  omega
theorem mt_sf_ch {s : mSc} (h : mt_lg s) : ∀ c ∈ mt_sf s, 32 ≤ c ∧ c ≤ 126 := by
  intro c hc
  rcases s with _ | n | s
  · have : ∀ x ∈ [110, 117, 108, 108], 32 ≤ x ∧ x ≤ 126 := by decide
    exact this c hc
  · have hc : c ∈ mt_nf n := hc
    unfold mt_nf at hc
    split at hc
    · rcases List.mem_cons.mp hc with rfl | hc
      · omega
      · have := mt_ds_ch hc; omega
    · have := mt_ds_ch hc; omega
  · have hc : c ∈ 34 :: (s ++ [34]) := hc
    rcases List.mem_cons.mp hc with rfl | hc
    · omega
    · rcases List.mem_append.mp hc with hc | hc
      · have := h.2 c hc
        obtain ⟨a, b, _⟩ := this
        omega
      · rw [List.mem_singleton] at hc; omega
theorem mt_fm_ch : ∀ (t : mT), mt_al t → ∀ c ∈ mt_fm t, 32 ≤ c ∧ c ≤ 126 := by
  intro t
  induction t using mt_ind with
  | hs s => intro h; exact mt_sf_ch h
  | hl t ht ih =>
    intro h c hc
    rw [mt_fm_list ht] at hc
    rcases List.mem_cons.mp hc with rfl | hc
    · omega
    · rcases List.mem_append.mp hc with hc | hc
      · refine mt_jn_all (P := fun c => 32 ≤ c ∧ c ≤ 126) (by omega) ?_ c hc
        intro a ha
        obtain ⟨x, hx, rfl⟩ := List.mem_map.mp ha
        exact ih x hx ((mt_al_list ht).mp h x hx)
      · rw [List.mem_singleton] at hc; omega
theorem mt_pl_ch {t : mT} (h : mt_al t) : ∀ c ∈ mt_pl t, 32 ≤ c ∧ c ≤ 126 := by
  intro c hc
  refine mt_fm_ch t h c ?_
  by_cases hk : mt_k t = 2
  · rw [mt_pl2 hk]; exact List.mem_cons_of_mem _ (List.mem_append_left _ hc)
  · rw [mt_pl0 hk]; exact hc
theorem mt_pl_le {t : mT} (h : mt_gd t) : (mt_pl t).length ≤ 20000 := by
  have := (mt_fm_len t 0 h).2
  by_cases hk : mt_k t = 2
  · rw [mt_pl2 hk] at this; simp at this; omega
  · rw [mt_pl0 hk] at this; exact this
section CPL
variable {X : List Int32} {d : Nat} {hp : mm_H} {Q : Option Value → mm_H → Prop} {S : Nat → Prop}
theorem k79_23 {r q b e : Nat} {t : mT} (hg : mt_gd t) (hq : q ≠ r) (hr : ¬ S r) (hb : b = if mt_k t = 2 then 1 else 0) (he : e = b + (mt_pl t).length) : ∀ (m j : Nat) (hp : mm_H) (s : List Nat) (junk : List Value), j + m = (mt_pl t).length → cTx hp r s junk → s.length + junk.length = 24 → cT S hp t q →
    (s.length + m ≤ 24 → (∀ c ∈ (mt_pl t).drop j, mt_lt c) → ∀ hp' junk', cE (fun x => x = r ∨ x = r + 1) hp hp' → cG 0 hp hp' → cTx hp' r (s ++ (mt_pl t).drop j) junk' → s.length + m + junk'.length = 24 → Q (some (.int 1)) hp') →
    (¬ (s.length + m ≤ 24 ∧ ∀ c ∈ (mt_pl t).drop j, mt_lt c) → ∀ hp' s' junk', cE (fun x => x = r ∨ x = r + 1) hp hp' → cG 0 hp hp' → cTx hp' r s' junk' → s'.length + junk'.length = 24 → Q (some (.int 0)) hp') →
    mm_R X (d + 2) 79 23 [some (.ref r), some (.ref q), some (.int (nI b)), some (.int (nI e)), some (.int (nI (b + j)))] [] hp Q := by
  have hl := mt_pl_le hg
  have hb1 : b ≤ 1 := by rw [hb]; split <;> omega
  intro m
  induction m with
  | zero =>
    intro j hp s junk hj T hroom hT H1 H0
    have hd : (mt_pl t).drop j = [] := List.drop_eq_nil_of_le (by omega)
    rw [hd] at H1
    refine w79_23 (pk_le e (b + j) (fun _ => H1 (by omega) (fun c hc => nomatch hc) hp junk cE.rf cG.rf (by simpa using T) (by omega)) (fun h => absurd h (by omega)))
  | succ m ih =>
    intro j hp s junk hj T hroom hT H1 H0
    have hjl : j < (mt_pl t).length := by omega
    have hget := mt_pl_get t hjl
    rw [← hb] at hget
    have hc := mt_pl_ch hg.2 _ (List.getElem_mem hjl)
    have hdrop := List.drop_eq_getElem_cons hjl
    obtain ⟨vq, hxq⟩ := hT.tag
    have T0 := T
    obtain ⟨n0, z1, z2, _⟩ := T0
    have hrc : ∀ hp', cE (fun x => x = r ∨ x = r + 1) hp hp' → cT S hp' t q := fun hp' E => hT.keepr E z1 (fun u cs e => by rw [z2] at e; cases e; decide) hr hq
    refine w79_23 (pk_le e (b + j) (fun h => absurd h (by omega)) (fun _ => ⟨rfl, ⟨q, _, rfl, hxq⟩, k82 hT hg (by omega) ⟨_, rfl, ⟨r, _, rfl, z1⟩, ?_⟩⟩))
    rw [mt_at_some hget, m_ch (by omega)]
    refine k34b T hroom (by omega) (fun h24 hlt hp' junk' E G T' hroom' => ⟨_, rfl, fun _ => ?_, fun h => absurd h (by decide)⟩) (fun hno => ⟨_, rfl, fun h => absurd rfl h, fun _ => ?_⟩)
    · rw [nI_1, Nat.add_assoc]
      refine ih (j + 1) hp' (s ++ [(mt_pl t)[j]]) junk' (by omega) T' (by rw [List.length_append]; simp only [List.length_cons, List.length_nil]; omega) (hrc hp' E) ?_ ?_
      · intro a1 a2 hp2 junk2 E2 G2 T2 r2
        rw [List.length_append] at a1 r2
        simp only [List.length_cons, List.length_nil] at a1 r2
        refine H1 (by omega) ?_ hp2 junk2 (E.tr E2) (G.tr G2) ?_ (by omega)
        · rw [hdrop]
          intro c hc'
          rcases List.mem_cons.mp hc' with rfl | hc'
          · exact hlt
          · exact a2 c hc'
        · rw [hdrop]
          simpa using T2
      · intro no hp2 s2 junk2 E2 G2 T2 r2
        refine H0 ?_ hp2 s2 junk2 (E.tr E2) (G.tr G2) T2 r2
        rintro ⟨a1, a2⟩
        refine no ⟨by rw [List.length_append]; simp only [List.length_cons, List.length_nil]; omega, fun c hc' => a2 c ?_⟩
        rw [hdrop]; exact List.mem_cons_of_mem _ hc'
    · refine H0 ?_ hp s junk cE.rf cG.rf T hroom
      rintro ⟨a1, a2⟩
      exact hno ⟨by omega, a2 _ (by rw [hdrop]; exact List.mem_cons_self)⟩
/-- addPlain -/
theorem k79 {r q : Nat} {t : mT} {s : List Nat} {junk : List Value} (T : cTx hp r s junk) (hroom : s.length + junk.length = 24) (hT : cT S hp t q) (hg : mt_gd t) (hq : q ≠ r) (hr : ¬ S r)
    (H1 : s.length + (mt_pl t).length ≤ 24 → (∀ c ∈ mt_pl t, mt_lt c) → ∀ hp' junk', cE (fun x => x = r ∨ x = r + 1) hp hp' → cG 0 hp hp' → cTx hp' r (s ++ mt_pl t) junk' → s.length + (mt_pl t).length + junk'.length = 24 → Q (some (.int 1)) hp')
    (H0 : ¬ (s.length + (mt_pl t).length ≤ 24 ∧ ∀ c ∈ mt_pl t, mt_lt c) → ∀ hp' s' junk', cE (fun x => x = r ∨ x = r + 1) hp hp' → cG 0 hp hp' → cTx hp' r s' junk' → s'.length + junk'.length = 24 → Q (some (.int 0)) hp') : mm_R X (d + 2) 79 0 (mm_L0 79 [.ref r, .ref q]) [] hp Q := by
  have hl := mt_pl_le hg
  obtain ⟨vq, hxq⟩ := hT.tag
  have hb1 : (if mt_k t = 2 then 1 else 0) ≤ 1 := by split <;> omega
  refine w79_0 ⟨rfl, ⟨q, _, rfl, hxq⟩, k80 hT ⟨_, rfl, ⟨q, _, rfl, hxq⟩, k81 hT ⟨_, rfl, ?_⟩⟩⟩
  dsimp only
  rw [pk_sub (by omega), show (if mt_k t = 2 then 1 else 0) + (mt_pl t).length - (if mt_k t = 2 then 1 else 0) = (mt_pl t).length by omega]
  refine pk_le (mt_pl t).length 24 (fun _ => ?_) (fun h => H0 (by omega) hp s junk cE.rf cG.rf T hroom)
  have := k79_23 (X := X) (d := d) (Q := Q) (hg := hg) (hq := hq) (hr := hr) rfl rfl (mt_pl t).length 0 hp s junk (by omega) T hroom hT (by simpa using H1) (by simpa using H0)
  simpa using this
/-- a number's letters -/
def mt_dv (v : Nat) (ds : List Nat) : Nat := ds.foldl (fun v c => v * 10 + (c - 48)) v
def mt_pu (b : Bool) (es : List Nat) : Option Int32 := if es.length < 1 ∨ 6 < es.length ∨ (es.head? = some 48 ∧ (b = true ∨ 1 < es.length)) ∨ ¬ (∀ c ∈ es, 48 ≤ c ∧ c ≤ 57) then none else some (if b then -(nI (mt_dv 0 es)) else nI (mt_dv 0 es))
def mt_pn : List Nat → Option Int32
  | [] => none
  | c :: es => if c = 45 then mt_pu true es else mt_pu false (c :: es)
def mt_pnr (o : Option Int32) : Int32 := match o with
  | some n => n
  | none => -1000000
theorem k37 {c : Nat} (hc : c < 65536) (H : Q (some (.int (if 48 ≤ c ∧ c ≤ 57 then 1 else 0))) hp) : mm_R X (d + 1) 37 0 (mm_L0 37 [.int (nI c)]) [] hp Q := by
  refine w37_0 (pk_lt c 48 (fun h => ?_) (fun h1 => pk_lt 57 c (fun h => ?_) (fun h2 => ?_)))
  · rw [if_neg (by omega)] at H; exact H
  · rw [if_neg (by omega)] at H; exact H
  · rw [if_pos (by omega)] at H; exact H
theorem k38_96 {q e : Nat} {cs : List Value} {i1 i4 i5 : Int32} {b : Bool} (h : hp[q]? = some (1001, cs)) (hb : e < 2 ^ 30) : ∀ (es : List Nat) (v j : Nat), j + es.length = e → (∀ i (h : i < es.length), cs[j + i]? = some (mI es[i])) → (∀ c ∈ es, c < 65536) → Q (some (.int (if ∀ c ∈ es, 48 ≤ c ∧ c ≤ 57 then (if b then -(nI (mt_dv v es)) else nI (mt_dv v es)) else -1000000))) hp →
    mm_R X (d + 2) 38 96 [some (.ref q), some (.int i1), some (.int (nI e)), some (.int (if b then 1 else 0)), some (.int i4), some (.int i5), some (.int (nI v)), some (.int (nI j))] [] hp Q := by
  intro es
  induction es with
  | nil =>
    intro v j hj _ _ H
    simp only [List.length_nil, Nat.add_zero] at hj
    subst hj
    rw [if_pos (fun c hc => nomatch hc)] at H
    refine w38_96 ⟨fun _ => ⟨fun hb => ?_, fun hb => ?_⟩, fun h => absurd (Int32.le_refl _) h⟩
    · cases b with
      | false => exact H
      | true => exact absurd hb (by decide)
    · cases b with
      | false => exact absurd rfl hb
      | true => exact H
  | cons c es ih =>
    intro v j hj hg hc H
    rw [List.length_cons] at hj
    have hc0 := hc c List.mem_cons_self
    have g0 : cs[j]? = some (mI c) := hg 0 (by simp)
    refine w38_96 (pk_le e j (fun h => absurd h (by omega)) (fun _ => ⟨rfl, ⟨q, _, _, rfl, h, nI_pos' (by omega), by rw [nI_clamp (by omega)]; exact g0, k37 hc0 ⟨_, rfl, fun h1 => ⟨q, _, _, rfl, h, nI_pos' (by omega), by rw [nI_clamp (by omega)]; exact g0, ?_⟩, fun h1 => ?_⟩⟩⟩))
    · have hd : 48 ≤ c ∧ c ≤ 57 := by
        rcases Decidable.em (48 ≤ c ∧ c ≤ 57) with h | h
        · exact h
        · rw [if_neg h] at h1; exact absurd rfl h1
      dsimp only
      rw [show (10 : Int32) = nI 10 from rfl, pk_mul, show (48 : Int32) = nI 48 from rfl, pk_sub hd.1, nI_add, nI_1]
      refine ih (v * 10 + (c - 48)) (j + 1) (by omega) (fun i hi => ?_) (fun x hx => hc x (List.mem_cons_of_mem _ hx)) ?_
      · have := hg (i + 1) (by simpa using hi)
        rw [show j + 1 + i = j + (i + 1) by omega]
        simpa using this
      · have e1 : (∀ x ∈ c :: es, 48 ≤ x ∧ x ≤ 57) ↔ ∀ x ∈ es, 48 ≤ x ∧ x ≤ 57 := by simp [hd]
        have e2 : mt_dv (v * 10 + (c - 48)) es = mt_dv v (c :: es) := rfl
        rw [e2]
        simp only [e1] at H
        exact H
    · have hd : ¬ (48 ≤ c ∧ c ≤ 57) := fun h => by rw [if_pos h] at h1; exact absurd h1 (by decide)
      rw [if_neg (fun h => hd (h c List.mem_cons_self))] at H
      exact H
theorem k38_43 {q e i : Nat} {cs : List Value} {i1 : Int32} {b : Bool} {es : List Nat} {o4 o5 o6 o7 : Option Value} (h : hp[q]? = some (1001, cs)) (hb : e < 2 ^ 30) (he : i + es.length = e) (hg : ∀ j (h : j < es.length), cs[i + j]? = some (mI es[j])) (hc : ∀ c ∈ es, c < 65536) (H : Q (some (.int (mt_pnr (mt_pu b es)))) hp) :
    mm_R X (d + 2) 38 43 [some (.ref q), some (.int i1), some (.int (nI e)), some (.int (if b then 1 else 0)), o4, o5, o6, o7] [.int (nI i)] hp Q := by
  have ed : nI e - nI i = nI es.length := by rw [pk_sub (by omega)]; congr 1; omega
  refine w38_43 ?_
  rw [ed]
  refine pk_lt es.length 1 (fun h1 => ?_) (fun h1 => pk_le es.length 6 (fun h6 => ⟨rfl, ?_⟩) (fun h6 => ?_))
  · unfold mt_pu at H; rw [if_pos (Or.inl h1)] at H; exact H
  · cases es with
    | nil => simp at h1
    | cons c es =>
      have g0 : cs[i]? = some (mI c) := hg 0 (by simp)
      have hc0 := hc c List.mem_cons_self
      have go : ¬ (c = 48 ∧ (b = true ∨ 1 < (c :: es).length)) → mm_R X (d + 2) 38 96 [some (.ref q), some (.int i1), some (.int (nI e)), some (.int (if b then 1 else 0)), some (.int (nI i)), some (.int (nI (c :: es).length)), some (.int 0), some (.int (nI i))] [] hp Q := by
        intro hno
        refine k38_96 h hb (c :: es) 0 i he hg hc ?_
        unfold mt_pu at H
        by_cases hall : ∀ x ∈ c :: es, 48 ≤ x ∧ x ≤ 57
        · rw [if_pos hall]
          rw [if_neg] at H
          · exact H
          · rintro (h | h | h | h)
            · omega
            · omega
            · exact hno ⟨Option.some.inj h.1, h.2⟩
            · exact h hall
        · rw [if_neg hall]
          rw [if_pos (Or.inr (Or.inr (Or.inr hall)))] at H
          exact H
      refine ⟨q, _, _, rfl, h, nI_pos' (by omega), by rw [nI_clamp (by omega)]; exact g0, pk_eq c 48 (B := _) (A := _) (fun e48 => ?_) (fun e48 => ?_) |>.symm⟩
      · refine ⟨fun hb1 => ?_, fun hb0 => pk_le (c :: es).length 1 (fun hle => go ?_) (fun hgt => ?_)⟩
        · have : b = true := by cases b with
            | false => exact absurd rfl hb1
            | true => rfl
          unfold mt_pu at H
          rw [if_pos (Or.inr (Or.inr (Or.inl ⟨by rw [e48]; rfl, Or.inl this⟩)))] at H; exact H
        · rintro ⟨_, hx | hx⟩
          · rw [hx] at hb0; exact absurd hb0 (by decide)
          · omega
        · unfold mt_pu at H
          rw [if_pos (Or.inr (Or.inr (Or.inl ⟨by rw [e48]; rfl, Or.inr hgt⟩)))] at H; exact H
      · exact go (fun hx => e48 hx.1)
  · unfold mt_pu at H; rw [if_pos (Or.inr (Or.inl h6))] at H; exact H
/-- numberIn -/
theorem k38 {q i e : Nat} {cs : List Value} {ds : List Nat} (h : hp[q]? = some (1001, cs)) (hb : cs.length < 2 ^ 30) (he : i + ds.length = e) (hl : e ≤ cs.length) (hg : ∀ j (h : j < ds.length), cs[i + j]? = some (mI ds[j])) (hc : ∀ c ∈ ds, c < 65536) (H : Q (some (.int (mt_pnr (mt_pn ds)))) hp) :
    mm_R X (d + 2) 38 0 (mm_L0 38 [.ref q, .int (nI i), .int (nI e)]) [] hp Q := by
  refine w38_0 (pk_lt i 0 (fun h => absurd h (by omega)) (fun _ => pk_le e i (fun h0 => ?_) (fun h0 => ⟨rfl, ⟨q, _, _, rfl, h, by decide, rfl, pk_le e cs.length (fun _ => ?_) (fun h => absurd h (by omega))⟩⟩)))
  · have : ds = [] := List.length_eq_zero_iff.mp (by omega)
    subst this
    exact H
  · cases ds with
    | nil => simp at he; omega
    | cons c es =>
      have g0 : cs[i]? = some (mI c) := hg 0 (by simp)
      have hc0 := hc c List.mem_cons_self
      refine ⟨q, _, _, rfl, h, nI_pos' (by omega), by rw [nI_clamp (by omega)]; exact g0, ⟨fun h45 => ⟨fun _ => ?_, fun h => absurd rfl h⟩, fun h45 => ⟨fun h => absurd h (by decide), fun _ => ?_⟩⟩⟩
      · have hne : c ≠ 45 := fun e => h45 (by rw [e]; rfl)
        refine k38_43 (b := false) h (by omega) he hg hc ?_
        rw [mt_pn, if_neg hne] at H; exact H
      · have heq : c = 45 := (nI_eq (b := 45) (by omega) (by decide)).mp h45
        rw [nI_1]
        refine k38_43 (b := true) (es := es) h (by omega) (by rw [List.length_cons] at he; omega) (fun j hj => ?_) (fun x hx => hc x (List.mem_cons_of_mem _ hx)) ?_
        · have := hg (j + 1) (by simpa using hj)
          rw [show i + 1 + j = i + (j + 1) by omega]
          simpa using this
        · rw [mt_pn, if_pos heq] at H; exact H
theorem cO.le {r m : Nat} {xs : List mT} (T : cO S hp r xs m) : xs.length ≤ m := by
  obtain ⟨n, items, h, h', hm, hm8, hx⟩ := T
  rcases Nat.eq_zero_or_pos xs.length with h0 | h0
  · omega
  · obtain ⟨q', e, _⟩ := hx (xs.length - 1) (by omega)
    have := (List.getElem?_eq_some_iff.mp e).1
    omega
theorem mt_dp_mk3 {xs : List mT} (h : ∀ x ∈ xs, mt_dp x ≤ 3) : mt_dp (mt_mk xs) ≤ 4 := by
  refine (mt_dp_le (mt_isL_mk xs)).mpr ?_
  rw [mt_els_mk]; exact h
theorem k66_2 {r q m : Nat} {t : mT} (hq : q ≠ r) (hr : ¬ S r) (hg : mt_gd t) (ht : mt_isL t = true) : ∀ (ys xs : List mT) (k : Nat) (hp : mm_H), k ≤ 8 → (mt_els t).drop k = ys → cO S hp r xs m → (∀ x ∈ xs, mt_dp x ≤ 3) → cT S hp t q →
    (xs.length + ys.length ≤ m → (∀ y ∈ ys, mt_dp y < 3) → ∀ hp', cE (fun x => x = r ∨ x = r + 1) hp hp' → cG 0 hp hp' → cO S hp' r (xs ++ ys) m → Q (some (.int 1)) hp') →
    (¬ (xs.length + ys.length ≤ m ∧ ∀ y ∈ ys, mt_dp y < 3) → ∀ hp' xs', cE (fun x => x = r ∨ x = r + 1) hp hp' → cG 0 hp hp' → cO S hp' r xs' m → Q (some (.int 0)) hp') →
    mm_R X (d + 2) 66 2 [some (.ref r), some (.ref q), some (.int (nI k))] [] hp Q := by
  obtain ⟨g1, g2, g3⟩ := (mt_gl_list ht).mp hg
  intro ys
  induction ys with
  | nil =>
    intro xs k hp hk8 hk O hx hT H1 H0
    obtain ⟨L, I, n, hc, -⟩ := hT.cell
    have hkl : (mt_els t).length ≤ k := by
      have := congrArg List.length hk
      simp at this
      omega
    rw [ht] at hc
    exact w66_2 ⟨rfl, ⟨q, _, _, rfl, hc, rfl, pk_le (mt_els t).length k (fun _ => H1 (by have := O.le; simp; omega) (fun y hy => nomatch hy) hp cE.rf cG.rf (by simpa using O)) (fun h => absurd h (by omega))⟩⟩
  | cons y ys ih =>
    intro xs k hp hk8 hk O hx hT H1 H0
    obtain ⟨L, I, n, hc, -⟩ := hT.cell
    have O' := O
    obtain ⟨n0, it0, z1, z2, _⟩ := O'
    rw [ht] at hc
    have hkl : k < (mt_els t).length := by
      rcases Nat.lt_or_ge k (mt_els t).length with h | h
      · exact h
      · rw [List.drop_eq_nil_of_le h] at hk; cases hk
    have hdr := List.drop_eq_getElem_cons hkl
    rw [hk] at hdr
    obtain ⟨e1, e2⟩ := List.cons.inj hdr
    have hym : y ∈ mt_els t := e1 ▸ List.getElem_mem hkl
    have hyd := mt_gl_dp y 1 (g3 y hym) (by omega)
    refine w66_2 ⟨rfl, ⟨q, _, _, rfl, hc, rfl, pk_le (mt_els t).length k (fun h => absurd h (by omega)) (fun _ => ⟨⟨q, _, rfl, hc⟩, k67 hT (by omega) g2 (fun _ q' s' t' => ⟨_, rfl, ⟨r, _, rfl, z1⟩, rfl, ?_⟩) (fun h => absurd h (by omega))⟩)⟩⟩
    rw [← e1] at t'
    refine k32 O t' s' hr (by omega) (by have := mt_dp_mk3 hx; omega) (fun a1 a2 hp' E G O2 => ⟨_, rfl, fun _ => ?_, fun h => absurd h (by decide)⟩) (fun hno hle => ⟨_, rfl, fun h => absurd rfl h, fun _ => ?_⟩)
    · rw [nI_1]
      refine ih (xs ++ [y]) (k + 1) hp' (by omega) e2.symm O2 ?_ (hT.keepr E z1 (fun u cs e => by rw [z2] at e; cases e; decide) hr hq) ?_ ?_
      · intro x hx'
        rcases List.mem_append.mp hx' with h | h
        · exact hx x h
        · rw [List.mem_singleton] at h; rw [h]; omega
      · intro b1 b2 hp2 E2 G2 O3
        rw [List.length_append] at b1
        simp only [List.length_cons, List.length_nil] at b1
        refine H1 (by rw [List.length_cons]; omega) ?_ hp2 (E.tr E2) (G.tr G2) (by simpa using O3)
        intro z hz
        rcases List.mem_cons.mp hz with rfl | hz
        · exact a2
        · exact b2 z hz
      · intro no hp2 xs2 E2 G2 O3
        refine H0 ?_ hp2 xs2 (E.tr E2) (G.tr G2) O3
        rintro ⟨b1, b2⟩
        rw [List.length_cons] at b1
        exact no ⟨by rw [List.length_append]; simp only [List.length_cons, List.length_nil]; omega, fun z hz => b2 z (List.mem_cons_of_mem _ hz)⟩
    · refine H0 ?_ hp xs cE.rf cG.rf O
      rintro ⟨b1, b2⟩
      rw [List.length_cons] at b1
      exact hno ⟨by omega, b2 y List.mem_cons_self⟩
/-- addItemsOf -/
theorem k66 {r q m : Nat} {t : mT} {xs : List mT} (hq : q ≠ r) (hr : ¬ S r) (hg : mt_gd t) (ht : mt_isL t = true) (O : cO S hp r xs m) (hx : ∀ x ∈ xs, mt_dp x ≤ 3) (hT : cT S hp t q)
    (H1 : xs.length + (mt_els t).length ≤ m → (∀ y ∈ mt_els t, mt_dp y < 3) → ∀ hp', cE (fun x => x = r ∨ x = r + 1) hp hp' → cG 0 hp hp' → cO S hp' r (xs ++ mt_els t) m → Q (some (.int 1)) hp')
    (H0 : ¬ (xs.length + (mt_els t).length ≤ m ∧ ∀ y ∈ mt_els t, mt_dp y < 3) → ∀ hp' xs', cE (fun x => x = r ∨ x = r + 1) hp hp' → cG 0 hp hp' → cO S hp' r xs' m → Q (some (.int 0)) hp') : mm_R X (d + 2) 66 0 (mm_L0 66 [.ref r, .ref q]) [] hp Q := by
  refine w66_0 ?_
  exact k66_2 hq hr hg ht (mt_els t) xs 0 hp (by omega) rfl O hx hT H1 H0
end CPL
