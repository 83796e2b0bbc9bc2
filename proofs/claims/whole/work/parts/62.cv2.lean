/-! MORE OF THE CLASS'S VALUE METHODS -/
theorem mt_fm_mk (xs : List mT) : mt_fm (mt_mk xs) = 91 :: (mt_jn (xs.map mt_fm) ++ [93]) := by
  rw [mt_fm_list (mt_isL_mk xs), mt_els_mk]
theorem mt_dp_mk (xs : List mT) : mt_dp (mt_mk xs) = 1 + (xs.map mt_dp).foldr max 0 := by
  rw [mt_dp_list (mt_isL_mk xs), mt_els_mk]
theorem mt_jn_app : ∀ (l : List (List Nat)) (a : List Nat), (mt_jn (l ++ [a])).length = (mt_jn l).length + a.length + (if 0 < l.length then 1 else 0)
  | [], a => by simp [mt_jn]
  | [b], a => by simp [mt_jn]; omega
  | b :: c :: l, a => by
    show (b ++ 44 :: mt_jn ((c :: l) ++ [a])).length = (b ++ 44 :: mt_jn (c :: l)).length + a.length + 1
    rw [List.length_append, List.length_cons, mt_jn_app (c :: l) a, List.length_append, List.length_cons, if_pos (by simp)]
    simp only [List.length_cons]
    omega
theorem mt_max_app : ∀ (l : List Nat) (a : Nat), (l ++ [a]).foldr max 0 = max (l.foldr max 0) a
  | [], a => by simp
  | b :: l, a => by
    simp only [List.cons_append, List.foldr_cons]
    rw [mt_max_app l a]; omega
theorem mt_fm_app (xs : List mT) (t : mT) : (mt_fm (mt_mk (xs ++ [t]))).length = (mt_fm (mt_mk xs)).length + ((mt_fm t).length + if 0 < xs.length then 1 else 0) := by
  rw [mt_fm_mk, mt_fm_mk, List.map_append, List.map_cons, List.map_nil]
  simp only [List.length_cons, List.length_append, List.length_nil]
  rw [mt_jn_app, List.length_map]
  omega
theorem mt_dp_app (xs : List mT) (t : mT) : mt_dp (mt_mk (xs ++ [t])) = max (mt_dp (mt_mk xs)) (mt_dp t + 1) := by
  rw [mt_dp_mk, mt_dp_mk, List.map_append, List.map_cons, List.map_nil, mt_max_app]
  omega
/-- a list under way -/
def cO (S : Nat → Prop) (hp : mm_H) (r : Nat) (xs : List mT) (m : Nat) : Prop := ∃ n items, hp[r]? = some (2, [.null, .ref (r + 1), .int 3, .int n, .int (nI xs.length), .int (nI (mt_dp (mt_mk xs))), .int (nI (mt_fm (mt_mk xs)).length)]) ∧ hp[r + 1]? = some (2002, items) ∧ items.length = m ∧ m ≤ 8 ∧ ∀ j (h : j < xs.length), ∃ q, items[j]? = some (.ref q) ∧ S q ∧ cT S hp xs[j] q
theorem cO.t {S : Nat → Prop} {hp : mm_H} {r m : Nat} {xs : List mT} (h : cO S hp r xs m) : cT S hp (mt_mk xs) r := by
  obtain ⟨n, items, h1, h2, h3, h4, h5⟩ := h
  refine (cT_list (mt_isL_mk xs)).mpr ⟨n, _, ?_, Or.inr ⟨rfl, items, h2, by omega, ?_⟩⟩
  · rw [mt_els_mk]; exact h1
  · intro j hj
    have hj' : j < xs.length := by rw [mt_els_mk] at hj; exact hj
    obtain ⟨q, a, b, c⟩ := h5 j hj'
    refine ⟨q, a, b, ?_⟩
    rw [List.getElem_of_eq (mt_els_mk xs) hj]
    exact c
theorem cT.keepr {S : Nat → Prop} {hp hp' : mm_H} {t : mT} {q r : Nat} {vs : List Value} (h : cT S hp t q) (E : cE (fun x => x = r ∨ x = r + 1) hp hp') (hr : hp[r]? = some (2, vs)) (h1 : ∀ u cs, hp[r + 1]? = some (u, cs) → u ≠ 2) (hS : ¬ S r) (hq : q ≠ r) : cT S hp' t q := by
  obtain ⟨ws, hx⟩ := h.tag
  have hq1 : q ≠ r + 1 := fun e => h1 2 ws (e ▸ hx) rfl
  refine h.keep2 (E.x2 hr h1 hS) (E.2 q (List.getElem?_eq_some_iff.mp hx).1 (by rintro (e | e); exact hq e; exact hq1 e)) ?_
  intro vs' u cs _ hc hu _
  refine E.2 (q + 1) (List.getElem?_eq_some_iff.mp hc).1 ?_
  rintro (e | e)
  · rw [e, hr] at hc; cases hc; exact hu rfl
  · exact hq (by omega)
section CV2
variable {X : List Int32} {d : Nat} {hp : mm_H} {Q : Option Value → mm_H → Prop} {S : Nat → Prop}
/-- addLetter, where it fails -/
theorem k34x {r c : Nat} {s : List Nat} {junk : List Value} (T : cTx hp r s junk) (hb : s.length ≤ 1000) (hc : c < 65536) (hx : 24 ≤ s.length ∨ junk = [] ∨ ¬ mt_lt c) (H : Q (some (.int 0)) hp) : mm_R X (d + 1) 34 0 (mm_L0 34 [.ref r, .int (nI c)]) [] hp Q := by
  obtain ⟨n, h, h', ⟨m, rfl⟩, hj⟩ := T
  have hcl : ((34 :: (s ++ [34])).map mI ++ junk).length = s.length + 2 + junk.length := by simp; omega
  refine w34_0 ⟨r, _, _, rfl, h, rfl, ⟨fun h => absurd rfl h, fun _ => ⟨r, _, _, rfl, h, rfl, Or.inr ⟨⟨_, rfl⟩, ⟨r, _, _, rfl, h, rfl, pk_le 24 s.length (fun _ => H) (fun h24 => ⟨r, _, _, rfl, h, rfl, ⟨r, _, _, rfl, h, rfl, ⟨r + 1, _, _, rfl, h', by decide, rfl, ?_⟩⟩⟩)⟩⟩⟩⟩⟩
  rw [hcl]
  refine pk_lt (s.length + 2) (s.length + 2 + junk.length) (fun hlt => ⟨r, _, _, rfl, h, rfl, pk_lt (s.length + 2) 2 (fun h => absurd h (by omega)) (fun _ => pk_lt c 32 (fun _ => H) (fun c1 => pk_lt 126 c (fun _ => H) (fun c2 => pk_eq c 34 (fun _ => H) (fun c3 => ⟨fun h92 => ?_, fun _ => H⟩))))⟩) (fun _ => H)
  refine absurd ⟨c1, c2, c3, fun e => h92 (by rw [e]; rfl)⟩ (?_ : ¬ mt_lt c)
  rcases hx with hx | hx | hx
  · omega
  · subst hx; simp at hlt
  · exact hx
theorem k34b {r c : Nat} {s : List Nat} {junk : List Value} (T : cTx hp r s junk) (hroom : s.length + junk.length = 24) (hc : c < 65536)
    (H1 : s.length < 24 → mt_lt c → ∀ hp' junk', cE (fun x => x = r ∨ x = r + 1) hp hp' → cG 0 hp hp' → cTx hp' r (s ++ [c]) junk' → s.length + 1 + junk'.length = 24 → Q (some (.int 1)) hp') (H0 : ¬ (s.length < 24 ∧ mt_lt c) → Q (some (.int 0)) hp) : mm_R X (d + 1) 34 0 (mm_L0 34 [.ref r, .int (nI c)]) [] hp Q := by
  by_cases h : s.length < 24 ∧ mt_lt c
  · cases junk with
    | nil => simp only [List.length_nil] at hroom; omega
    | cons j junk =>
      rw [List.length_cons] at hroom
      exact k34 T h.1 h.2 (fun hp' E G T' => H1 h.1 h.2 hp' junk E G T' (by omega))
  · refine k34x T (by omega) hc ?_ (H0 h)
    by_cases h1 : s.length < 24
    · exact Or.inr (Or.inr (fun h2 => h ⟨h1, h2⟩))
    · exact Or.inl (by omega)
/-- addItem -/
theorem k32 {r q m : Nat} {xs : List mT} {t : mT} (T : cO S hp r xs m) (hT : cT S hp t q) (hq : S q) (hr : ¬ S r) (hd : mt_dp t ≤ 100) (hD : mt_dp (mt_mk xs) ≤ 100)
    (H1 : xs.length < m → mt_dp t < 3 → ∀ hp', cE (fun x => x = r ∨ x = r + 1) hp hp' → cG 0 hp hp' → cO S hp' r (xs ++ [t]) m → Q (some (.int 1)) hp')
    (H0 : ¬ (xs.length < m ∧ mt_dp t < 3) → xs.length ≤ m → Q (some (.int 0)) hp) : mm_R X (d + 1) 32 0 (mm_L0 32 [.ref r, .ref q]) [] hp Q := by
  obtain ⟨n, items, h, h', hm, hm8, hx⟩ := T
  obtain ⟨L, I, nn, hc, -, -, -⟩ := hT.cell
  have hl : r + 1 < hp.length := (List.getElem?_eq_some_iff.mp h').1
  have hqr : q ≠ r := fun e => hr (e ▸ hq)
  have hqr1 : q ≠ r + 1 := fun e => by rw [e, h'] at hc; cases hc
  have hxm : xs.length ≤ m := by
    rcases Nat.eq_zero_or_pos xs.length with h0 | h0
    · omega
    · obtain ⟨q', e, _⟩ := hx (xs.length - 1) (by omega)
      have := (List.getElem?_eq_some_iff.mp e).1
      omega
  have hE := c2_self h h'
  have hcq : ∀ c c' : mm_C, (c2 hp r c c')[q]? = some (2, [L, I, .int (nI (mt_k t)), .int nn, .int (nI (if mt_isL t then (mt_els t).length else (mt_txt t).length)), .int (nI (mt_dp t)), .int (nI (mt_fm t).length)]) := fun c c' => (c2_n hqr hqr1).trans hc
  have fin : xs.length < m → mt_dp t < 3 → ∀ e : Nat, e = (if 0 < xs.length then 1 else 0) → mm_R X (d + 1) 32 83 [some (.ref r), some (.ref q)] [.int (nI e), .int (nI (mt_fm t).length), .int (nI (mt_fm (mt_mk xs)).length), .ref r] (c2 hp r (2, [.null, .ref (r + 1), .int 3, .int n, .int (nI xs.length), .int (nI (mt_dp (mt_mk xs))), .int (nI (mt_fm (mt_mk xs)).length)]) (2002, items.set xs.length (.ref q))) Q := by
    intro hlt hd3 e he
    have e4 : nI xs.length + 1 = nI (xs ++ [t]).length := by rw [nI_1, List.length_append]; rfl
    have e6 : nI (mt_fm (mt_mk xs)).length + (nI (mt_fm t).length + nI e) = nI (mt_fm (mt_mk (xs ++ [t]))).length := by rw [nI_add, nI_add, mt_fm_app, he]
    have last : ∀ D, D = nI (mt_dp (mt_mk (xs ++ [t]))) → Q (some (.int 1)) (c2 hp r (2, [.null, .ref (r + 1), .int 3, .int n, .int (nI xs.length + 1), .int D, .int (nI (mt_fm (mt_mk xs)).length + (nI (mt_fm t).length + nI e))]) (2002, items.set xs.length (.ref q))) := by
      intro D hD
      rw [e4, e6, hD]
      have E : cE (fun x => x = r ∨ x = r + 1) hp (c2 hp r (2, [.null, .ref (r + 1), .int 3, .int n, .int (nI (xs ++ [t]).length), .int (nI (mt_dp (mt_mk (xs ++ [t])))), .int (nI (mt_fm (mt_mk (xs ++ [t]))).length)]) (2002, items.set xs.length (.ref q))) := c2_e (Or.inl rfl) (Or.inr rfl)
      have Y : cX S hp _ := E.x2 h (fun u cs e => by rw [h'] at e; cases e; decide) hr
      refine H1 hlt hd3 _ E (c2_g h h' rfl (by simp)) ⟨n, _, c2_0 hl, c2_1 hl, by simpa using hm, hm8, fun j hj => ?_⟩
      rw [List.length_append] at hj
      simp only [List.length_cons, List.length_nil] at hj
      by_cases ej : j = xs.length
      · subst ej
        refine ⟨q, by rw [List.getElem?_set_self (by omega)], hq, ?_⟩
        rw [List.getElem_append_right (Nat.le_refl _)]
        simp only [Nat.sub_self, List.getElem_cons_zero]
        exact hT.keep hq Y
      · obtain ⟨q', g1, g2, g3⟩ := hx j (by omega)
        refine ⟨q', by rw [List.getElem?_set_ne (by omega)]; exact g1, g2, ?_⟩
        rw [List.getElem_append_left (by omega)]
        exact g3.keep g2 Y
    refine w32_83 (c2_pt hl rfl rfl (c2_gi hl rfl (c2_pt hl rfl rfl ⟨rfl, ⟨q, _, _, rfl, hcq _ _, rfl, c2_gi hl rfl (pk_lt (mt_dp t) (mt_dp (mt_mk xs)) (fun hlt => c2_gi hl rfl (c2_pt hl rfl rfl ?_)) (fun hge => ⟨q, _, _, rfl, hcq _ _, rfl, c2_pt hl rfl rfl ?_⟩))⟩⟩)))
    · exact last _ (by rw [mt_dp_app]; congr 1; omega)
    · exact last _ (by rw [nI_1, mt_dp_app]; congr 1; omega)
  have key : mm_R X (d + 1) 32 0 (mm_L0 32 [.ref r, .ref q]) [] (c2 hp r (2, [.null, .ref (r + 1), .int 3, .int n, .int (nI xs.length), .int (nI (mt_dp (mt_mk xs))), .int (nI (mt_fm (mt_mk xs)).length)]) (2002, items)) Q := by
    refine w32_0 (c2_gi hl rfl ⟨fun h => absurd rfl h, fun _ => c2_gv hl rfl (Or.inr ⟨⟨_, rfl⟩, c2_gi hl rfl (c2_gv hl rfl (c2_ln hl ⟨by decide, rfl⟩ (pk_le items.length xs.length (fun h => ?_) (fun h => c2_gi hl rfl (pk_lt xs.length 8 (fun _ => ⟨rfl, Or.inr ⟨⟨_, rfl⟩, ⟨q, _, _, rfl, hcq _ _, rfl, pk_lt (mt_dp t) 3 (fun h3 => ?_) (fun h3 => ?_)⟩⟩⟩) (fun h => absurd h (by omega)))))))⟩)⟩)
    · rw [hE]; exact H0 (by omega) hxm
    · refine c2_gv hl rfl (c2_gi hl rfl (c2_sv hl ⟨by decide, rfl⟩ (by omega) (by omega) (Or.inr ⟨q, 2, _, rfl, hcq _ _, by decide, rfl⟩) (c2_gi hl rfl ⟨q, _, _, rfl, hcq _ _, rfl, c2_gi hl rfl (pk_le xs.length 0 (fun h0 => ?_) (fun h0 => ?_))⟩)))
      · exact fin (by omega) h3 0 (by rw [if_neg (by omega)])
      · exact fin (by omega) h3 1 (by rw [if_pos (by omega)])
    · rw [hE]; exact H0 (by omega) hxm
  rw [hE] at key
  exact key
/-- addItem of null -/
theorem k32n {r m : Nat} {xs : List mT} (T : cO S hp r xs m) (H : Q (some (.int 0)) hp) : mm_R X (d + 1) 32 0 (mm_L0 32 [.ref r, .null]) [] hp Q := by
  obtain ⟨n, items, h, h', hm, hm8, hx⟩ := T
  have hxm : xs.length ≤ m := by
    rcases Nat.eq_zero_or_pos xs.length with h0 | h0
    · omega
    · obtain ⟨q', e, _⟩ := hx (xs.length - 1) (by omega)
      have := (List.getElem?_eq_some_iff.mp e).1
      omega
  exact w32_0 ⟨r, _, _, rfl, h, rfl, ⟨fun h => absurd rfl h, fun _ => ⟨r, _, _, rfl, h, rfl, Or.inr ⟨⟨_, rfl⟩, ⟨r, _, _, rfl, h, rfl, ⟨r, _, _, rfl, h, rfl, ⟨r + 1, _, _, rfl, h', by decide, rfl, pk_le items.length xs.length (fun _ => H) (fun _ => ⟨r, _, _, rfl, h, rfl, pk_lt xs.length 8 (fun _ => ⟨rfl, Or.inl ⟨rfl, H⟩⟩) (fun _ => H)⟩)⟩⟩⟩⟩⟩⟩⟩
/-- kinds -/
theorem k65 {t : mT} {r : Nat} (hT : cT S hp t r) (H : Q (some (.int (if mt_isL t then 1 else 0))) hp) : mm_R X (d + 1) 65 0 (mm_L0 65 [.ref r]) [] hp Q := by
  obtain ⟨L, I, n, hc, -⟩ := hT.cell
  have := mt_k_lt t
  refine w65_0 ⟨r, _, _, rfl, hc, rfl, ⟨fun h => ?_, fun h => ?_⟩⟩
  · rw [if_neg (fun e => h (by rw [mt_k3.mpr e]; rfl))] at H; exact H
  · rw [if_pos (mt_k3.mp ((nI_eq (b := 3) (by omega) (by decide)).mp h))] at H; exact H
theorem k69 {t : mT} {r : Nat} (hT : cT S hp t r) (H : Q (some (.int (if mt_k t = 0 then 1 else 0))) hp) : mm_R X (d + 1) 69 0 (mm_L0 69 [.ref r]) [] hp Q := by
  obtain ⟨L, I, n, hc, -⟩ := hT.cell
  have := mt_k_lt t
  refine w69_0 ⟨r, _, _, rfl, hc, rfl, ⟨fun h => ?_, fun h => ?_⟩⟩
  · rw [if_neg (fun e => h (by rw [e]; rfl))] at H; exact H
  · rw [if_pos ((nI_eq (b := 0) (by omega) (by decide)).mp h)] at H; exact H
theorem k78 {t : mT} {r : Nat} (hT : cT S hp t r) (H : Q (some (.int (if 2 ≤ mt_k t then 1 else 0))) hp) : mm_R X (d + 1) 78 0 (mm_L0 78 [.ref r]) [] hp Q := by
  obtain ⟨L, I, n, hc, -⟩ := hT.cell
  have := mt_k_lt t
  refine w78_0 ⟨r, _, _, rfl, hc, rfl, pk_eq (mt_k t) 3 (fun e => ?_) (fun e => ⟨r, _, _, rfl, hc, rfl, ⟨fun h => ?_, fun h => ?_⟩⟩)⟩
  · rw [if_pos (by omega)] at H; exact H
  · have : mt_k t ≠ 2 := fun e => h (by rw [e]; rfl)
    rw [if_neg (by omega)] at H; exact H
  · have : mt_k t = 2 := (nI_eq (b := 2) (by omega) (by decide)).mp h
    rw [if_pos (by omega)] at H; exact H
theorem k80 {t : mT} {r : Nat} (hT : cT S hp t r) (H : Q (some (.int (nI (if mt_k t = 2 then 1 else 0)))) hp) : mm_R X (d + 1) 80 0 (mm_L0 80 [.ref r]) [] hp Q := by
  obtain ⟨L, I, n, hc, -⟩ := hT.cell
  have := mt_k_lt t
  refine w80_0 ⟨r, _, _, rfl, hc, rfl, ⟨fun h => ?_, fun h => ?_⟩⟩
  · rw [if_neg (fun e => h (by rw [e]; rfl))] at H; exact H
  · rw [if_pos ((nI_eq (b := 2) (by omega) (by decide)).mp h)] at H; exact H
theorem mt_pl2 {t : mT} (h : mt_k t = 2) : mt_fm t = 34 :: (mt_pl t ++ [34]) := by
  cases t with
  | leaf s =>
    rcases s with _ | _ | s
    · cases h
    · cases h
    · rfl
  | branch n a b => cases h
theorem mt_pl0 {t : mT} (h : ¬ mt_k t = 2) : mt_fm t = mt_pl t := by unfold mt_pl; rw [if_neg h]
theorem mt_pl_len (t : mT) : (if mt_k t = 2 then (mt_fm t).length - 1 else (mt_fm t).length) = (if mt_k t = 2 then 1 else 0) + (mt_pl t).length := by
  by_cases h : mt_k t = 2
  · rw [if_pos h, if_pos h, mt_pl2 h]; simp; omega
  · rw [if_neg h, if_neg h, mt_pl0 h]; simp
theorem k81 {t : mT} {r : Nat} (hT : cT S hp t r) (H : Q (some (.int (nI ((if mt_k t = 2 then 1 else 0) + (mt_pl t).length)))) hp) : mm_R X (d + 1) 81 0 (mm_L0 81 [.ref r]) [] hp Q := by
  obtain ⟨L, I, n, hc, -⟩ := hT.cell
  have := mt_k_lt t
  rw [← mt_pl_len] at H
  refine w81_0 ⟨r, _, _, rfl, hc, rfl, ⟨fun h => ⟨r, _, _, rfl, hc, rfl, ?_⟩, fun h => ⟨r, _, _, rfl, hc, rfl, ?_⟩⟩⟩
  · rw [if_neg (fun e => h (by rw [e]; rfl))] at H; exact H
  · have e := (nI_eq (b := 2) (by omega) (by decide)).mp h
    rw [if_pos e] at H
    rw [mt_pl2 e] at H ⊢
    dsimp only
    rw [List.length_cons, nI_pred]; exact H
theorem k83 {t : mT} {r : Nat} (hT : cT S hp t r) (H : Q (some (.int (if mt_k t = 0 ∨ mt_k t = 1 ∧ mt_num t = 0 then 1 else 0))) hp) : mm_R X (d + 1) 83 0 (mm_L0 83 [.ref r]) [] hp Q := by
  obtain ⟨L, I, n, hc, -, -, hn⟩ := hT.cell
  have := mt_k_lt t
  refine w83_0 ⟨r, _, _, rfl, hc, rfl, pk_eq (mt_k t) 0 (fun e => ?_) (fun e0 => ⟨r, _, _, rfl, hc, rfl, ⟨fun h => ?_, fun h => ⟨r, _, _, rfl, hc, rfl, ⟨fun h2 => ?_, fun h2 => ?_⟩⟩⟩⟩)⟩
  · rw [if_pos (Or.inl e)] at H; exact H
  · have : mt_k t ≠ 1 := fun e => h (by rw [e]; rfl)
    rw [if_neg (by omega)] at H; exact H
  · have e1 := (nI_eq (b := 1) (by omega) (by decide)).mp h
    rw [hn e1] at h2
    rw [if_neg (by rintro (e | e); exact e0 e; exact h2 e.2)] at H; exact H
  · have e1 := (nI_eq (b := 1) (by omega) (by decide)).mp h
    rw [hn e1] at h2
    rw [if_pos (Or.inr ⟨e1, h2⟩)] at H; exact H
/-- itemAt -/
theorem k67 {t : mT} {r i : Nat} (hT : cT S hp t r) (hi : i < 2 ^ 31) (hw : (mt_els t).length ≤ 8) (H1 : ∀ (h : i < (mt_els t).length) q, S q → cT S hp (mt_els t)[i] q → Q (some (.ref q)) hp) (H0 : (mt_els t).length ≤ i → Q (some .null) hp) : mm_R X (d + 1) 67 0 (mm_L0 67 [.ref r, .int (nI i)]) [] hp Q := by
  by_cases hl : mt_isL t = true
  · obtain ⟨n, I, h1, h2⟩ := (cT_list hl).mp hT
    refine w67_0 ⟨r, _, _, rfl, h1, rfl, ⟨fun h => absurd rfl h, fun _ => ⟨r, _, _, rfl, h1, rfl, ?_⟩⟩⟩
    rcases h2 with ⟨rfl, e⟩ | ⟨rfl, items, h3, h5, h4⟩
    · exact Or.inl ⟨rfl, H0 (by rw [e]; simp)⟩
    · refine Or.inr ⟨⟨_, rfl⟩, pk_lt i 0 (fun h => absurd h (by omega)) (fun _ => ⟨r, _, _, rfl, h1, rfl, pk_le (mt_els t).length i (fun h => H0 h) (fun h => ?_)⟩)⟩
      obtain ⟨q, g1, g2, g3⟩ := h4 i h
      have hil := (List.getElem?_eq_some_iff.mp g1).1
      refine ⟨r, _, _, rfl, h1, rfl, ⟨r + 1, _, _, rfl, h3, by decide, rfl, pk_lt i items.length (fun _ => ⟨r, _, _, rfl, h1, rfl, ⟨r + 1, _, _, _, rfl, h3, by decide, rfl, nI_pos' hi, by rw [nI_clamp hi]; exact g1, ⟨Or.inr ⟨_, rfl⟩, H1 h q g2 g3⟩⟩⟩) (fun h => absurd h (by omega))⟩⟩
  · obtain ⟨sc, e⟩ := mt_leaf hl
    subst e
    obtain ⟨n, junk, k1, _⟩ := hT
    have := mt_k_lt (.leaf sc)
    have hk : mt_k (.leaf sc) ≠ 3 := fun e => hl (mt_k3.mp e)
    exact w67_0 ⟨r, _, _, rfl, k1, rfl, ⟨fun _ => H0 (by simp [mt_els]), fun h => absurd ((nI_eq (b := 3) (by omega) (by decide)).mp h) hk⟩⟩
end CV2
