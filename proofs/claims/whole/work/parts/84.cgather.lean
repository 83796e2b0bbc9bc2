/-! VALUES GATHERED by the class: merge, pick -/
abbrev mStp : Type := Nat × (Nat → List Nat) × (Nat → Nat) × (Nat → Nat) × (Nat → Option mT) × (Nat → Option (List Nat)) × Nat × Nat
def sTl (s : mStp) : Nat := s.1
def sSr (s : mStp) : Nat → List Nat := s.2.1
def sMg (s : mStp) : Nat → Nat := s.2.2.1
def sPk (s : mStp) : Nat → Nat := s.2.2.2.1
def sPr (s : mStp) : Nat → Option mT := s.2.2.2.2.1
def sRl (s : mStp) : Nat → Option (List Nat) := s.2.2.2.2.2.1
def sMk (s : mStp) : Nat := s.2.2.2.2.2.2.1
def sMe (s : mStp) : Nat := s.2.2.2.2.2.2.2
def sOk (s : mStp) : Prop := (∀ p, (sSr s p).length ≤ 3 ∧ ∀ c ∈ sSr s p, c < 3 ∨ 10 ≤ c ∧ c < 16) ∧ (∀ p, sMg s p ≤ 2 ∧ sPk s p ≤ 3) ∧ (∀ p t, sPr s p = some t → mt_gd t) ∧ (∀ p D, sRl s p = some D → mD_ok D ∧ ∃ is, rR D = some is) ∧ sMk s ≤ 15 ∧ sMe s ≤ 2
def row4 {α : Type} (f : Nat → α) : List α := [f 0, f 1, f 2, f 3]
theorem row4_get {α : Type} {f : Nat → α} {i : Nat} (h : i < 4) : (row4 f)[i]? = some (f i) := by
  have : i = 0 ∨ i = 1 ∨ i = 2 ∨ i = 3 := by omega
  rcases this with rfl | rfl | rfl | rfl <;> rfl
theorem row4_set {α : Type} {f : Nat → α} {i : Nat} {v : α} (h : i < 4) : (row4 f).set i v = row4 (fun j => if j = i then v else f j) := by
  have : i = 0 ∨ i = 1 ∨ i = 2 ∨ i = 3 := by omega
  rcases this with rfl | rfl | rfl | rfl <;> rfl
/-- room for a list -/
def cLr (hp : mm_H) (r : Nat) : Prop := ∃ x2 x3 x4 x5 x6 items, hp[r]? = some (2, [.null, .ref (r + 1), .int x2, .int x3, .int x4, .int x5, .int x6]) ∧ hp[r + 1]? = some (2002, items) ∧ items.length = 8
theorem cLr.keep {hp hp' : mm_H} {r : Nat} {W : Nat → Prop} (h : cLr hp r) (E : cE W hp hp') (h0 : ¬ W r) (h1 : ¬ W (r + 1)) : cLr hp' r := by
  obtain ⟨x2, x3, x4, x5, x6, cs, a, b, c⟩ := h
  exact ⟨x2, x3, x4, x5, x6, cs, E.at a h0, E.at b h1, c⟩
theorem cO.lr {S : Nat → Prop} {hp : mm_H} {r : Nat} {xs : List mT} (h : cO S hp r xs 8) : cLr hp r := by
  obtain ⟨n, items, a, b, c, _⟩ := h
  exact ⟨_, _, _, _, _, _, a, b, c⟩
/-- a step's cells; tr: its tool's -/
def cSt (hp : mm_H) (r tr : Nat) (s : mStp) : Prop := ∃ (cond : Value) (srcs : List Value) (ps rs : Nat → Value), hp[r]? = some (7, [.ref tr, .ref (r + 1), .ref (r + 2), .ref (r + 3), .ref (r + 4), .ref (r + 5), .ref (r + 6), cond, .int (nI (sMk s)), .int (nI (sMe s))]) ∧ hp[r + 1]? = some (1000, srcs) ∧ srcs.length = 12 ∧ (∀ p, p < 4 → ∀ n (h : n < (sSr s p).length), srcs[3 * p + n]? = some (.int (nI (sSr s p)[n]))) ∧ hp[r + 2]? = some (1000, row4 (fun p => .int (nI (sSr s p).length))) ∧ hp[r + 3]? = some (1000, row4 (fun p => .int (nI (sMg s p)))) ∧ hp[r + 4]? = some (1000, row4 (fun p => .int (nI (sPk s p)))) ∧ hp[r + 5]? = some (2002, row4 ps) ∧ hp[r + 6]? = some (2008, row4 rs) ∧ (∀ p, p < 4 → (sPr s p = none ∧ ps p = .null) ∨ ∃ (t : mT) (q : Nat), sPr s p = some t ∧ ps p = .ref q ∧ cS q ∧ cT cS hp t q) ∧ (∀ p, p < 4 → (sRl s p = none ∧ rs p = .null) ∨ ∃ (D : List Nat) (is : List mIt) (q : Nat), sRl s p = some D ∧ rR D = some is ∧ rs p = .ref q ∧ cRl hp q is D.length ∧ 113 ≤ q) ∧ ((sRl s 4 = none ∧ cond = .null) ∨ ∃ (D : List Nat) (is : List mIt) (q : Nat), sRl s 4 = some D ∧ rR D = some is ∧ cond = .ref q ∧ cRl hp q is D.length ∧ 113 ≤ q) ∧ (∀ v ∈ srcs, ∃ x, v = .int x)
/-- the value of a source -/
def cSv (hp : mm_H) (c : Nat) (t : mT) : Prop := ∃ q : Nat, (c < 3 ∧ (∃ l, hp[3]? = some (2002, l) ∧ l.length = 3 ∧ l[c]? = some (.ref q)) ∨ 10 ≤ c ∧ c < 16 ∧ ∃ vs, hp[56 + 5 * (c - 10)]? = some (5, vs) ∧ vs[11]? = some (.ref q)) ∧ cS q ∧ cT cS hp t q
def cPg : List Value := [.ref 56, .ref 61, .ref 66, .ref 71, .ref 76, .ref 81]
theorem cPg_get {i : Nat} (h : i < 6) : cPg[i]? = some (.ref (56 + 5 * i)) := by
  have : i = 0 ∨ i = 1 ∨ i = 2 ∨ i = 3 ∨ i = 4 ∨ i = 5 := by omega
  rcases this with rfl | rfl | rfl | rfl | rfl | rfl <;> rfl
/-- frames: the expander's own values -/
theorem cE.xs {hp hp' : mm_H} {W : Nat → Prop} (E : cE W hp hp') (hW : ∀ x, W x → 21 ≤ x ∧ x ≤ 51) (h20 : ∃ l, hp[20]? = some (2002, l)) : cX cS hp hp' := by
  refine E.x (fun q vs hq hx => ?_)
  have h1 : ¬ W q := fun g => by
    have := hW q g
    unfold cS at hq
    omega
  refine ⟨h1, fun u cs hu _ g => ?_⟩
  have := hW (q + 1) g
  unfold cS at hq
  have e : q = 20 := by omega
  subst e
  obtain ⟨l, h20⟩ := h20
  rw [h20] at hx; cases hx
theorem cSt.keep {hp hp' : mm_H} {W : Nat → Prop} {r tr : Nat} {s : mStp} (h : cSt hp r tr s) (E : cE W hp hp') (hW : ∀ x, 52 ≤ x → ¬ W x) (Y : cX cS hp hp') (hr : 52 ≤ r) : cSt hp' r tr s := by
  obtain ⟨cond, srcs, ps, rs, h0, h1, hl, h2, h3, h4, h5, h6, h7, h8, h9, h10, h11⟩ := h
  refine ⟨cond, srcs, ps, rs, E.at h0 (hW _ (by omega)), E.at h1 (hW _ (by omega)), hl, h2, E.at h3 (hW _ (by omega)), E.at h4 (hW _ (by omega)), E.at h5 (hW _ (by omega)), E.at h6 (hW _ (by omega)), E.at h7 (hW _ (by omega)), fun p hp4 => ?_, fun p hp4 => ?_, ?_, h11⟩
  · rcases h8 p hp4 with g | ⟨t, q, a, b, c, e⟩
    · exact Or.inl g
    · exact Or.inr ⟨t, q, a, b, c, e.keep c Y⟩
  · rcases h9 p hp4 with g | ⟨D, is, q, a, b, c, e, f⟩
    · exact Or.inl g
    · exact Or.inr ⟨D, is, q, a, b, c, cRu.keep e E (hW _ (by omega)) (hW _ (by omega)), f⟩
  · rcases h10 with g | ⟨D, is, q, a, b, c, e, f⟩
    · exact Or.inl g
    · exact Or.inr ⟨D, is, q, a, b, c, cRu.keep e E (hW _ (by omega)) (hW _ (by omega)), f⟩
theorem cSv.keep {hp hp' : mm_H} {W : Nat → Prop} {c : Nat} {t : mT} (h : cSv hp c t) (E : cE W hp hp') (hW : ∀ x, 52 ≤ x → ¬ W x) (h3 : ¬ W 3) (Y : cX cS hp hp') : cSv hp' c t := by
  obtain ⟨q, hc, hs, T⟩ := h
  refine ⟨q, ?_, hs, T.keep hs Y⟩
  rcases hc with ⟨a, l, b, e⟩ | ⟨a, b, vs, e, f⟩
  · exact Or.inl ⟨a, l, E.at b h3, e⟩
  · exact Or.inr ⟨a, b, vs, E.at e (hW _ (by omega)), f⟩
section CG
variable {X : List Int32} {d : Nat} {hp : mm_H} {Q : Option Value → mm_H → Prop}
/-- sourceValue -/
theorem k64 {c : Nat} {t : mT} (h : cSv hp c t) (h52 : hp[52]? = some (2005, cPg)) (h3 : ∃ l, hp[3]? = some (2002, l) ∧ l.length = 3) (H : ∀ q, cS q → cT cS hp t q → Q (some (.ref q)) hp) : mm_R X (d + 1) 64 0 (mm_L0 64 [.int (nI c), .ref 52, .ref 3]) [] hp Q := by
  obtain ⟨q, hc, hs, T⟩ := h
  rcases hc with ⟨hc3, l, hl, hlen, hg⟩ | ⟨hc1, hc2, vs, hv, hg⟩
  · refine w64_0 (pk_lt c 0 (fun g => absurd g (by omega)) (fun _ => ⟨rfl, 3, _, _, rfl, hl, by decide, rfl, ?_⟩))
    rw [hlen]
    exact pk_le 3 c (fun g => absurd g (by omega)) (fun _ => ⟨3, _, _, _, rfl, hl, by decide, rfl, nI_pos' (by omega), by rw [nI_clamp (by omega)]; exact hg, Or.inr ⟨_, rfl⟩, H q hs T⟩)
  · obtain ⟨l, hl, hlen⟩ := h3
    refine w64_0 (pk_lt c 0 (fun g => absurd g (by omega)) (fun _ => ⟨rfl, 3, _, _, rfl, hl, by decide, rfl, ?_⟩))
    rw [hlen]
    refine pk_le 3 c (fun _ => w64_14 ?_) (fun g => absurd g (by omega))
    rw [show (10 : Int32) = nI 10 from rfl, pk_sub hc1]
    refine pk_lt (c - 10) 0 (fun g => absurd g (by omega)) (fun _ => ⟨rfl, 52, _, _, rfl, h52, by decide, rfl, pk_le 6 (c - 10) (fun g => absurd g (by omega)) (fun _ => ⟨52, _, _, _, rfl, h52, by decide, rfl, nI_pos' (by omega), by rw [nI_clamp (by omega)]; exact cPg_get (by omega), rfl, Or.inr ⟨⟨_, rfl⟩, ⟨_, _, _, rfl, hv, hg, Or.inr ⟨_, rfl⟩, H q hs T⟩⟩⟩)⟩)
theorem k10r {r : Nat} (h : cLr hp r) (H : ∀ hp', cE (fun x => x = r ∨ x = r + 1) hp hp' → cG 0 hp hp' → cO cS hp' r [] 8 → Q none hp') : mm_R X (d + 1) 10 0 (mm_L0 10 [.ref r]) [] hp Q := by
  obtain ⟨x2, x3, x4, x5, x6, items, h1, h2, h3⟩ := h
  have hl := (List.getElem?_eq_some_iff.mp h1).1
  refine k10 h1 (H _ (cE.set (Or.inl rfl)) ⟨by simp, by rw [mm_sz_set h1 (by rfl)]; omega⟩ ⟨x3, items, ?_, ?_, h3, by omega, fun j hj => absurd hj (by simp)⟩)
  · rw [List.getElem?_set_self hl]; rfl
  · rw [List.getElem?_set_ne (by omega)]; exact h2
theorem k63_72 {r tr p : Nat} {s : mStp} {sv : Nat → mT} (hs : sOk s) (hp4 : p < 4) (hsv : ∀ c ∈ sSr s p, mt_gd (sv c)) (hr : 52 ≤ r) : ∀ (ys zs : List Nat) (es : List mT) (hp : mm_H) (o9 o10 : Option Value), sSr s p = zs ++ ys → cSt hp r tr s → (∀ c ∈ ys, cSv hp c (sv c)) → hp[52]? = some (2005, cPg) → (∃ l, hp[3]? = some (2002, l) ∧ l.length = 3) → (∃ l, hp[20]? = some (2002, l)) → cO cS hp (28 + 6 * p) es 8 → (∀ e ∈ es, mt_dp e ≤ 3) →
    (es.length + ((ys.map (fun c => aSp (sMg s p) (sv c))).flatten).length ≤ 8 → (∀ e ∈ (ys.map (fun c => aSp (sMg s p) (sv c))).flatten, mt_dp e < 3) → ∀ hp', cE (fun x => x = 28 + 6 * p ∨ x = 28 + 6 * p + 1) hp hp' → cG 0 hp hp' → cO cS hp' (28 + 6 * p) (es ++ (ys.map (fun c => aSp (sMg s p) (sv c))).flatten) 8 → Q (some (.ref (28 + 6 * p))) hp') →
    (¬ (es.length + ((ys.map (fun c => aSp (sMg s p) (sv c))).flatten).length ≤ 8 ∧ ∀ e ∈ (ys.map (fun c => aSp (sMg s p) (sv c))).flatten, mt_dp e < 3) → ∀ hp', cE (fun x => x = 28 + 6 * p ∨ x = 28 + 6 * p + 1) hp hp' → cG 0 hp hp' → cLr hp' (28 + 6 * p) → Q (some .null) hp') →
    mm_R X (d + 3) 63 72 [some (.ref 13), some (.ref r), some (.int (nI p)), some (.ref 52), some (.ref 3), some (.int (nI (sSr s p).length)), some (.int (nI (3 * p))), some (.ref (28 + 6 * p)), some (.int (nI zs.length)), o9, o10] [] hp Q := by
  have hlen := (hs.1 p).1
  have hnS : ¬ cS (28 + 6 * p) := by unfold cS; omega
  intro ys
  induction ys with
  | nil =>
    intro zs es hp o9 o10 ez ST SV h52 h3 h20 O hed H1 H0
    rw [List.append_nil] at ez
    rw [ez] at hlen
    refine w63_72 ?_
    rw [ez]
    refine ⟨fun _ => ⟨rfl, Or.inr ⟨_, rfl⟩, H1 ?_ (fun e he => nomatch he) hp cE.rf cG.rf (by simpa using O)⟩, fun g => absurd (Int32.le_refl _) g⟩
    have := O.le
    simp; omega
  | cons c ys ih =>
    intro zs es hp o9 o10 ez ST SV h52 h3 h20 O hed H1 H0
    have hcm : c ∈ sSr s p := by rw [ez]; simp
    have gc := hsv c hcm
    have hcd := mt_gl_dp (sv c) 0 gc (by omega)
    have el : (sSr s p).length = zs.length + (ys.length + 1) := by rw [ez]; simp
    obtain ⟨n0, it0, z1, z2, _⟩ := id O
    obtain ⟨cond, srcs, ps, rs, s0, s1, sl, s2, s3, s4, s5, s6, s7, s8, s9, s10, s11⟩ := id ST
    have hc16 := (hs.1 p).2 c hcm
    have hget : srcs[3 * p + zs.length]? = some (.int (nI c)) := by
      have := s2 p hp4 zs.length (by omega)
      rw [this]
      have : (sSr s p)[zs.length]'(by omega) = c := by
        simp [ez]
      rw [this]
    have hmg := (hs.2.1 p).1
    rw [List.map_cons, List.flatten_cons] at H1 H0
    -- after the item or the items
    have next : ∀ (hp1 : mm_H) (x : Int32), cE (fun x => x = 28 + 6 * p ∨ x = 28 + 6 * p + 1) hp hp1 → cG 0 hp hp1 → cO cS hp1 (28 + 6 * p) (es ++ aSp (sMg s p) (sv c)) 8 → (∀ e ∈ aSp (sMg s p) (sv c), mt_dp e < 3) → ∀ o9 o10, mm_R X (d + 2 + 1) 63 72 [some (.ref 13), some (.ref r), some (.int (nI p)), some (.ref 52), some (.ref 3), some (.int (nI (sSr s p).length)), some (.int (nI (3 * p))), some (.ref (28 + 6 * p)), some (.int (nI zs.length + 1)), o9, o10] [] hp1 Q := by
      intro hp1 x E1 G1 O1 hd1 o9 o10
      have hWn : ∀ x, 52 ≤ x → ¬ (x = 28 + 6 * p ∨ x = 28 + 6 * p + 1) := fun x hx => by omega
      have Y := E1.xs (fun x h => by omega) h20
      have := ih (zs ++ [c]) (es ++ aSp (sMg s p) (sv c)) hp1 o9 o10 (by rw [ez]; simp) (ST.keep E1 hWn Y hr) (fun c' hc' => (SV c' (List.mem_cons_of_mem _ hc')).keep E1 hWn (by omega) Y) (E1.at h52 (by omega)) (by obtain ⟨l, a, b⟩ := h3; exact ⟨l, E1.at a (by omega), b⟩) (by obtain ⟨l, a⟩ := h20; exact ⟨l, E1.at a (by omega)⟩) O1 ?_ ?_ ?_
      · rw [List.length_append] at this
        simp only [List.length_cons, List.length_nil] at this
        rw [nI_1]; exact this
      · intro e he
        rcases List.mem_append.mp he with h | h
        · exact hed e h
        · have := hd1 e h; omega
      · intro a1 a2 hp2 E2 G2 O2
        rw [List.length_append] at a1
        refine H1 (by rw [List.length_append]; omega) ?_ hp2 (E1.tr E2) (G1.tr G2) (by simpa using O2)
        intro e he
        rcases List.mem_append.mp he with h | h
        · exact hd1 e h
        · exact a2 e h
      · intro no hp2 E2 G2 L2
        refine H0 ?_ hp2 (E1.tr E2) (G1.tr G2) L2
        rintro ⟨a1, a2⟩
        rw [List.length_append] at a1
        exact no ⟨by rw [List.length_append]; omega, fun e he => a2 e (List.mem_append_right _ he)⟩
    refine w63_72 (pk_le (sSr s p).length zs.length (fun g => absurd g (by omega)) (fun _ => ⟨rfl, r, _, _, rfl, s0, rfl, ?_⟩))
    rw [nI_add]
    refine ⟨r + 1, _, _, rfl, s1, nI_pos' (by omega), by rw [nI_clamp (by omega)]; exact hget, rfl, rfl, k64 (SV c List.mem_cons_self) h52 h3 (fun q sq Tq => ⟨_, rfl, rfl, Or.inr ⟨⟨_, rfl⟩, r, _, _, rfl, s0, rfl, r + 3, _, _, rfl, s4, nI_pos' (by omega), by rw [nI_clamp (by omega)]; exact row4_get hp4, ?_⟩⟩)⟩
    have one : ¬ (sMg s p = 2 ∧ mt_isL (sv c) = true) → ∀ hpx, hpx = hp → mm_R X (d + 2 + 1) 63 127 [some (.ref 13), some (.ref r), some (.int (nI p)), some (.ref 52), some (.ref 3), some (.int (nI (sSr s p).length)), some (.int (nI (3 * p))), some (.ref (28 + 6 * p)), some (.int (nI zs.length)), some (.ref q), o10] [.int 0] hpx Q := by
      rintro hno hpx rfl
      have eSp : aSp (sMg s p) (sv c) = [sv c] := by unfold aSp; rw [if_neg hno]
      rw [eSp] at next H0
      refine w63_127 ⟨fun _ => ⟨rfl, rfl, ⟨_, _, rfl, z1⟩, k32 O Tq sq hnS (by omega) (by have := mt_dp_mk3 hed; omega) (fun a1 a2 hp1 E1 G1 O1 => ⟨_, rfl, fun _ => next hp1 0 E1 G1 O1 (fun e he => by rw [List.mem_singleton] at he; rw [he]; exact a2) _ _, fun g => absurd g (by decide)⟩) (fun hno' hle => ⟨_, rfl, fun g => absurd rfl g, fun _ => H0 ?_ hpx cE.rf cG.rf O.lr⟩)⟩, fun g => absurd rfl g⟩
      rintro ⟨a1, a2⟩
      rw [List.length_append] at a1
      simp only [List.length_cons, List.length_nil] at a1
      exact hno' ⟨by omega, a2 _ (by simp)⟩
    refine pk_ne (sMg s p) 2 (fun e2 => ?_) (fun e2 => one (fun g => e2 g.1) hp rfl)
    obtain ⟨vq, hvq⟩ := Tq.tag
    refine ⟨⟨q, _, rfl, hvq⟩, k65 Tq ⟨_, rfl, ?_⟩⟩
    by_cases hL : mt_isL (sv c) = true
    · rw [if_pos hL]
      refine ⟨fun g => absurd g (by decide), fun _ => ?_⟩
      have eSp : aSp (sMg s p) (sv c) = mt_els (sv c) := by unfold aSp; rw [if_pos ⟨e2, hL⟩]
      rw [eSp] at next H0
      refine w63_127 ⟨fun g => absurd g (by decide), fun _ => ⟨rfl, rfl, ⟨_, _, rfl, z1⟩, k66 (fun e => hnS (e ▸ sq)) hnS gc hL O hed Tq (fun a1 a2 hp1 E1 G1 O1 => ⟨_, rfl, fun _ => next hp1 0 E1 G1 O1 a2 _ _, fun g => absurd g (by decide)⟩) (fun no hp1 xs1 E1 G1 O1 => ⟨_, rfl, fun g => absurd rfl g, fun _ => H0 ?_ hp1 E1 G1 O1.lr⟩)⟩⟩
      rintro ⟨a1, a2⟩
      rw [List.length_append] at a1
      exact no ⟨by omega, fun e he => a2 e (List.mem_append_left _ he)⟩
    · rw [if_neg hL]
      exact ⟨fun _ => one (fun g => hL g.2) hp rfl, fun g => absurd rfl g⟩
/-- merge -/
theorem k63 {r tr p : Nat} {s : mStp} {sv : Nat → mT} (hs : sOk s) (hp4 : p < 4) (hsv : ∀ c ∈ sSr s p, mt_gd (sv c)) (hr : 52 ≤ r) (ST : cSt hp r tr s) (SV : ∀ c ∈ sSr s p, cSv hp c (sv c)) (h52 : hp[52]? = some (2005, cPg)) (h3 : ∃ l, hp[3]? = some (2002, l) ∧ l.length = 3) (h20 : ∃ l, hp[20]? = some (2002, l)) (h13 : hp[13]? = some (4, [.ref 14, .ref 16, .ref 18, .ref 19, .ref 20, .ref 21, .ref 23, .ref 25, .ref 26, .ref 27])) (h18 : hp[18]? = some (2002, [.ref 28, .ref 34, .ref 40, .ref 46])) (h14 : cSc hp none 14) (L : cLr hp (28 + 6 * p))
    (H1 : okB (aMg (sMg s p) ((sSr s p).map sv)) = true → ∀ hp' q, cE (fun x => x = 28 + 6 * p ∨ x = 28 + 6 * p + 1) hp hp' → cG 0 hp hp' → cLr hp' (28 + 6 * p) → cT cS hp' (aMg (sMg s p) ((sSr s p).map sv)) q → (cS q ∨ q = 28 + 6 * p) → Q (some (.ref q)) hp')
    (H0 : ¬ okB (aMg (sMg s p) ((sSr s p).map sv)) = true → ∀ hp', cE (fun x => x = 28 + 6 * p ∨ x = 28 + 6 * p + 1) hp hp' → cG 0 hp hp' → cLr hp' (28 + 6 * p) → Q (some .null) hp') : mm_R X (d + 4) 63 0 (mm_L0 63 [.ref 13, .ref r, .int (nI p), .ref 52, .ref 3]) [] hp Q := by
  obtain ⟨cond, srcs, ps, rs, s0, s1, sl, s2, s3, s4, s5, s6, s7, s8, s9, s10, s11⟩ := id ST
  have hlen := (hs.1 p).1
  have hmg := (hs.2.1 p).1
  have emin : (if (3 : Int32) < nI (sSr s p).length then (3 : Int32) else nI (sSr s p).length) = nI (sSr s p).length := if_neg (nI_nlt (b := (sSr s p).length) (a := 3) hlen (by decide))
  have e28 : ([.ref 28, .ref 34, .ref 40, .ref 46] : List Value)[p]? = some (.ref (28 + 6 * p)) := by
    have : p = 0 ∨ p = 1 ∨ p = 2 ∨ p = 3 := by omega
    rcases this with rfl | rfl | rfl | rfl <;> rfl
  obtain ⟨x2, x3, x4, x5, x6, items, l1, l2, l3⟩ := id L
  -- into the list
  have many : sSr s p ≠ [] → ¬ ((sSr s p).length = 1 ∧ sMg s p = 0) → mw_gv 4 2 (.ref 13) hp (fun v4 => mw_av v4 (nI p) hp (fun v5 => mm_isr v5 = true ∧ mw_rc v5 10 hp ∧ mm_R X (d + 3) 10 0 (mm_L0 10 [v5]) [] hp (mw_r0 (fun hp8 => mm_R X (d + 3 + 1) 63 72 [some (.ref 13), some (.ref r), some (.int (nI p)), some (.ref 52), some (.ref 3), some (.int (nI (sSr s p).length)), some (.int (nI p * (3 : Int32))), some v5, some (.int (0 : Int32)), none, none] [] hp8 Q)))) := by
    intro hne hno
    have eM : aMg (sMg s p) ((sSr s p).map sv) = mt_mk ((((sSr s p).map (fun c => aSp (sMg s p) (sv c)))).flatten) := by
      cases hx : sSr s p with
      | nil => exact absurd hx hne
      | cons a l =>
        cases l with
        | nil =>
          rw [hx] at hno
          have hm : ¬ sMg s p = 0 := fun g => hno ⟨rfl, g⟩
          show (if sMg s p = 0 then sv a else mt_mk (aSp (sMg s p) (sv a))) = _
          rw [if_neg hm]; simp
        | cons b l =>
          show mt_mk (((sv a :: sv b :: l.map sv).map (aSp (sMg s p))).flatten) = _
          simp [List.map_map, Function.comp_def]
    have hgd : ∀ e ∈ (((sSr s p).map (fun c => aSp (sMg s p) (sv c)))).flatten, mt_gd e := by
      intro e he
      rw [List.mem_flatten] at he
      obtain ⟨l, hl, he⟩ := he
      obtain ⟨x, hx, rfl⟩ := List.mem_map.mp hl
      exact aSp_gd (hsv x hx) e he
    rw [eM] at H1 H0
    refine ⟨13, _, _, rfl, h13, rfl, 18, _, _, _, rfl, h18, by decide, rfl, nI_pos' (by omega), by rw [nI_clamp (by omega)]; exact e28, rfl, ⟨_, _, rfl, l1⟩, k10r L (fun hp1 E1 G1 O1 => ⟨rfl, ?_⟩)⟩
    have hWn : ∀ x, 52 ≤ x → ¬ (x = 28 + 6 * p ∨ x = 28 + 6 * p + 1) := fun x hx => by omega
    have Y := E1.xs (fun x h => by omega) h20
    rw [show (3 : Int32) = nI 3 from rfl, pk_mul, Nat.mul_comm p 3]
    refine k63_72 (d := d + 1) (sv := sv) hs hp4 hsv hr (sSr s p) [] [] hp1 none none rfl (ST.keep E1 hWn Y hr) (fun c hc => (SV c hc).keep E1 hWn (by omega) Y) (E1.at h52 (by omega)) (by obtain ⟨l, a, b⟩ := h3; exact ⟨l, E1.at a (by omega), b⟩) (by obtain ⟨l, a⟩ := h20; exact ⟨l, E1.at a (by omega)⟩) O1 (fun e he => nomatch he) ?_ ?_
    · intro a1 a2 hp2 E2 G2 O2
      rw [List.nil_append] at O2
      exact H1 ((okB_mk hgd).mpr ⟨by simpa using a1, a2⟩) hp2 _ (E1.tr E2) (G1.tr G2) O2.lr O2.t (Or.inr rfl)
    · intro no hp2 E2 G2 L2
      exact H0 (fun g => no (by have := (okB_mk hgd).mp g; exact ⟨by simpa using this.1, this.2⟩)) hp2 (E1.tr E2) (G1.tr G2) L2
  refine w63_0 ⟨rfl, r, _, _, rfl, s0, rfl, r + 2, _, _, rfl, s3, nI_pos' (by omega), by rw [nI_clamp (by omega)]; exact row4_get hp4, ?_⟩
  dsimp only
  rw [emin]
  refine pk_ne (sSr s p).length 0 (fun e0 => ?_) (fun e0 => ?_)
  · have e : sSr s p = [] := List.length_eq_zero_iff.mp e0
    have eM : aMg (sMg s p) ((sSr s p).map sv) = .leaf none := by rw [e]; rfl
    rw [eM] at H1
    exact ⟨13, _, _, rfl, h13, rfl, Or.inr ⟨_, rfl⟩, H1 rfl hp 14 cE.rf cG.rf L h14 (Or.inl (by unfold cS; omega))⟩
  · have hne : sSr s p ≠ [] := fun g => e0 (by rw [g]; rfl)
    refine pk_ne (sSr s p).length 1 (fun e1 => ⟨r, _, _, rfl, s0, rfl, r + 3, _, _, rfl, s4, nI_pos' (by omega), by rw [nI_clamp (by omega)]; exact row4_get hp4, pk_ne (sMg s p) 0 (fun m0 => ?_) (fun m0 => many hne (fun g => m0 g.2))⟩) (fun e1 => many hne (fun g => e1 g.1))
    obtain ⟨c, ec⟩ := List.length_eq_one_iff.mp e1
    have hcm : c ∈ sSr s p := by rw [ec]; exact List.mem_cons_self
    have eM : aMg (sMg s p) ((sSr s p).map sv) = sv c := by
      rw [ec]
      show (if sMg s p = 0 then sv c else _) = _
      rw [if_pos m0]
    rw [eM] at H1
    have hget : srcs[3 * p + 0]? = some (.int (nI c)) := by
      have := s2 p hp4 0 (by omega)
      rw [this]
      simp [ec]
    have gc := hsv c hcm
    refine ⟨r, _, _, rfl, s0, rfl, ?_⟩
    rw [show (3 : Int32) = nI 3 from rfl, pk_mul]
    refine ⟨r + 1, _, _, rfl, s1, nI_pos' (by omega), by rw [nI_clamp (by omega), Nat.mul_comm p 3]; exact hget, rfl, rfl, k64 (SV c hcm) h52 h3 (fun q sq Tq => ⟨_, rfl, Or.inr ⟨_, rfl⟩, H1 (okB_iff.mpr (mt_okl_0.mp gc.1)) hp q cE.rf cG.rf L Tq (Or.inl sq)⟩)⟩
end CG
