/-! THE REFERENCE PREPARES A JOB -/
def xF (k : Nat) : Prop := k = 35 ∨ k = 36 ∨ k = 38 ∨ k = 39 ∨ k = 40 ∨ k = 42 ∨ k = 43
def xB (job b j : Nat) : Prop := b = 108 ∧ j = job ∨ wdB job b j
def xP (job p : Nat) : Prop := wA job p ∨ 19032 ≤ p ∧ p < 19128
def xW (job x : Nat) : Prop := 133 ≤ x ∧ x ≤ 141 ∨ x = 27 + job
def xK (job : Nat) (σ σ' : mS) : Prop := mKp xF (xB job) (xP job) (xW job) σ σ'
theorem xK.rf {job : Nat} {σ : mS} : xK job σ σ := mKp.rf
theorem xK.tr {job : Nat} {a b c : mS} (h : xK job a b) (k : xK job b c) : xK job a c := mKp.tr h k
theorem xK.set {job : Nat} {σ : mS} {k : Nat} {v : Int32} (h : xF k) : xK job σ (mSet σ k v) := by
  refine ⟨fun j hj => ?_, fun _ _ _ _ => rfl, fun _ _ => rfl, fun _ _ _ => ⟨rfl, fun _ _ => rfl⟩⟩
  show (if j = k then v else σ.1 j) = σ.1 j
  rw [if_neg (fun e => hj (by rw [e]; exact h))]
theorem putK {job : Nat} {σ : mS} {v : Int32} : mKp mN1 (fun b j => b = 108 ∧ j = job) mN1 mN1 σ (uI σ 108 job v) := by
  refine ⟨fun _ _ => rfl, fun b j hb hB => ?_, fun _ _ => rfl, fun s hs _ => ⟨?_, fun _ _ => rfl⟩⟩
  · show (if b = 108 ∧ j = job then v else σ.2.1 b j) = σ.2.1 b j
    rw [if_neg hB]
  · show (if 90 = 108 ∧ s = job then v else σ.2.1 90 s) = σ.2.1 90 s
    rw [if_neg (by omega)]
theorem setK {σ : mS} {k : Nat} {v : Int32} : mKp (fun j => j = k) mN2 mN1 mN1 σ (mSet σ k v) := by
  refine ⟨fun j hj => ?_, fun _ _ _ _ => rfl, fun _ _ => rfl, fun _ _ _ => ⟨rfl, fun _ _ => rfl⟩⟩
  show (if j = k then v else σ.1 j) = σ.1 j
  rw [if_neg hj]
theorem xK.put {job : Nat} {σ : mS} {v : Int32} : xK job σ (uI σ 108 job v) := putK.mono (fun _ h => h.elim) (fun b j h => Or.inl h) (fun _ h => h.elim) (fun _ h => h.elim)
theorem sE.xk {σ σ' : mS} {E : mEv} {job : Nat} (h : sE σ E) (K : xK job σ σ') : sE σ' E :=
  h.kp K ⟨by unfold xF; omega, by unfold xF; omega⟩ (fun b j h1 h2 hB => by unfold xB wdB at hB; omega) (fun p hp hP => by unfold xP wA at hP; omega) (fun s hs hW => by unfold xW at hW; omega)
theorem sE.set {σ : mS} {E : mEv} {k : Nat} {v : Int32} (h : sE σ E) (hk : xF k) : sE (mSet σ k v) E := h.xk (job := 0) (xK.set hk)
section RPR
variable {X : List Int32} {d : Nat} {σ : mS} {Q : Option Value → mS → Prop} {A : Nat → Prop}
theorem t120 {s : Nat} (hs : s < 142) (hc : 0 < mcp s) (H : ∀ σ', mKp mN1 mN2 mN1 (fun x => x = s) σ σ' → mSlot σ' A s (mt_tk (.leaf none) 0) → Q none σ') : mM X (d + 3) 120 0 (mm_L0 120 [.ref 86, .int (nI s)]) [] σ Q := by
  refine u120_0 (mSlot.clear (A := A) hs (fun σ1 K1 D1 => ⟨rfl, (D1 A).add (k := 0) (l := 0) (v := 0) hc (by omega) (by omega) (fun σ2 K2 D2 => ⟨rfl, H σ2 (K1.tr K2) D2⟩)⟩))
theorem t176_147 {E : mEv} {s n np : Nat} {bf : Nat → mT} {i3 : Int32} (hs : s < 6) (hn : n < 16) (hso : sOk (eSt E s)) (ht4 : sTl (eSt E s) < 4) (hto : tOk (eTo E s)) (hnp : np = (eTo E s).2.length) (hnp4 : np ≤ 4) (hg : ∀ p, mt_gd (bf p)) (hA : ∀ p, A p → p < 19032 ∧ ¬ wA (16 * s + n) p)
    (HF : ((∃ p, p < 4 ∧ aAf (eSt E s) np bf p = none) ∨ (∀ p, p < 4 → aAf (eSt E s) np bf p ≠ none) ∧ (aCo (eSt E s) (aAo (eSt E s) np bf)).bind (fun c => if aOff c = true then some none else (aCmd (eTo E s).2 (aAo (eSt E s) np bf)).map some) = none) → ∀ σ', xK (16 * s + n) σ σ' → σ'.1 44 = 0 → Q (some (.int 0)) σ')
    (HS : (∀ p, p < 4 → aAf (eSt E s) np bf p ≠ none) → (aCo (eSt E s) (aAo (eSt E s) np bf)).bind (fun c => if aOff c = true then some none else (aCmd (eTo E s).2 (aAo (eSt E s) np bf)).map some) = some none → ∀ σ', xK (16 * s + n) σ σ' → σ'.1 44 = 0 → σ'.2.1 108 (16 * s + n) = 3 → mSlot σ' mN1 (27 + (16 * s + n)) (mt_tk (.leaf none) 0) → Q (some (.int 1)) σ')
    (HC : (∀ p, p < 4 → aAf (eSt E s) np bf p ≠ none) → ∀ ws, (aCo (eSt E s) (aAo (eSt E s) np bf)).bind (fun c => if aOff c = true then some none else (aCmd (eTo E s).2 (aAo (eSt E s) np bf)).map some) = some (some ws) → ∀ σ', xK (16 * s + n) σ σ' → σ'.1 44 = 0 → σ'.2.1 108 (16 * s + n) = 1 → wdT σ' (16 * s + n) ws → ws.length ≤ 8 → Q (some (.int 1)) σ') :
    ∀ (m p : Nat) (σ2 : mS) (o6 : Option Value), p + m = 4 → sE σ2 E → σ2.1 44 = 0 → xK (16 * s + n) σ σ2 → (∀ i, i < 4 → mSlot σ2 A (133 + i) (mt_tk (bf i) 0)) → (∀ i, i < p → aAf (eSt E s) np bf i ≠ none ∧ mSlot σ2 (fun y => A y ∨ 19032 ≤ y ∧ y < 19032 + 24 * (i + 1)) (137 + i) (mt_tk (aAo (eSt E s) np bf i) 0)) →
    mM X (d + 10) 176 147 [some (.ref 86), some (.int (nI s)), some (.int (nI n)), some (.int i3), some (.int (nI np)), some (.int (nI p)), o6] [] σ2 Q := by
  have hjob : 16 * s + n < 96 := by omega
  have ejob : ((16 : Int32) * nI s) + nI n = nI (16 * s + n) := by rw [show (16 : Int32) = nI 16 from rfl, pk_mul, nI_add]
  have e24s : (24 : Int32) + nI s = nI (24 + s) := by rw [show (24 : Int32) = nI 24 from rfl, nI_add]
  have hmg : ∀ i, mt_g (aAo (eSt E s) np bf i) := fun i => mt_gd_g (aAo_gd hg)
  intro m
  induction m with
  | zero =>
    intro p σ2 o6 hm hE h44 K SJ SR
    have e4 : p = 4 := by omega
    subst e4
    have hall : ∀ p, p < 4 → aAf (eSt E s) np bf p ≠ none := fun p hp => (SR p hp).1
    have SB : ∀ i, i < 4 → mSlot σ2 (fun y => A y ∨ 19032 ≤ y ∧ y < 19128) (137 + i) (mt_tk (aAo (eSt E s) np bf i) 0) := fun i hi => (SR i hi).2.weak (fun y hy => hy.imp id (fun h => by omega))
    have hB : ∀ y, (A y ∨ 19032 ≤ y ∧ y < 19128) → ¬ wA (16 * s + n) y := fun y hy => hy.elim (fun h => (hA y h).2) (fun h g => by unfold wA at g; omega)
    have cmd : ∀ (σ3 : mS), (∃ c, aCo (eSt E s) (aAo (eSt E s) np bf) = some c ∧ aOff c = false) → sE σ3 E → σ3.1 44 = 0 → xK (16 * s + n) σ σ3 → (∀ i, i < 4 → mSlot σ3 (fun y => A y ∨ 19032 ≤ y ∧ y < 19128) (137 + i) (mt_tk (aAo (eSt E s) np bf i) 0)) → ∀ σ4, σ4 = mPut σ3 108 (nI (16 * s + n)) 1 → mM X (d + 9) 189 0 (mm_L0 189 [.ref 86, .int (nI s), .int (nI (16 * s + n))]) [] σ4 (mi_K (fun x5 σ5 => (x5 = 0 ∨ x5 = 1) ∧ Q (some (.int x5)) σ5)) := by
      rintro σ3 ⟨c, ec, hoff⟩ hE3 h443 K3 S3 σ4 rfl
      rw [uI_e (by omega)]
      have K4 : xK (16 * s + n) σ3 (uI σ3 108 (16 * s + n) 1) := xK.put
      have ebind : (aCo (eSt E s) (aAo (eSt E s) np bf)).bind (fun c => if aOff c = true then some none else (aCmd (eTo E s).2 (aAo (eSt E s) np bf)).map some) = (aCmd (eTo E s).2 (aAo (eSt E s) np bf)).map some := by
        rw [ec]; show (if aOff c = true then some none else _) = _; rw [hoff]; rfl
      rw [ebind] at HF HS HC
      have wx : ∀ {a b : mS}, wdK (16 * s + n) a b → xK (16 * s + n) a b := fun K => K.mono (fun k h => by unfold xF; omega) (fun b j h => Or.inr h) (fun p h => Or.inl h) (fun _ h => h.elim)
      have hlen : (eTo E s).2.length ≤ 4 := by omega
      refine t189 (d := d + 2) (hE3.xk K4) hs hjob ht4 hto hlen (fun i => aAo_gd hg) hB h443 (fun q hq => (S3 q (Nat.lt_of_lt_of_le hq hlen)).keep (putK (v := 1)) id (fun y hy => id)) ?_ ?_
      · intro ws hw σ5 K5 W5
        refine ⟨_, rfl, Or.inr rfl, HC hall ws (by rw [hw]; rfl) σ5 ((K3.tr K4).tr (wx K5)) W5.1 ?_ W5.2.2.2 W5.2.2.1⟩
        rw [K5.2.1 108 _ (by decide) (fun h => by unfold wdB at h; omega)]
        show (if (108 : Nat) = 108 ∧ 16 * s + n = 16 * s + n then 1 else _) = _
        rw [if_pos ⟨rfl, rfl⟩]
      · intro hw σ5 K5
        refine ⟨_, rfl, Or.inl rfl, HF (Or.inr ⟨hall, by rw [hw]; rfl⟩) σ5 ((K3.tr K4).tr (wx K5)) ?_⟩
        rw [K5.1 44 (by omega)]; exact h443
    obtain ⟨_, _, e3, e4, _⟩ := id hE
    obtain ⟨a1, a2, a3, a4, _⟩ := e4 s hs
    refine u176_147 ⟨fun _ => ?_, fun g => absurd (Int32.le_refl _) g⟩
    rw [e24s, ejob]
    refine ⟨m_ix (by omega) (by decide), ?_⟩
    rw [mGet_e (by omega)]
    rcases a4 with ⟨r1, r2⟩ | ⟨D, r1, r2⟩
    · rw [r2]
      refine ⟨fun _ => ⟨m_ix hjob (by decide), cmd σ2 ⟨_, (by unfold aCo; rw [r1]), rfl⟩ hE h44 K SB⟩, fun g => absurd (by decide) g⟩
    · obtain ⟨hD, is, hI⟩ := hso.2.2.2.1 4 D r1
      have eis : rIs D = is := by unfold rIs; rw [hI]; rfl
      have eCo : aCo (eSt E s) (aAo (eSt E s) np bf) = rW (aAo (eSt E s) np bf) (.leaf none) is := by unfold aCo; rw [r1]; show rW _ _ (rIs D) = _; rw [eis]
      rw [r2.2.1]
      refine ⟨fun g => absurd g (nI_nlt (a := D.length) (b := 0) (by omega) (by have := hD.1; omega)), fun _ => ?_⟩
      rintro σ6 rfl
      rw [show (192 : Int32) = nI 192 from rfl, pk_mul, show (600 : Int32) = nI 600 from rfl, nI_add]
      have K6 : xK (16 * s + n) σ2 (mSet σ2 39 (nI (600 + 192 * (16 * s + n)))) := xK.set (by unfold xF; omega)
      have ux : ∀ {a b : mS}, uK (600 + 192 * (16 * s + n)) 141 a b → xK (16 * s + n) a b := fun K => K.mono (fun k h => by unfold xF; omega) (fun _ _ h => h.elim) (fun p h => Or.inl ⟨h.1, by have := h.2; omega⟩) (fun x h => Or.inl (by omega))
      refine t179 (d := d) (sl := 137) (m := 600 + 192 * (16 * s + n)) (to := 141) (pt := aAo (eSt E s) np bf) (self := .leaf none) (A := fun y => A y ∨ 19032 ≤ y ∧ y < 19128) r2 hI (by omega) (by omega) (by omega) (fun y hy g => hB y hy ⟨g.1, by have := g.2; omega⟩) (by omega) rfl hmg (mt_gd_g mt_gd_nul) SB (Or.inl ⟨rfl, rfl⟩) (by omega) rfl h44 ?_ ?_
      · intro t ht σ7 K7 S7 tg
        have tgd := mt_g_gd tg
        have K7' := K.tr (K6.tr (ux K7))
        have h447 : σ7.1 44 = 0 := by rw [K7.1 44 (by omega)]; exact h44
        have SB7 : ∀ i, i < 4 → mSlot σ7 (fun y => A y ∨ 19032 ≤ y ∧ y < 19128) (137 + i) (mt_tk (aAo (eSt E s) np bf i) 0) := fun i hi => ((SB i hi).keep (setK (k := 39) (v := nI (600 + 192 * (16 * s + n)))) id (fun _ _ h => h)).keep K7 (by omega) (fun y hy g => hB y hy ⟨g.1, by have := g.2; omega⟩)
        have hE7 : sE σ7 E := (hE.xk K6).xk (ux K7)
        obtain ⟨u, us', etk, eu, el, en, _⟩ := mt_tk_ne t 0
        have hu : (mt_tk t 0)[0]? = some u := by rw [etk]; rfl
        have hk4 := mt_k_lt t
        have eCo' : aCo (eSt E s) (aAo (eSt E s) np bf) = some t := by rw [eCo, ht]
        have off : aOff t = true → ∀ σ8 : mS, xK (16 * s + n) σ σ8 → σ8.1 44 = 0 → mM X (d + 9) 120 0 (mm_L0 120 [.ref 86, .int (nI (27 + (16 * s + n)))]) [] σ8 (m0_K (fun σ13 => (0 ≤ nI (16 * s + n) ∧ Int32.toNatClampNeg (nI (16 * s + n)) < 96) ∧ ∀ σ15, σ15 = mPut σ13 108 (nI (16 * s + n)) (3 : Int32) → Q (some (.int (1 : Int32))) σ15)) := by
          intro ho σ8 K8 h448
          refine t120 (A := mN1) (by omega) (by unfold mcp; rw [if_neg (by omega), if_pos (by omega)]; omega) (fun σ9 K9 S9 => ⟨rfl, m_ix hjob (by decide), ?_⟩)
          rintro σ10 rfl
          rw [uI_e (by omega)]
          refine HS hall ?_ _ ((K8.tr (K9.mono (fun _ h => h.elim) (fun _ _ h => h.elim) (fun _ h => h.elim) (fun x h => Or.inr h))).tr xK.put) ?_ ?_ ?_
          · rw [eCo']; show (if aOff t = true then some none else _) = _; rw [if_pos ho]
          · show σ9.1 44 = 0
            rw [K9.1 44 id]; exact h448
          · show (if (108 : Nat) = 108 ∧ 16 * s + n = 16 * s + n then 3 else _) = _
            rw [if_pos ⟨rfl, rfl⟩]
          · exact S9.keep (putK (v := 3)) id (fun _ _ h => h)
        refine ⟨_, rfl, fun _ => s123 (s := 141) (by omega) ⟨_, rfl, t144 (i := 0) (u := u) S7 hu ⟨_, rfl, ?_⟩⟩, fun g => absurd g (by decide)⟩
        rw [eu, show (27 : Int32) = nI 27 from rfl, nI_add]
        refine pk_eq (mt_k t) 0 (fun h0 => off (by unfold aOff; rw [h0]; rfl) σ7 K7' h447) (fun h0 => ?_)
        refine t144 (i := 0) (u := u) S7 hu ⟨_, rfl, ?_⟩
        rw [eu]
        have hb0 : (mt_k t == 0) = false := by simpa using h0
        refine pk_ne (mt_k t) 1 (fun h1 => ?_) (fun h1 => ⟨m_ix hjob (by decide), cmd σ7 ⟨t, eCo', ?_⟩ hE7 h447 K7' SB7⟩)
        · refine t151 (i := 0) (u := u) S7 hu ⟨_, rfl, ?_⟩
          rw [en]
          refine ⟨fun hz => ⟨m_ix hjob (by decide), cmd σ7 ⟨t, eCo', ?_⟩ hE7 h447 K7' SB7⟩, fun hz => off ?_ σ7 K7' h447⟩
          · unfold aOff; rw [hb0, h1]
            have : (mt_num t == 0) = false := by simpa using hz
            rw [this]; rfl
          · unfold aOff; rw [hz, h1]; rfl
        · have : (mt_k t == 1) = false := by simpa using h1
          unfold aOff; rw [hb0, this]; rfl
      · intro ht σ7 K7
        refine ⟨_, rfl, fun g => absurd rfl g, fun _ => HF (Or.inr ⟨hall, ?_⟩) σ7 (K.tr (K6.tr (ux K7))) ?_⟩
        · rw [eCo, ht]; rfl
        · rw [K7.1 44 (by omega)]; exact h44
  | succ m ih =>
    intro p σ2 o6 hm hE h44 K SJ SR
    have hp4 : p < 4 := by omega
    obtain ⟨_, _, e3, e4, _⟩ := id hE
    obtain ⟨a1, a2, a3, a4, a5⟩ := e4 s hs
    obtain ⟨_, _, _, _, b5, _⟩ := a5 p hp4
    refine u176_147 (pk_le 4 p (fun g => absurd g (by omega)) (fun _ => ?_))
    rintro σ3 rfl
    rw [show (24 : Int32) = nI 24 from rfl, pk_mul, show (19032 : Int32) = nI 19032 from rfl, nI_add, show (133 : Int32) = nI 133 from rfl, nI_add, show (137 : Int32) = nI 137 from rfl, nI_add, show (4 : Int32) = nI 4 from rfl, pk_mul, nI_add]
    have K3 : xK (16 * s + n) σ2 (mSet σ2 39 (nI (19032 + 24 * p))) := xK.set (by unfold xF; omega)
    have sK := setK (σ := σ2) (k := 39) (v := nI (19032 + 24 * p))
    have hE3 := hE.xk K3
    have SJ3 : ∀ i, i < 4 → mSlot (mSet σ2 39 (nI (19032 + 24 * p))) A (133 + i) (mt_tk (bf i) 0) := fun i hi => (SJ i hi).keep sK id (fun _ _ h => h)
    have hcap : mcp (137 + p) = 544 := by unfold mcp; rw [if_neg (by omega), if_neg (by omega), if_neg (by omega)]
    have next : ∀ (σ4 : mS) (P : Nat → Prop) (o6 : Option Value), mKp xF mN2 P (fun x => x = 137 + p) (mSet σ2 39 (nI (19032 + 24 * p))) σ4 → (∀ y, P y → 19032 + 24 * p ≤ y ∧ y < 19032 + 24 * p + 24) → σ4.1 44 = 0 → aAf (eSt E s) np bf p ≠ none → mSlot σ4 (fun y => A y ∨ 19032 ≤ y ∧ y < 19032 + 24 * (p + 1)) (137 + p) (mt_tk (aAo (eSt E s) np bf p) 0) → mM X (d + 10) 176 147 [some (.ref 86), some (.int (nI s)), some (.int (nI n)), some (.int i3), some (.int (nI np)), some (.int (nI p + 1)), o6] [] σ4 Q := by
      intro σ4 P o6 K4 hP h444 hne S4
      rw [nI_1]
      have K4x : xK (16 * s + n) (mSet σ2 39 (nI (19032 + 24 * p))) σ4 := K4.mono (fun _ h => h) (fun _ _ h => h.elim) (fun y h => Or.inr (by have := hP y h; omega)) (fun x h => Or.inl (by omega))
      refine ih (p + 1) σ4 o6 (by omega) (hE3.xk K4x) h444 (K.tr (K3.tr K4x)) (fun i hi => (SJ3 i hi).keep K4 (by omega) (fun y hy g => by have := hP y g; have := (hA y hy).1; omega)) (fun i hi => ?_)
      by_cases e : i = p
      · subst e; exact ⟨hne, S4⟩
      · obtain ⟨c1, c2⟩ := SR i (by omega)
        refine ⟨c1, (c2.keep sK id (fun _ _ h => h)).keep K4 (by omega) (fun y hy g => ?_)⟩
        have := hP y g
        rcases hy with hy | hy
        · have := (hA y hy).1; omega
        · omega
    have plain : aAf (eSt E s) np bf p = some (bf p) → mM X (d + 9) 149 0 (mm_L0 149 [.ref 86, .int (nI (133 + p)), .int (nI (137 + p))]) [] (mSet σ2 39 (nI (19032 + 24 * p))) (m0_K (fun σ32 => mM X (d + 10) 176 147 [some (.ref 86), some (.int (nI s)), some (.int (nI n)), some (.int i3), some (.int (nI np)), some (.int (nI p + 1)), o6] [] σ32 Q)) := by
      intro ea
      have eo : aAo (eSt E s) np bf p = bf p := by unfold aAo; rw [ea]; rfl
      have hr := (SJ3 p hp4).2.1
      have hcap2 : mcp (133 + p) = 544 := by unfold mcp; rw [if_neg (by omega), if_neg (by omega), if_neg (by omega)]
      refine t149 (SJ3 p hp4) (by omega) (by omega) (by omega) (by have := mt_gd_dp (hg p); omega) (fun σ4 K4 S4 => ⟨rfl, next σ4 mN1 o6 (K4.mono (fun _ h => h.elim) (fun _ _ h => h) (fun _ h => h) (fun _ h => h)) (fun _ h => h.elim) ?_ (by rw [ea]; intro z; cases z) ?_⟩)
      · rw [K4.1 44 id]; exact h44
      · rw [eo]; exact S4.weak (fun y hy => Or.inl hy)
    refine pk_le np p (fun hge => plain (by unfold aAf; rw [if_neg (by omega)])) (fun hlt => ⟨m_ix (by omega) (by decide), ?_⟩)
    rw [mGet_e (by omega)]
    have e105 : (mSet σ2 39 (nI (19032 + 24 * p))).2.1 105 (4 * s + p) = σ2.2.1 105 (4 * s + p) := rfl
    rw [e105]
    rcases b5 with ⟨r1, r2⟩ | ⟨D, r1, r2⟩
    · rw [r2]
      refine ⟨fun g => absurd g (by decide), fun _ => plain ?_⟩
      unfold aAf; rw [if_pos hlt, r1]
    · obtain ⟨hD, is, hI⟩ := hso.2.2.2.1 p D r1
      have eis : rIs D = is := by unfold rIs; rw [hI]; rfl
      have ea : aAf (eSt E s) np bf p = rW bf (bf p) is := by unfold aAf; rw [if_pos hlt, r1]; show rW _ _ (rIs D) = _; rw [eis]
      rw [r2.2.1]
      refine ⟨fun _ => ?_, fun g => absurd (nI_pos' (by have := hD.1; omega)) g⟩
      have r2' : sRu (mSet σ2 39 (nI (19032 + 24 * p))) (4 * s + p) D := r2
      refine t179 (d := d) (sl := 133) (m := 19032 + 24 * p) (to := 137 + p) (pt := bf) (self := bf p) (A := A) r2' hI (by omega) (by omega) (by omega) (fun y hy g => by have := (hA y hy).1; have := g.1; omega) (by omega) hcap (fun i => mt_gd_g (hg i)) (mt_gd_g (hg p)) SJ3 (Or.inr ⟨133 + p, by omega, by omega, rfl, SJ3 p hp4⟩) (by omega) rfl h44 ?_ ?_
      · intro t ht σ4 K4 S4 tg
        refine ⟨_, rfl, fun _ => next σ4 _ o6 (K4.mono (fun k h => by unfold xF; omega) (fun _ _ h => h) (fun _ h => h) (fun _ h => h)) (fun y h => h) ?_ (by rw [ea, ht]; intro z; cases z) ?_, fun g => absurd g (by decide)⟩
        · rw [K4.1 44 (by omega)]; exact h44
        · have eo : aAo (eSt E s) np bf p = t := by unfold aAo; rw [ea, ht]; rfl
          rw [eo]
          exact S4.weak (fun y hy => hy.imp id (fun h => by unfold oA at h; omega))
      · intro ht σ4 K4
        refine ⟨_, rfl, fun g => absurd rfl g, fun _ => HF (Or.inl ⟨p, hp4, by rw [ea, ht]⟩) σ4 ((K.tr K3).tr (K4.mono (fun k h => by unfold xF; omega) (fun _ _ h => h.elim) (fun y h => Or.inr (by unfold oA at h; omega)) (fun x h => Or.inl (by omega)))) ?_⟩
        rw [K4.1 44 (by omega)]; exact h44
end RPR
