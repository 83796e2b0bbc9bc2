/-! THE REFERENCE GATHERS -/
theorem mt_tk_ln : ∀ (t : mT) (l m : Nat), (mt_tk t l).length = (mt_tk t m).length := by
  intro t
  induction t using mt_ind with
  | hs sc => intro l m; rfl
  | hl t ht ih =>
    intro l m
    rw [mt_tk_list ht, mt_tk_list ht, List.length_cons, List.length_cons]
    have : ∀ (xs : List mT), (∀ x ∈ xs, ∀ l m, (mt_tk x l).length = (mt_tk x m).length) → ∀ l m, (mt_tks xs l).length = (mt_tks xs m).length := by
      intro xs
      induction xs with
      | nil => intro _ l m; rfl
      | cons x xs ihx =>
        intro h l m
        rw [mt_tks_cons, mt_tks_cons, List.length_append, List.length_append, h x (by simp) l m, ihx (fun y hy => h y (by simp [hy])) l m]
    rw [this _ ih (l + 1) (m + 1)]
theorem mt_tks_ln (xs : List mT) (l m : Nat) : (mt_tks xs l).length = (mt_tks xs m).length := by
  induction xs with
  | nil => rfl
  | cons x xs ih => rw [mt_tks_cons, mt_tks_cons, List.length_append, List.length_append, mt_tk_ln x l m, ih]
def sl (c : Nat) : Nat := if c < 3 then c else 113 + c
theorem sl_lt {c : Nat} (h : c < 3 ∨ 10 ≤ c ∧ c < 16) : sl c < 129 ∧ mcp (sl c) ≤ 176 := by
  unfold sl mcp
  split
  · rw [if_pos (by omega)]; omega
  · rw [if_neg (by omega), if_neg (by omega), if_pos (by omega)]; omega
section RGA
variable {X : List Int32} {d : Nat} {σ : mS} {Q : Option Value → mS → Prop} {A : Nat → Prop}
theorem sl_at {c : Nat} (h : c < 3 ∨ 10 ≤ c ∧ c < 16) {K : Int32 → Prop} (H : K (nI (sl c))) : ((3 : Int32) ≤ nI c → K (((123 : Int32) + nI c) - (10 : Int32))) ∧ (¬ (3 : Int32) ≤ nI c → K (nI c)) := by
  refine pk_le 3 c (fun g => ?_) (fun g => ?_)
  · rw [show (123 : Int32) = nI 123 from rfl, nI_add, show (10 : Int32) = nI 10 from rfl, pk_sub (by omega)]
    unfold sl at H
    rw [if_neg (by omega)] at H
    rw [show 123 + c - 10 = 113 + c by omega]; exact H
  · unfold sl at H
    rw [if_pos g] at H; exact H
theorem t170 {c to deep : Nat} {us : List mTk} {t : mT} (hc : c < 3 ∨ 10 ≤ c ∧ c < 16) (S : mSlot σ A (sl c) (mt_tk t 0)) (D : mSlot σ A to us) (hto : 129 ≤ to) (hcap : us.length + (mt_tk t deep).length ≤ mcp to) (hdp : deep + mt_dp t < 64)
    (H : ∀ σ', mKp mN1 mN2 mN1 (· = to) σ σ' → mSlot σ' A to (us ++ mt_tk t deep) → Q none σ') : mM X (d + 4) 170 0 (mm_L0 170 [.ref 86, .int (nI c), .int (nI to), .int (nI deep)]) [] σ Q := by
  have hl := (sl_lt hc).1
  refine u170_0 (sl_at (K := fun z => mM X (d + 3) 123 0 (mm_L0 123 [.int z]) [] σ (mi_K (fun x2 σ1 => mM X (d + 3) 143 0 (mm_L0 143 [.ref 86, .int z]) [] σ1 (mi_K (fun x4 σ3 => mM X (d + 3) 150 0 (mm_L0 150 [.ref 86, .int x2, .int x4, .int (nI to), .int (nI deep)]) [] σ3 (m0_K (fun σ5 => Q none σ5))))))) hc ?_)
  refine s123 S.1 ⟨_, rfl, s143 S.1 S.2.2.1 ⟨_, rfl, ?_⟩⟩
  refine t150 (t := t) (l := 0) (deep := deep) (pre := []) (rest := []) S (by simp) (mt_cl_nil 0) rfl rfl D (by omega) hcap hdp ?_
  intro σ' K D'
  exact ⟨rfl, H σ' K D'⟩
/-- the elements of a list, one after the other -/
theorem t171_85 {to s : Nat} {t : mT} {i1 i3 i4 : Int32} (ht : mt_isL t = true) (hne : s ≠ to) (hd : ∀ x ∈ mt_els t, mt_dp x < 60) :
    ∀ (ys zs : List mT) (us : List mTk) (σ2 : mS), mt_els t = zs ++ ys → mSlot σ2 A s (mt_tk t 0) → mSlot σ2 A to us → us.length + (mt_tks ys 1).length ≤ mcp to → mKp mN1 mN2 mN1 (· = to) σ σ2 →
    (∀ σ' o4 o5 o6, mKp mN1 mN2 mN1 (· = to) σ σ' → mSlot σ' A to (us ++ mt_tks ys 1) → mM X (d + 4) 171 10 [some (.ref 86), some (.int i1), some (.int (nI to)), some (.int (i3 + 1)), o4, o5, o6] [] σ' Q) →
    mM X (d + 4) 171 85 [some (.ref 86), some (.int i1), some (.int (nI to)), some (.int i3), some (.int i4), some (.int (nI s)), some (.int (nI (mb s + (1 + (mt_tks zs 1).length))))] [] σ2 Q := by
  intro ys
  induction ys with
  | nil =>
    intro zs us σ2 ez S D hcap K HH
    rw [List.append_nil] at ez
    have el : (mt_tk t 0).length = 1 + (mt_tks zs 1).length := by rw [mt_tk_list ht, ez, List.length_cons]; exact Nat.add_comm _ _
    refine u171_85 (s143 S.1 S.2.2.1 ⟨_, rfl, ?_⟩)
    rw [el]
    refine ⟨fun _ => HH σ2 _ _ _ K (by simpa [mt_tks] using D), fun g => absurd (Int32.le_refl _) g⟩
  | cons y ys ih =>
    intro zs us σ2 ez S D hcap K HH
    have hy := mt_tk_pos y 1
    have hlt := S.lt
    have etk : mt_tk t 0 = ((3, 0, 0, []) :: mt_tks zs 1) ++ (mt_tk y 1 ++ mt_tks ys 1) := by rw [mt_tk_list ht, ez, mt_tks_app, mt_tks_cons]; simp
    have el : (mt_tk t 0).length = 1 + (mt_tks zs 1).length + ((mt_tk y 1).length + (mt_tks ys 1).length) := by rw [etk, List.length_append, List.length_append, List.length_cons]; omega
    have hcl : mt_cl 1 (mt_tks ys 1) := by have := mt_cl_tks (l := 1) (ts := ys) (mt_cl_nil 1); rwa [List.append_nil] at this
    rw [mt_tks_cons, List.length_append] at hcap
    refine u171_85 (s143 S.1 S.2.2.1 ⟨_, rfl, pk_le (mb s + (mt_tk t 0).length) (mb s + (1 + (mt_tks zs 1).length)) (fun g => absurd g (by omega)) (fun _ => s143 S.1 S.2.2.1 ⟨_, rfl, ?_⟩)⟩)
    refine t150 (t := y) (l := 1) (deep := 1) (pre := (3, 0, 0, []) :: mt_tks zs 1) (rest := mt_tks ys 1) S etk hcl (by rw [List.length_cons]; omega) rfl D hne (by omega) (by have := hd y (by rw [ez]; simp); omega) ?_
    intro σ3 K3 D3
    have S3 := S.keep K3 hne (fun _ _ h => h)
    refine ⟨rfl, s143 S3.1 S3.2.2.1 ⟨_, rfl, t147 (pre := (3, 0, 0, []) :: mt_tks zs 1) (t := y) (l := 1) S3 etk hcl (by rw [List.length_cons]; omega) rfl ⟨_, rfl, ?_⟩⟩⟩
    have := ih (zs ++ [y]) (us ++ mt_tk y 1) σ3 (by rw [ez]; simp) S3 D3 (by rw [List.length_append]; omega) (K.tr K3) (fun σ' o4 o5 o6 K' D' => HH σ' o4 o5 o6 K' (by rw [mt_tks_cons, ← List.append_assoc]; exact D'))
    rw [mt_tks_app, mt_tks_one, List.length_append] at this
    rw [List.length_cons]
    rw [show mb s + ((mt_tks zs 1).length + 1 + (mt_tk y 1).length) = mb s + (1 + ((mt_tks zs 1).length + (mt_tk y 1).length)) by omega]
    exact this
theorem t171_10 {to q mgv : Nat} {cs : List Nat} {sv : Nat → mT} (hto : 129 ≤ to) (hq : q < 24) (hcs : cs.length ≤ 3) (hc : ∀ c ∈ cs, c < 3 ∨ 10 ≤ c ∧ c < 16) (hmg : mgv ≤ 2) (hd : ∀ c ∈ cs, mt_dp (sv c) ≤ 3) (hcap : mcp to = 544) : ∀ (ys zs : List Nat) (σ : mS) (us : List mTk) (o4 o5 o6 : Option Value), cs = zs ++ ys → σ.2.1 99 q = nI cs.length → σ.2.1 101 q = nI mgv → (∀ k (h : k < cs.length), σ.2.1 100 (3 * q + k) = nI cs[k]) → (∀ c ∈ cs, mSlot σ A (sl c) (mt_tk (sv c) 0)) → mSlot σ A to us → us.length ≤ 1 + 176 * zs.length →
    (∀ σ', mKp mN1 mN2 mN1 (· = to) σ σ' → mSlot σ' A to (us ++ mt_tks ((ys.map (fun c => aSp mgv (sv c))).flatten) 1) → Q none σ') →
    mM X (d + 5) 171 10 [some (.ref 86), some (.int (nI q)), some (.int (nI to)), some (.int (nI zs.length)), o4, o5, o6] [] σ Q := by
  intro ys
  induction ys with
  | nil =>
    intro zs σ us o4 o5 o6 ez h99 h101 h100 SS D hus H
    rw [List.append_nil] at ez
    subst ez
    refine u171_10 ⟨m_ix hq (by decide), ?_⟩
    rw [mGet_e (by omega), h99]
    exact ⟨fun _ => H σ mKp.rf (by simpa [mt_tks] using D), fun g => absurd (Int32.le_refl _) g⟩
  | cons c ys ih =>
    intro zs σ us o4 o5 o6 ez h99 h101 h100 SS D hus H
    have hl : cs.length = zs.length + (ys.length + 1) := by rw [ez]; simp
    have hcm : c ∈ cs := by rw [ez]; simp
    have hcc := hc c hcm
    have hdc := hd c hcm
    have S := SS c hcm
    have hrows := S.2.1
    have hsl := sl_lt hcc
    have e100 : mGet σ 100 ((3 : Int32) * nI q + nI zs.length) = nI c := by
      rw [show (3 : Int32) = nI 3 from rfl, pk_mul, nI_add, mGet_e (by omega), h100 zs.length (by omega)]
      congr 1
      rw [List.getElem_of_eq ez, List.getElem_append_right (Nat.le_refl _)]
      simp
    have i100 : 0 ≤ (3 : Int32) * nI q + nI zs.length ∧ Int32.toNatClampNeg ((3 : Int32) * nI q + nI zs.length) < 72 := by
      rw [show (3 : Int32) = nI 3 from rfl, pk_mul, nI_add]
      exact m_ix (by omega) (by decide)
    rw [List.map_cons, List.flatten_cons] at H
    have next : ∀ (σ' : mS) (o4 o5 o6 : Option Value), mKp mN1 mN2 mN1 (· = to) σ σ' → mSlot σ' A to (us ++ mt_tks (aSp mgv (sv c)) 1) → (mt_tks (aSp mgv (sv c)) 1).length ≤ 176 → mM X (d + 5) 171 10 [some (.ref 86), some (.int (nI q)), some (.int (nI to)), some (.int (nI zs.length + 1)), o4, o5, o6] [] σ' Q := by
      intro σ' o4 o5 o6 K D' hr
      rw [nI_1, show zs.length + 1 = (zs ++ [c]).length by simp]
      refine ih (zs ++ [c]) σ' _ o4 o5 o6 (by rw [ez]; simp) ((K.2.1 99 q (by decide) id).trans h99) ((K.2.1 101 q (by decide) id).trans h101) (fun k h => (K.2.1 100 _ (by decide) id).trans (h100 k h)) (fun c' hc' => (SS c' hc').keep K (by have := (sl_lt (hc c' hc')).1; omega) (fun _ _ h => h)) D' (by rw [List.length_append, List.length_append]; simp only [List.length_cons, List.length_nil]; omega) (fun σ2 K2 D2 => ?_)
      exact H σ2 (K.tr K2) (by rw [mt_tks_app, ← List.append_assoc]; exact D2)
    have whole : aSp mgv (sv c) = [sv c] → ∀ o5 o6, mM X (d + 4) 170 0 (mm_L0 170 [.ref 86, .int (nI c), .int (nI to), .int (1 : Int32)]) [] σ (m0_K (fun σ2 => mM X (d + 5) 171 10 [some (.ref 86), some (.int (nI q)), some (.int (nI to)), some (.int (nI zs.length + 1)), some (.int (nI c)), o5, o6] [] σ2 Q)) := by
      intro es o5 o6
      refine t170 (deep := 1) hcc S D hto (by rw [hcap, mt_tk_ln _ 1 0]; omega) (by omega) (fun σ' K D' => ⟨rfl, next σ' _ _ _ K (by rw [es, mt_tks_one]; exact D') ?_⟩)
      rw [es, mt_tks_one, mt_tk_ln _ 1 0]; omega
    refine u171_10 ⟨m_ix hq (by decide), ?_⟩
    rw [mGet_e (by omega), h99]
    refine pk_le cs.length zs.length (fun g => absurd g (by omega)) (fun _ => ⟨i100, ?_⟩)
    rw [e100]
    refine sl_at (K := fun z => mM X (d + 5) 171 51 [some (.ref 86), some (.int (nI q)), some (.int (nI to)), some (.int (nI zs.length)), some (.int (nI c)), o5, o6] [.int z] σ Q) hcc ?_
    refine u171_51 ⟨m_ix hq (by decide), ?_⟩
    rw [mGet_e (by omega), h101]
    refine pk_ne mgv 2 (fun h2 => ?_) (fun h2 => whole (if_neg (fun g => h2 g.1)) _ _)
    refine s123 S.1 ⟨_, rfl, ?_⟩
    obtain ⟨u, us', etk, eu, _⟩ := mt_tk_ne (sv c) 0
    refine t144 (i := 0) (u := u) S (by rw [etk]; rfl) ⟨_, rfl, ?_⟩
    rw [eu]
    have hk4 := mt_k_lt (sv c)
    refine pk_ne (mt_k (sv c)) 3 (fun h3 => ?_) (fun h3 => whole (if_neg (fun g => h3 (mt_k3.mpr g.2))) _ _)
    have hL : mt_isL (sv c) = true := mt_k3.mp h3
    have es : aSp mgv (sv c) = mt_els (sv c) := if_pos ⟨h2, hL⟩
    have hr : (mt_tks (mt_els (sv c)) 1).length + 1 = (mt_tk (sv c) 0).length := by rw [mt_tk_list hL, List.length_cons]
    refine s123 S.1 ⟨_, rfl, ?_⟩
    dsimp only
    rw [nI_1]
    have := t171_85 (X := X) (d := d + 1) (Q := Q) (A := A) (σ := σ) (to := to) (s := sl c) (t := sv c) (i1 := nI q) (i3 := nI zs.length) (i4 := nI c) hL (by omega) (fun x hx => by have := mt_dp_el hL hx; omega) (mt_els (sv c)) [] us σ rfl S D (by rw [hcap]; omega) mKp.rf (fun σ' o4 o5 o6 K D' => next σ' o4 o5 o6 K (by rw [es]; exact D') (by rw [es]; omega))
    rw [mt_tks_nil] at this
    exact this
end RGA
