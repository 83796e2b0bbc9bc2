/-! THE REFERENCE GATHERS: pick, all of it -/
def pkU (how : Nat) (F : List mT) : List mTk := if how = 3 then (3, 0, 0, []) :: mt_tks F 1 else match F with
  | [] => []
  | x :: _ => mt_tk x 0
theorem pkU_len (how : Nat) (F : List mT) : (pkU how F).length ≤ 1 + (mt_tks F 1).length := by
  unfold pkU
  split
  · rw [List.length_cons]; omega
  · cases F with
    | nil => show 0 ≤ _; omega
    | cons x l => show (mt_tk x 0).length ≤ _; rw [mt_tks_cons, List.length_append, mt_tk_ln x 1 0]; omega
theorem mt_tks_filter (p : mT → Bool) (l : Nat) : ∀ xs : List mT, (mt_tks (xs.filter p) l).length ≤ (mt_tks xs l).length
  | [] => Nat.le_refl _
  | x :: xs => by
    have := mt_tks_filter p l xs
    rw [List.filter_cons, mt_tks_cons, List.length_append]
    split
    · rw [mt_tks_cons, List.length_append]; omega
    · omega
section RGB
variable {X : List Int32} {d : Nat} {σ : mS} {Q : Option Value → mS → Prop} {A : Nat → Prop}
theorem t172_52 {to how : Nat} {t : mT} (ht : mt_isL t = true) (hto : 129 ≤ to ∧ to < 133) (hcap : mcp to = 544) (hhow : how = 1 ∨ how = 2 ∨ how = 3) (hd : ∀ x ∈ mt_els t, mt_dp x < 60) (hrows : (mt_tk t 0).length ≤ 544) (h8 : (mt_els t).length < 1000)
    (H : ∀ σ', mKp mN1 mN2 mN1 (· = to) σ σ' → mSlot σ' A to (pkU how ((mt_els t).filter aNn)) → Q (some (.int (if how = 3 ∨ how = 1 ∧ 0 < ((mt_els t).filter aNn).length ∨ how = 2 ∧ ((mt_els t).filter aNn).length = 1 then 1 else 0))) σ') :
    ∀ (ys zs : List mT) (σ2 : mS), mt_els t = zs ++ ys → mSlot σ2 A 141 (mt_tk t 0) → mSlot σ2 A to (pkU how (zs.filter aNn)) → mKp mN1 mN2 mN1 (· = to) σ σ2 →
    mM X (d + 5) 172 52 [some (.ref 86), some (.int (nI how)), some (.int (nI to)), some (.int (nI (zs.filter aNn).length)), some (.int (nI (mb 141 + (1 + (mt_tks zs 1).length))))] [] σ2 Q := by
  intro ys
  induction ys with
  | nil =>
    intro zs σ2 ez S D K
    rw [List.append_nil] at ez
    subst ez
    have hf := List.length_filter_le aNn (mt_els t)
    have el : (mt_tk t 0).length = 1 + (mt_tks (mt_els t) 1).length := by rw [mt_tk_list ht, List.length_cons]; exact Nat.add_comm _ _
    have H := H σ2 K D
    refine u172_52 (s143 S.1 S.2.2.1 ⟨_, rfl, ?_⟩)
    rw [el]
    refine ⟨fun _ => (pk_eq how 3 (fun h3 => ?_) (fun h3 => pk_ne how 1 (fun h1 => pk_le ((mt_els t).filter aNn).length 0 (fun h0 => ?_) (fun h0 => ?_)) (fun h1 => pk_ne ((mt_els t).filter aNn).length 1 (fun h0 => ?_) (fun h0 => ?_)))), fun g => absurd (Int32.le_refl _) g⟩
    · rw [if_pos (Or.inl h3)] at H; exact H
    · rw [if_neg (by omega)] at H; exact H
    · rw [if_pos (by omega)] at H; exact H
    · rw [if_pos (by omega)] at H; exact H
    · rw [if_neg (by omega)] at H; exact H
  | cons y ys ih =>
    intro zs σ2 ez S D K
    have hy := mt_tk_pos y 1
    have hlt := S.lt
    have hzl : zs.length < 1000 := by rw [ez, List.length_append] at h8; omega
    have hfl := List.length_filter_le aNn zs
    have etk : mt_tk t 0 = ((3, 0, 0, []) :: mt_tks zs 1) ++ (mt_tk y 1 ++ mt_tks ys 1) := by rw [mt_tk_list ht, ez, mt_tks_app, mt_tks_cons]; simp
    have el : (mt_tk t 0).length = 1 + (mt_tks zs 1).length + ((mt_tk y 1).length + (mt_tks ys 1).length) := by rw [etk, List.length_append, List.length_append, List.length_cons]; omega
    have hcl : mt_cl 1 (mt_tks ys 1) := by have := mt_cl_tks (l := 1) (ts := ys) (mt_cl_nil 1); rwa [List.append_nil] at this
    have hpos : mb 141 + (1 + (mt_tks zs 1).length) = mb 141 + ((3, 0, 0, []) :: mt_tks zs 1 : List mTk).length := by rw [List.length_cons]; omega
    obtain ⟨u, us', eu0, eu, _⟩ := mt_tk_ne y 1
    have hk4 := mt_k_lt y
    have next : ∀ (σ3 : mS) (F : List mT), F = (zs ++ [y]).filter aNn → mSlot σ3 A 141 (mt_tk t 0) → mSlot σ3 A to (pkU how F) → mKp mN1 mN2 mN1 (· = to) σ σ3 → mM X (d + 5) 172 52 [some (.ref 86), some (.int (nI how)), some (.int (nI to)), some (.int (nI F.length)), some (.int (nI (mb 141 + (((3, 0, 0, []) :: mt_tks zs 1 : List mTk).length + (mt_tk y 1).length))))] [] σ3 Q := by
      intro σ3 F eF S3 D3 K3
      have := ih (zs ++ [y]) σ3 (by rw [ez]; simp) S3 (by rw [← eF]; exact D3) K3
      rw [mt_tks_app, mt_tks_one, List.length_append, ← eF] at this
      rw [List.length_cons, show (mt_tks zs 1).length + 1 + (mt_tk y 1).length = 1 + ((mt_tks zs 1).length + (mt_tk y 1).length) by omega]
      exact this
    have put : ∀ (σ3 : mS) (deep : Nat), aNn y = true → (how = 3 ∧ deep = 1 ∨ how ≠ 3 ∧ deep = 0 ∧ (zs.filter aNn) = []) → mSlot σ3 A 141 (mt_tk t 0) → mSlot σ3 A to (pkU how (zs.filter aNn)) → mKp mN1 mN2 mN1 (· = to) σ σ3 → mM X (d + 4) 150 0 (mm_L0 150 [.ref 86, .int (nI (mb 141 + (1 + (mt_tks zs 1).length))), .int (nI (mb 141 + (mt_tk t 0).length)), .int (nI to), .int (nI deep)]) [] σ3 (m0_K (fun σ8 => mM X (d + 4) 143 0 (mm_L0 143 [.ref 86, .int (141 : Int32)]) [] σ8 (mi_K (fun x10 σ9 => mM X (d + 4) 147 0 (mm_L0 147 [.ref 86, .int (nI (mb 141 + (1 + (mt_tks zs 1).length))), .int x10]) [] σ9 (mi_K (fun x12 σ11 => mM X (d + 5) 172 52 [some (.ref 86), some (.int (nI how)), some (.int (nI to)), some (.int (nI ((zs.filter aNn).length + 1))), some (.int x12)] [] σ11 Q)))))) := by
      intro σ3 deep hn hh S3 D3 K3
      have hu := pkU_len how (zs.filter aNn)
      have hf2 := mt_tks_filter aNn 1 zs
      refine t150 (t := y) (l := 1) (deep := deep) (pre := (3, 0, 0, []) :: mt_tks zs 1) (rest := mt_tks ys 1) S3 etk hcl hpos rfl D3 (by omega) (by rw [hcap, mt_tk_ln y deep 1]; omega) (by have := hd y (by rw [ez]; simp); omega) ?_
      intro σ4 K4 D4
      have S4 := S3.keep K4 (by omega) (fun _ _ h => h)
      refine ⟨rfl, s143 S4.1 S4.2.2.1 ⟨_, rfl, t147 (pre := (3, 0, 0, []) :: mt_tks zs 1) (t := y) (l := 1) S4 etk hcl hpos rfl ⟨_, rfl, ?_⟩⟩⟩
      have eF : (zs ++ [y]).filter aNn = zs.filter aNn ++ [y] := by rw [List.filter_append, List.filter_cons, if_pos hn]; rfl
      have := next σ4 (zs.filter aNn ++ [y]) eF.symm S4 ?_ (K3.tr K4)
      · rw [List.length_append] at this; exact this
      · rcases hh with ⟨h3, hdp⟩ | ⟨h3, hdp, h0⟩
        · have e1 : pkU how (zs.filter aNn) ++ mt_tk y deep = pkU how (zs.filter aNn ++ [y]) := by
            unfold pkU
            rw [if_pos h3, if_pos h3, mt_tks_app, mt_tks_one, hdp]; rfl
          rw [← e1]; exact D4
        · rw [h0] at D4 ⊢
          have e1 : pkU how [] ++ mt_tk y deep = pkU how ([] ++ [y]) := by
            unfold pkU
            rw [if_neg h3, if_neg h3, hdp]; rfl
          rw [← e1]; exact D4
    refine u172_52 (s143 S.1 S.2.2.1 ⟨_, rfl, pk_le (mb 141 + (mt_tk t 0).length) (mb 141 + (1 + (mt_tks zs 1).length)) (fun g => absurd g (by omega)) (fun _ => ?_)⟩)
    refine t144 (i := 1 + (mt_tks zs 1).length) (u := u) S (by rw [etk, show 1 + (mt_tks zs 1).length = ((3, 0, 0, []) :: mt_tks zs 1 : List mTk).length by rw [List.length_cons]; omega, List.getElem?_append_right (Nat.le_refl _), Nat.sub_self, eu0]; rfl) ⟨_, rfl, ?_⟩
    rw [eu]
    refine pk_eq (mt_k y) 0 (fun h0 => ?_) (fun h0 => ?_)
    · have hn : aNn y = false := by unfold aNn; rw [h0]; rfl
      refine s143 S.1 S.2.2.1 ⟨_, rfl, t147 (pre := (3, 0, 0, []) :: mt_tks zs 1) (t := y) (l := 1) S etk hcl hpos rfl ⟨_, rfl, ?_⟩⟩
      refine next σ2 (zs.filter aNn) ?_ S D K
      rw [List.filter_append, List.filter_cons, hn]; simp
    · have hn : aNn y = true := by unfold aNn; simp [h0]
      have hne0 : ¬ how = 3 → ¬ (zs.filter aNn).length = 0 → mM X (d + 4) 143 0 (mm_L0 143 [.ref 86, .int (141 : Int32)]) [] σ2 (mi_K (fun x10 σ9 => mM X (d + 4) 147 0 (mm_L0 147 [.ref 86, .int (nI (mb 141 + (1 + (mt_tks zs 1).length))), .int x10]) [] σ9 (mi_K (fun x12 σ11 => mM X (d + 5) 172 52 [some (.ref 86), some (.int (nI how)), some (.int (nI to)), some (.int (nI (zs.filter aNn).length + 1)), some (.int x12)] [] σ11 Q)))) := by
        intro h3 hne
        refine s143 S.1 S.2.2.1 ⟨_, rfl, t147 (pre := (3, 0, 0, []) :: mt_tks zs 1) (t := y) (l := 1) S etk hcl hpos rfl ⟨_, rfl, ?_⟩⟩
        have eF : (zs ++ [y]).filter aNn = zs.filter aNn ++ [y] := by rw [List.filter_append, List.filter_cons, if_pos hn]; rfl
        have := next σ2 (zs.filter aNn ++ [y]) eF.symm S ?_ K
        · rw [List.length_append] at this; rw [nI_1]; exact this
        · have e1 : pkU how (zs.filter aNn) = pkU how (zs.filter aNn ++ [y]) := by
            unfold pkU
            rw [if_neg h3, if_neg h3]
            cases hz : zs.filter aNn with
            | nil => rw [hz] at hne; exact absurd rfl hne
            | cons a l => rfl
          rw [← e1]; exact D
      have e3 : (3 : Int32) = nI 3 := rfl
      refine pk_eq how 3 (fun h3 => ?_) (fun h3 => ?_)
      · rw [nI_1]
        refine u172_86 (s143 S.1 S.2.2.1 ⟨_, rfl, pk_ne how 3 (fun _ => put σ2 1 hn (Or.inl ⟨h3, rfl⟩) S D K) (fun g => absurd h3 g)⟩)
      · rw [nI_1]
        refine pk_ne ((zs.filter aNn).length + 1) 1 (fun h1 => ?_) (fun h1 => ?_)
        · refine u172_86 (s143 S.1 S.2.2.1 ⟨_, rfl, pk_ne how 3 (fun g => absurd g h3) (fun _ => put σ2 0 hn (Or.inr ⟨h3, rfl, List.length_eq_zero_iff.mp (by omega)⟩) S D K)⟩)
        · have := hne0 h3 (by omega)
          rw [nI_1] at this
          exact this
theorem t172 {to how : Nat} {t : mT} (S : mSlot σ A to (mt_tk t 0)) (hto : 129 ≤ to ∧ to < 133) (hcap : mcp to = 544) (hhow : how = 1 ∨ how = 2 ∨ how = 3) (hg : mt_gd t)
    (H1 : ∀ t', aPk how t = some t' → ∀ σ', mKp mN1 mN2 mN1 (fun x => x = to ∨ x = 141) σ σ' → mSlot σ' A to (mt_tk t' 0) → Q (some (.int 1)) σ')
    (H0 : aPk how t = none → ∀ σ', mKp mN1 mN2 mN1 (fun x => x = to ∨ x = 141) σ σ' → Q (some (.int 0)) σ') : mM X (d + 5) 172 0 (mm_L0 172 [.ref 86, .int (nI how), .int (nI to)]) [] σ Q := by
  have hk4 := mt_k_lt t
  have hdp := mt_gd_dp hg
  obtain ⟨u, us', etk, eu, _⟩ := mt_tk_ne t 0
  have hrows := S.2.1
  rw [hcap] at hrows
  refine u172_0 (s123 S.1 ⟨_, rfl, t144 (i := 0) (u := u) S (by rw [etk]; rfl) ⟨_, rfl, ?_⟩⟩)
  rw [eu]
  have e0 : ¬ how = 0 := by omega
  refine pk_eq (mt_k t) 3 (fun h3 => ?_) (fun h3 => ?_)
  · have hL := mt_k3.mp h3
    have h8 := ((mt_gl_list hL).mp hg).2.1
    have eP : aPk how t = if how = 3 then some (mt_mk ((mt_els t).filter aNn)) else if how = 2 ∧ ((mt_els t).filter aNn).length ≠ 1 then none else ((mt_els t).filter aNn).head? := by unfold aPk; rw [if_neg e0, if_pos hL]
    refine t149 (to := 141) S (by omega) (by omega) (by rw [show mcp 141 = 544 from rfl]; exact hrows) (by omega) (fun σ1 K1 S1 => ⟨rfl, ?_⟩)
    refine mSlot.clear (A := A) S.1 (fun σ2 K2 D2 => ⟨rfl, ?_⟩)
    have S2 := S1.keep K2 (by omega) (fun _ _ h => h)
    have K12 : mKp mN1 mN2 mN1 (fun x => x = to ∨ x = 141) σ σ2 := (K1.mono (fun _ h => h) (fun _ _ h => h) (fun _ h => h) (fun _ h => Or.inr h)).tr (K2.mono (fun _ h => h) (fun _ _ h => h) (fun _ h => h) (fun _ h => Or.inl h))
    have fin : ∀ (σ3 : mS), mKp mN1 mN2 mN1 (fun x => x = to ∨ x = 141) σ σ3 → mSlot σ3 A 141 (mt_tk t 0) → mSlot σ3 A to (pkU how []) → mM X (d + 5) 172 52 [some (.ref 86), some (.int (nI how)), some (.int (nI to)), some (.int 0), some (.int (nI (mb 141 + 1)))] [] σ3 Q := by
      intro σ3 K3 S3 D3
      refine t172_52 (σ := σ3) (A := A) hL hto hcap hhow (fun x hx => by have := mt_dp_el hL hx; omega) hrows (by omega) ?_ (mt_els t) [] σ3 rfl S3 D3 mKp.rf
      intro σ4 K4 D4
      have K34 : mKp mN1 mN2 mN1 (fun x => x = to ∨ x = 141) σ σ4 := K3.tr (K4.mono (fun _ h => h) (fun _ _ h => h) (fun _ h => h) (fun _ h => Or.inl h))
      by_cases c3 : how = 3
      · rw [if_pos (Or.inl c3)]
        refine H1 (mt_mk ((mt_els t).filter aNn)) (by rw [eP, if_pos c3]) σ4 K34 ?_
        unfold pkU at D4
        rw [if_pos c3] at D4
        rw [mt_tk_mk]; exact D4
      · rw [if_neg c3] at eP
        unfold pkU at D4
        rw [if_neg c3] at D4
        cases hF : (mt_els t).filter aNn with
        | nil =>
          rw [hF] at eP D4
          rw [if_neg (by simp only [List.length_nil]; omega)]
          refine H0 ?_ σ4 K34
          rw [eP]
          split <;> rfl
        | cons a l =>
          rw [hF] at eP D4
          by_cases c2 : how = 2 ∧ (a :: l).length ≠ 1
          · rw [if_pos c2] at eP
            rw [if_neg (by omega)]
            exact H0 eP σ4 K34
          · rw [if_neg c2] at eP
            have : 0 < (a :: l).length := by simp
            rw [if_pos (by omega)]
            exact H1 a eP σ4 K34 D4
    refine pk_ne how 3 (fun c3 => ?_) (fun c3 => ?_)
    · refine (D2 A).add (k := 3) (l := 0) (v := 0) (by rw [hcap]; show 0 < 544; omega) (by omega) (by omega) (fun σ3 K3 D3 => ⟨rfl, s123 (s := 141) (by omega) ⟨_, rfl, ?_⟩⟩)
      dsimp only
      rw [nI_1]
      refine fin σ3 (K12.tr (K3.mono (fun _ h => h) (fun _ _ h => h) (fun _ h => h) (fun _ h => Or.inl h))) (S2.keep K3 (by omega) (fun _ _ h => h)) ?_
      unfold pkU; rw [if_pos c3]; exact D3
    · refine s123 (s := 141) (by omega) ⟨_, rfl, ?_⟩
      dsimp only
      rw [nI_1]
      refine fin σ2 K12 S2 ?_
      unfold pkU; rw [if_neg c3]; exact D2 A
  · refine H0 ?_ σ mKp.rf
    unfold aPk
    rw [if_neg e0, if_neg (fun h => h3 (mt_k3.mpr h))]
end RGB
