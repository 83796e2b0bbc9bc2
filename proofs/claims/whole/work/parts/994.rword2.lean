/-! THE REFERENCE'S WORDS: a port's -/
def tR (r : Option (List (List Nat))) (ts : List (Option Nat)) : Option (List (List Nat)) := r.bind (fun ws => aEm ws ts)
theorem tR_app (r : Option (List (List Nat))) (a b : List (Option Nat)) : tR r (a ++ b) = tR (tR r a) b := by
  cases r with
  | none => rfl
  | some ws => show aEm ws (a ++ b) = (aEm ws a).bind (fun ws' => aEm ws' b); exact aEm_app a b ws
theorem tR_nil (r : Option (List (List Nat))) : tR r [] = r := by cases r <;> rfl
theorem tR_none (ts : List (Option Nat)) : tR none ts = none := rfl
theorem aWd_tR (r : Option (List (List Nat))) (l : List Nat) : aWd r l = tR r (none :: l.map some) := rfl
def jl : List mT → List Nat
  | [] => []
  | [x] => mt_pl x
  | x :: y :: l => mt_pl x ++ 44 :: jl (y :: l)
theorem jl_snoc : ∀ (zs : List mT) (y : mT), jl (zs ++ [y]) = jl zs ++ ((if zs = [] then [] else [44]) ++ mt_pl y)
  | [], y => rfl
  | [z], y => rfl
  | z :: w :: l, y => by
    show mt_pl z ++ 44 :: jl ((w :: l) ++ [y]) = (mt_pl z ++ 44 :: jl (w :: l)) ++ _
    rw [jl_snoc (w :: l) y]
    simp
theorem aJt_jl (sy : Nat) (h : sy ≠ 2) : ∀ l : List mT, aJt sy l = (jl l).map some
  | [] => rfl
  | [x] => rfl
  | x :: y :: l => by
    show (mt_pl x).map some ++ ((if sy = 2 then none else some 44) :: aJt sy (y :: l)) = (mt_pl x ++ 44 :: jl (y :: l)).map some
    rw [if_neg h, aJt_jl sy h (y :: l), List.map_append, List.map_cons]
def wl (l : List mT) : List (Option Nat) := (l.map (fun x => none :: (mt_pl x).map some)).flatten
theorem aJt_wl : ∀ l : List mT, l ≠ [] → none :: aJt 2 l = wl l
  | [], h => absurd rfl h
  | [x], _ => by simp [wl, aJt]
  | x :: y :: l, _ => by
    show none :: ((mt_pl x).map some ++ ((if 2 = 2 then none else some 44) :: aJt 2 (y :: l))) = wl (x :: y :: l)
    have := aJt_wl (y :: l) (by simp)
    rw [if_pos rfl, this]
    simp [wl]
theorem wl_cons (x : mT) (l : List mT) : wl (x :: l) = (none :: (mt_pl x).map some) ++ wl l := by simp [wl]
theorem jl_len : ∀ (l : List mT), (∀ x ∈ l, mt_gd x) → (jl l).length ≤ 20001 * l.length
  | [], _ => Nat.zero_le _
  | [x], h => by have := mt_pl_le (h x (by simp)); show (mt_pl x).length ≤ 20001 * 1; omega
  | x :: y :: l, h => by
    have h1 := mt_pl_le (h x (by simp))
    have h2 := jl_len (y :: l) (fun z hz => h z (by simp [hz]))
    show (mt_pl x ++ 44 :: jl (y :: l)).length ≤ 20001 * ((y :: l).length + 1)
    rw [List.length_append, List.length_cons]
    omega
section RWP
variable {X : List Int32} {d : Nat} {σ : mS} {Q : Option Value → mS → Prop} {B : Nat → Prop}
/-- list style 2: a word each -/
theorem t190_111 {job s : Nat} {t : mT} {i2 i3 i4 i7 : Int32} (hj : job < 96) (hL : mt_isL t = true) (hg : mt_gd t) (hB : ∀ p, B p → ¬ wA job p) : ∀ (ys zs : List mT) (r : Option (List (List Nat))) (σ : mS), mt_els t = zs ++ ys → wdS σ job r → mSlot σ B s (mt_tk t 0) →
    (∀ σ', wdK job σ σ' → wdS σ' job (tR r (wl ys)) → Q (some (.int 1)) σ') → (tR r (wl ys) = none → ∀ σ', wdK job σ σ' → Q (some (.int 0)) σ') →
    mM X (d + 6) 190 111 [some (.ref 86), some (.int (nI job)), some (.int i2), some (.int i3), some (.int i4), some (.int (nI (mb s))), some (.int (nI (mb s + (mt_tk t 0).length))), some (.int i7), some (.int (nI (mb s + (1 + (mt_tks zs 1).length))))] [] σ Q := by
  intro ys
  induction ys with
  | nil =>
    intro zs r σ ez W S H1 H0
    rw [List.append_nil] at ez
    have hlt := S.lt
    have el : (mt_tk t 0).length = 1 + (mt_tks zs 1).length := by rw [mt_tk_list hL, ez, List.length_cons]; exact Nat.add_comm _ _
    refine u190_111 (pk_le (mb s + (mt_tk t 0).length) (mb s + (1 + (mt_tks zs 1).length)) (fun _ => H1 σ wdK.rf (by rw [show wl [] = [] from rfl, tR_nil]; exact W)) (fun g => absurd g (by omega)))
  | cons y ys ih =>
    intro zs r σ ez W S H1 H0
    have hy := mt_tk_pos y 1
    have hlt := S.lt
    have etk : mt_tk t 0 = ((3, 0, 0, []) :: mt_tks zs 1) ++ (mt_tk y 1 ++ mt_tks ys 1) := by rw [mt_tk_list hL, ez, mt_tks_app, mt_tks_cons]; simp
    have el : (mt_tk t 0).length = 1 + (mt_tks zs 1).length + ((mt_tk y 1).length + (mt_tks ys 1).length) := by rw [etk, List.length_append, List.length_append, List.length_cons]; omega
    have hcl : mt_cl 1 (mt_tks ys 1) := by have := mt_cl_tks (l := 1) (ts := ys) (mt_cl_nil 1); rwa [List.append_nil] at this
    have hpos : mb s + (1 + (mt_tks zs 1).length) = mb s + ((3, 0, 0, []) :: mt_tks zs 1 : List mTk).length := by rw [List.length_cons]; omega
    have hgy := (mt_gd_el hg (show y ∈ mt_els t by rw [ez]; simp)).1
    have hfl := (mt_fm_len y 0 hgy).2
    have hdy := mt_gd_dp hgy
    rw [wl_cons, tR_app] at H1 H0
    refine u190_111 (pk_le (mb s + (mt_tk t 0).length) (mb s + (1 + (mt_tks zs 1).length)) (fun g => absurd g (by omega)) (fun _ => t191 hj W ?_ ?_))
    · intro σ1 m P hP hm1 hm2 K1 P1 hE
      have S1 := S.keep K1 id (fun p hp => hB p hp)
      refine ⟨_, rfl, fun _ => ?_, fun g => absurd g (by decide)⟩
      refine t182 (pre := (3, 0, 0, []) :: mt_tks zs 1) (rest := mt_tks ys 1) (t := y) (l := 1) (w := []) hP (fun p hp hA => hB p hp ⟨by have := hA.1; omega, by have := hA.2; omega⟩) S1 etk hcl hpos rfl (mt_gd_al hgy) (by omega) (by simp only [List.length_nil]; omega) P1 (fun σ2 K2 P2 => ⟨rfl, ?_⟩)
      have K2' := K2.wd hm1 hm2
      refine hE _ σ2 _ _ P2 (fun σ3 K3 W3 => ⟨rfl, ?_⟩)
      have S3 := (S1.keep K2' id (fun p hp => hB p hp)).keep K3 id (fun p hp => hB p hp)
      refine t147 (pre := (3, 0, 0, []) :: mt_tks zs 1) (t := y) (l := 1) S3 etk hcl hpos rfl ⟨_, rfl, ?_⟩
      rw [List.nil_append] at W3
      have := ih (zs ++ [y]) (aWd r (mt_pl y)) σ3 (by rw [ez]; simp) W3 S3 (fun σ' K' W' => H1 σ' (((K1.tr K2').tr K3).tr K') W') (fun h σ' K' => H0 h σ' (((K1.tr K2').tr K3).tr K'))
      rw [mt_tks_app, mt_tks_one, List.length_append] at this
      rw [List.length_cons, show (mt_tks zs 1).length + 1 + (mt_tk y 1).length = 1 + ((mt_tks zs 1).length + (mt_tk y 1).length) by omega]
      exact this
    · intro hno σ1 K1
      refine ⟨_, rfl, fun g => absurd rfl g, fun _ => H0 ?_ σ1 K1⟩
      rw [← aWd_tR, hno]; rfl
/-- the end of a word -/
theorem t190_248 {job s m : Nat} {t : mT} {r : Option (List (List Nat))} {P : List Nat → mS → Prop} {l : List Nat} {sy : Nat} {i2 i3 i8 : Int32} {σ0 : mS} (hsy : sy < 4) (hg : mt_gd t) (hB : ∀ p, B p → ¬ wA job p) (hP : oP X P (oA m)) (hm1 : 600 + 192 * job ≤ m) (hm2 : m + 24 ≤ 600 + 192 * job + 192) (hE : wEnd X job r P) (hl : l.length < 200000) (K0 : wdK job σ0 σ) (S : mSlot σ B s (mt_tk t 0)) (hPl : P l σ)
    (H1 : ∀ σ', wdK job σ0 σ' → wdS σ' job (aWd r (l ++ (if mt_isL t = true ∧ sy = 3 then [] else mt_pl t))) → Q (some (.int 1)) σ') :
    mM X (d + 6) 190 248 [some (.ref 86), some (.int (nI job)), some (.int i2), some (.int i3), some (.int (nI sy)), some (.int (nI (mb s))), some (.int (nI (mb s + (mt_tk t 0).length))), some (.int (if mt_isL t = true then 1 else 0)), some (.int i8)] [] σ Q := by
  have hfl := (mt_fm_len t 0 hg).2
  have hdt := mt_gd_dp hg
  have one : ¬ (mt_isL t = true ∧ sy = 3) → mM X (d + 5) 182 0 (mm_L0 182 [.ref 86, .int (nI (mb s)), .int (nI (mb s + (mt_tk t 0).length))]) [] σ (m0_K (fun σ1 => mM X (d + 5) 192 0 (mm_L0 192 [.ref 86, .int (nI job)]) [] σ1 (m0_K (fun σ2 => Q (some (.int 1)) σ2)))) := by
    intro hno
    rw [if_neg hno] at H1
    refine t182 (pre := []) (rest := []) (t := t) (l := 0) (w := l) hP (fun p hp hA => hB p hp ⟨by have := hA.1; omega, by have := hA.2; omega⟩) S (by simp) (mt_cl_nil 0) rfl rfl (mt_gd_al hg) (by omega) (by omega) hPl (fun σ2 K2 P2 => ⟨rfl, ?_⟩)
    refine hE _ σ2 _ _ P2 (fun σ3 K3 W3 => ⟨rfl, H1 σ3 ((K0.tr (K2.wd hm1 hm2)).tr K3) W3⟩)
  refine u190_248 ?_
  by_cases hL : mt_isL t = true
  · rw [if_pos hL]
    refine ⟨fun g => absurd g (by decide), fun _ => pk_eq sy 3 (fun h3 => ?_) (fun h3 => one (fun g => h3 g.2))⟩
    rw [if_pos ⟨hL, h3⟩] at H1
    rw [List.append_nil] at H1
    exact hE _ σ _ _ hPl (fun σ3 K3 W3 => ⟨rfl, H1 σ3 (K0.tr K3) W3⟩)
  · rw [if_neg hL]
    exact ⟨fun _ => one (fun g => hL g.1), fun g => absurd rfl g⟩
/-- list style 3: one word -/
theorem t190_194 {job s m : Nat} {t : mT} {r : Option (List (List Nat))} {P : List Nat → mS → Prop} {l0 : List Nat} {i2 i3 : Int32} {σ0 : mS} (hL : mt_isL t = true) (hg : mt_gd t) (hB : ∀ p, B p → ¬ wA job p) (hP : oP X P (oA m)) (hm1 : 600 + 192 * job ≤ m) (hm2 : m + 24 ≤ 600 + 192 * job + 192) (hE : wEnd X job r P) (hl : l0.length < 10)
    (H1 : ∀ σ', wdK job σ0 σ' → wdS σ' job (aWd r (l0 ++ jl (mt_els t))) → Q (some (.int 1)) σ') : ∀ (ys zs : List mT) (σ : mS), mt_els t = zs ++ ys → wdK job σ0 σ → mSlot σ B s (mt_tk t 0) → P (l0 ++ jl zs) σ →
    mM X (d + 6) 190 194 [some (.ref 86), some (.int (nI job)), some (.int i2), some (.int i3), some (.int 3), some (.int (nI (mb s))), some (.int (nI (mb s + (mt_tk t 0).length))), some (.int 1), some (.int (nI (mb s + (1 + (mt_tks zs 1).length))))] [] σ Q := by
  have h8 := ((mt_gl_list hL).mp hg).2.1
  intro ys
  induction ys with
  | nil =>
    intro zs σ ez K0 S hPl
    rw [List.append_nil] at ez
    have hlt := S.lt
    have el : (mt_tk t 0).length = 1 + (mt_tks zs 1).length := by rw [mt_tk_list hL, ez, List.length_cons]; exact Nat.add_comm _ _
    have hjl := jl_len zs (fun x hx => (mt_gd_el hg (by rw [ez]; exact hx)).1)
    rw [ez] at h8 H1
    refine u190_194 (pk_le (mb s + (mt_tk t 0).length) (mb s + (1 + (mt_tks zs 1).length)) (fun _ => ?_) (fun g => absurd g (by omega)))
    have := t190_248 (X := X) (d := d) (Q := Q) (sy := 3) (i2 := i2) (i3 := i3) (i8 := nI (mb s + (1 + (mt_tks zs 1).length))) (by omega) hg hB hP hm1 hm2 hE (by rw [List.length_append]; omega) K0 S hPl (fun σ' K' W' => H1 σ' K' (by rw [if_pos ⟨hL, rfl⟩, List.append_nil] at W'; exact W'))
    rw [if_pos hL] at this
    exact this
  | cons y ys ih =>
    intro zs σ ez K0 S hPl
    have hy := mt_tk_pos y 1
    have hlt := S.lt
    have etk : mt_tk t 0 = ((3, 0, 0, []) :: mt_tks zs 1) ++ (mt_tk y 1 ++ mt_tks ys 1) := by rw [mt_tk_list hL, ez, mt_tks_app, mt_tks_cons]; simp
    have el : (mt_tk t 0).length = 1 + (mt_tks zs 1).length + ((mt_tk y 1).length + (mt_tks ys 1).length) := by rw [etk, List.length_append, List.length_append, List.length_cons]; omega
    have hcl : mt_cl 1 (mt_tks ys 1) := by have := mt_cl_tks (l := 1) (ts := ys) (mt_cl_nil 1); rwa [List.append_nil] at this
    have hpos : mb s + (1 + (mt_tks zs 1).length) = mb s + ((3, 0, 0, []) :: mt_tks zs 1 : List mTk).length := by rw [List.length_cons]; omega
    have hgy := (mt_gd_el hg (show y ∈ mt_els t by rw [ez]; simp)).1
    have hfl := (mt_fm_len y 0 hgy).2
    have hdy := mt_gd_dp hgy
    have hzl : zs.length ≤ 8 := by rw [ez, List.length_append] at h8; omega
    have hjl := jl_len zs (fun x hx => (mt_gd_el hg (by rw [ez]; simp [hx])).1)
    have hBm : ∀ p, B p → ¬ oA m p := fun p hp hA => hB p hp ⟨by have := hA.1; omega, by have := hA.2; omega⟩
    have item : ∀ (w : List Nat) (σ1 : mS), w.length < 200000 → jl (zs ++ [y]) = w ++ mt_pl y → wdK job σ0 σ1 → mSlot σ1 B s (mt_tk t 0) → P (l0 ++ w) σ1 → mM X (d + 5) 182 0 (mm_L0 182 [.ref 86, .int (nI (mb s + (1 + (mt_tks zs 1).length))), .int (nI (mb s + (mt_tk t 0).length))]) [] σ1 (m0_K (fun σ5 => mM X (d + 5) 147 0 (mm_L0 147 [.ref 86, .int (nI (mb s + (1 + (mt_tks zs 1).length))), .int (nI (mb s + (mt_tk t 0).length))]) [] σ5 (mi_K (fun x7 σ6 => mM X (d + 6) 190 194 [some (.ref 86), some (.int (nI job)), some (.int i2), some (.int i3), some (.int 3), some (.int (nI (mb s))), some (.int (nI (mb s + (mt_tk t 0).length))), some (.int 1), some (.int x7)] [] σ6 Q)))) := by
      intro w σ1 hw ew K1 S1 P1
      refine t182 (pre := (3, 0, 0, []) :: mt_tks zs 1) (rest := mt_tks ys 1) (t := y) (l := 1) (w := l0 ++ w) hP hBm S1 etk hcl hpos rfl (mt_gd_al hgy) (by omega) (by rw [List.length_append]; omega) P1 (fun σ2 K2 P2 => ⟨rfl, ?_⟩)
      have K2' := K2.wd hm1 hm2
      have S2 := S1.keep K2' id (fun p hp => hB p hp)
      refine t147 (pre := (3, 0, 0, []) :: mt_tks zs 1) (t := y) (l := 1) S2 etk hcl hpos rfl ⟨_, rfl, ?_⟩
      have := ih (zs ++ [y]) σ2 (by rw [ez]; simp) (K1.tr K2') S2 (by rw [ew, ← List.append_assoc]; exact P2)
      rw [mt_tks_app, mt_tks_one, List.length_append] at this
      rw [List.length_cons, show (mt_tks zs 1).length + 1 + (mt_tk y 1).length = 1 + ((mt_tks zs 1).length + (mt_tk y 1).length) by omega]
      exact this
    refine u190_194 (pk_le (mb s + (mt_tk t 0).length) (mb s + (1 + (mt_tks zs 1).length)) (fun g => absurd g (by omega)) (fun _ => ⟨fun g => absurd g (by decide), fun _ => ⟨fun g => absurd rfl g, fun _ => ?_⟩⟩))
    rw [nI_1]
    have hsn := jl_snoc zs y
    cases zs with
    | nil =>
      refine ⟨fun _ => item [] σ (by simp) hsn K0 S hPl, fun g => absurd (nI_le (by simp [mt_tks]) (by have := S.1; have := mb_end S.1; omega)) g⟩
    | cons z zs' =>
      have hz1 := mt_tk_pos z 1
      have hz2 : (mt_tks (z :: zs') 1).length = (mt_tk z 1).length + (mt_tks zs' 1).length := by rw [mt_tks_cons, List.length_append]
      refine pk_le (mb s + (1 + (mt_tks (z :: zs') 1).length)) (mb s + 1) (fun g => absurd g (by omega)) (fun _ => ?_)
      refine hP.1 (d + 3) _ σ 44 _ (by omega) (by rw [List.length_append]; omega) hPl (fun σ1 K1 P1 => ⟨rfl, ?_⟩)
      have K1' := K1.wd hm1 hm2
      refine item (jl (z :: zs') ++ [44]) σ1 (by rw [List.length_append]; simp only [List.length_cons, List.length_nil] at hzl hjl ⊢; omega) ?_ (K0.tr K1') (S.keep K1' id (fun p hp => hB p hp)) (by rw [← List.append_assoc]; exact P1)
      rw [hsn, if_neg (by simp)]; simp
end RWP
