/-! VALUES as trees: a leaf is null, a number or a text; `branch 0` is the empty list, `branch (n+1) x rest` puts x before rest -/
abbrev mSc : Type := Option (Int32 ⊕ List Nat)
abbrev mT : Type := Lean.RArray mSc
def mt_els : mT → List mT
  | .leaf _ => []
  | .branch 0 _ _ => []
  | .branch (_ + 1) a b => a :: mt_els b
def mt_isL : mT → Bool
  | .leaf _ => false
  | .branch _ _ _ => true
def mt_mk : List mT → mT
  | [] => .branch 0 (.leaf none) (.leaf none)
  | x :: xs => .branch 1 x (mt_mk xs)
theorem mt_els_mk : ∀ l : List mT, mt_els (mt_mk l) = l
  | [] => rfl
  | x :: xs => by show x :: mt_els (mt_mk xs) = _; rw [mt_els_mk xs]
theorem mt_isL_mk (l : List mT) : mt_isL (mt_mk l) = true := by cases l <;> rfl
theorem mt_ind {P : mT → Prop} (hs : ∀ s, P (.leaf s)) (hl : ∀ t, mt_isL t = true → (∀ x ∈ mt_els t, P x) → P t) : ∀ t, P t := by
  have h : ∀ t : mT, P t ∧ ∀ x ∈ mt_els t, P x := by
    intro t
    induction t with
    | leaf s => exact ⟨hs s, fun x hx => nomatch hx⟩
    | branch n a b iha ihb =>
      have he : ∀ x ∈ mt_els (.branch n a b), P x := by
        cases n with
        | zero => exact fun x hx => nomatch hx
        | succ n =>
          intro x hx
          rcases List.mem_cons.mp hx with rfl | hx
          · exact iha.1
          · exact ihb.2 x hx
      exact ⟨hl _ rfl he, he⟩
  exact fun t => (h t).1
/-- recursion over a tree: g sees the elements with what they gave -/
def mt_r {α : Type} (f : mSc → α) (g : List (mT × α) → α) : mT → α × List (mT × α)
  | .leaf s => (f s, [])
  | .branch 0 _ _ => (g [], [])
  | .branch (_ + 1) a b => (g ((a, (mt_r f g a).1) :: (mt_r f g b).2), (a, (mt_r f g a).1) :: (mt_r f g b).2)
def mt_rec {α : Type} (f : mSc → α) (g : List (mT × α) → α) (t : mT) : α := (mt_r f g t).1
theorem mt_r2 {α : Type} {f : mSc → α} {g : List (mT × α) → α} : ∀ t : mT, (mt_r f g t).2 = (mt_els t).map (fun x => (x, mt_rec f g x)) := by
  intro t
  induction t with
  | leaf s => rfl
  | branch n a b iha ihb =>
    cases n with
    | zero => rfl
    | succ n =>
      show (a, (mt_r f g a).1) :: (mt_r f g b).2 = (a, mt_rec f g a) :: (mt_els b).map _
      rw [ihb]; rfl
theorem mt_rec_leaf {α : Type} {f : mSc → α} {g : List (mT × α) → α} (s : mSc) : mt_rec f g (.leaf s) = f s := rfl
theorem mt_rec_list {α : Type} {f : mSc → α} {g : List (mT × α) → α} {t : mT} (h : mt_isL t = true) : mt_rec f g t = g ((mt_els t).map (fun x => (x, mt_rec f g x))) := by
  cases t with
  | leaf s => cases h
  | branch n a b =>
    cases n with
    | zero => rfl
    | succ n =>
      show g ((a, (mt_r f g a).1) :: (mt_r f g b).2) = g ((a, mt_rec f g a) :: (mt_els b).map _)
      rw [mt_r2]; rfl
theorem mt_leaf {t : mT} (h : ¬ mt_isL t = true) : ∃ s, t = .leaf s := by
  cases t with
  | leaf s => exact ⟨s, rfl⟩
  | branch n a b => exact absurd rfl h
theorem mt_els_leaf (s : mSc) : mt_els (.leaf s) = [] := rfl
/-- kind: 0 null, 1 number, 2 text, 3 list -/
def mt_k : mT → Nat
  | .leaf none => 0
  | .leaf (some (.inl _)) => 1
  | .leaf (some (.inr _)) => 2
  | .branch _ _ _ => 3
def mt_num : mT → Int32
  | .leaf (some (.inl n)) => n
  | _ => 0
def mt_txt : mT → List Nat
  | .leaf (some (.inr s)) => s
  | _ => []
theorem mt_k3 {t : mT} : mt_k t = 3 ↔ mt_isL t = true := by
  cases t with
  | leaf s => rcases s with _ | _ | _ <;> simp [mt_k, mt_isL]
  | branch n a b => simp [mt_k, mt_isL]
theorem mt_k_lt (t : mT) : mt_k t < 4 := by
  cases t with
  | leaf s => rcases s with _ | _ | _ <;> simp [mt_k]
  | branch n a b => simp [mt_k]
/-- rows of the reference: kind, level, number, text -/
abbrev mTk : Type := Nat × Nat × Int32 × List Nat
def mt_st (s : mSc) (l : Nat) : mTk := (mt_k (.leaf s), l, mt_num (.leaf s), mt_txt (.leaf s))
def mt_tk (t : mT) : Nat → List mTk := mt_rec (α := Nat → List mTk) (fun s l => [mt_st s l]) (fun cs l => (3, l, 0, []) :: (cs.map (fun c => c.2 (l + 1))).flatten) t
def mt_tks (ts : List mT) (l : Nat) : List mTk := (ts.map (fun x => mt_tk x l)).flatten
theorem mt_tk_leaf (s : mSc) (l : Nat) : mt_tk (.leaf s) l = [mt_st s l] := rfl
theorem mt_tk_list {t : mT} (h : mt_isL t = true) (l : Nat) : mt_tk t l = (3, l, 0, []) :: mt_tks (mt_els t) (l + 1) := by
  unfold mt_tk
  rw [mt_rec_list h]
  simp only [List.map_map, mt_tks, mt_tk]
  rfl
theorem mt_tk_ne (t : mT) (l : Nat) : ∃ u us, mt_tk t l = u :: us ∧ u.1 = mt_k t ∧ u.2.1 = l ∧ u.2.2.1 = mt_num t ∧ u.2.2.2 = mt_txt t := by
  by_cases h : mt_isL t = true
  · refine ⟨_, _, mt_tk_list h l, (mt_k3.mpr h).symm, rfl, ?_, ?_⟩
    · cases t with
      | leaf s => cases h
      | branch n a b => rfl
    · cases t with
      | leaf s => cases h
      | branch n a b => rfl
  · obtain ⟨s, rfl⟩ := mt_leaf h
    exact ⟨_, _, mt_tk_leaf s l, rfl, rfl, rfl, rfl⟩
theorem mt_tks_nil (l : Nat) : mt_tks [] l = [] := rfl
theorem mt_tks_cons (t : mT) (ts : List mT) (l : Nat) : mt_tks (t :: ts) l = mt_tk t l ++ mt_tks ts l := by simp [mt_tks]
theorem mt_tks_app (ts us : List mT) (l : Nat) : mt_tks (ts ++ us) l = mt_tks ts l ++ mt_tks us l := by simp [mt_tks]
/-- every row of a tree but its first lies deeper -/
theorem mt_tk_deep : ∀ (t : mT) (l : Nat), ∀ u ∈ mt_tk t l, l ≤ u.2.1 := by
  intro t
  induction t using mt_ind with
  | hs s => intro l u hu; rw [mt_tk_leaf] at hu; rcases List.mem_singleton.mp hu with rfl; exact Nat.le_refl _
  | hl t ht ih =>
    intro l u hu
    rw [mt_tk_list ht] at hu
    rcases List.mem_cons.mp hu with rfl | hu
    · exact Nat.le_refl _
    · simp only [mt_tks, List.mem_flatten, List.mem_map] at hu
      obtain ⟨_, ⟨x, hx, rfl⟩, hu⟩ := hu
      exact Nat.le_of_succ_le (ih x hx (l + 1) u hu)
theorem mt_tks_deep (ts : List mT) (l : Nat) : ∀ u ∈ mt_tks ts l, l ≤ u.2.1 := by
  intro u hu
  simp only [mt_tks, List.mem_flatten, List.mem_map] at hu
  obtain ⟨_, ⟨x, hx, rfl⟩, hu⟩ := hu
  exact mt_tk_deep x l u hu
/-- how many of the first rows lie deeper than l -/
def mt_bh (l : Nat) : List mTk → Nat
  | [] => 0
  | t :: ts => if l < t.2.1 then 1 + mt_bh l ts else 0
theorem mt_bh_app {l : Nat} : ∀ {us vs : List mTk}, (∀ u ∈ us, l < u.2.1) → (∀ v ∈ vs.head?, v.2.1 ≤ l) → mt_bh l (us ++ vs) = us.length
  | [], [], _, _ => rfl
  | [], v :: vs, _, h => by
    have := h v rfl
    show (if l < v.2.1 then _ else 0) = 0
    rw [if_neg (by omega)]
  | u :: us, vs, h1, h2 => by
    show (if l < u.2.1 then 1 + mt_bh l (us ++ vs) else 0) = us.length + 1
    rw [if_pos (h1 u List.mem_cons_self), mt_bh_app (fun x hx => h1 x (List.mem_cons_of_mem _ hx)) h2]
    omega
/-- what stands behind a tree of level l in a row of rows -/
def mt_cl (l : Nat) (vs : List mTk) : Prop := ∀ v ∈ vs.head?, v.2.1 ≤ l
theorem mt_cl_nil (l : Nat) : mt_cl l [] := fun _ h => nomatch h
theorem mt_cl_tks {l : Nat} {ts : List mT} {vs : List mTk} (h : mt_cl l vs) : mt_cl l (mt_tks ts l ++ vs) := by
  cases ts with
  | nil => exact h
  | cons t ts =>
    obtain ⟨u, us, e, _, e2, _⟩ := mt_tk_ne t l
    rw [mt_tks_cons, e]
    intro v hv
    simp only [List.cons_append, List.head?_cons, Option.mem_def, Option.some.injEq] at hv
    subst hv
    exact Nat.le_of_eq e2
theorem mt_cl_up {l : Nat} {vs : List mTk} (h : mt_cl l vs) : mt_cl (l + 1) vs := fun v hv => Nat.le_succ_of_le (h v hv)
theorem mt_bh_tk {t : mT} {l : Nat} {us vs : List mTk} {u : mTk} (e : mt_tk t l = u :: us) (h : mt_cl l vs) : mt_bh u.2.1 (us ++ vs) = us.length := by
  obtain ⟨u', us', e', _, e2, _⟩ := mt_tk_ne t l
  rw [e] at e'
  cases e'
  rw [e2]
  refine mt_bh_app (fun x hx => ?_) h
  by_cases ht : mt_isL t = true
  · rw [mt_tk_list ht] at e
    cases e
    exact mt_tks_deep _ _ x hx
  · obtain ⟨s, rfl⟩ := mt_leaf ht
    cases e
    cases hx
/-- depth, and whether every list in it has at most 8 -/
def mt_dp (t : mT) : Nat := mt_rec (α := Nat) (fun _ => 0) (fun cs => 1 + (cs.map (fun c => c.2)).foldr max 0) t
def mt_wd (t : mT) : Bool := mt_rec (α := Bool) (fun _ => true) (fun cs => Nat.ble cs.length 8 && cs.all (fun c => c.2)) t
theorem mt_dp_leaf (s : mSc) : mt_dp (.leaf s) = 0 := rfl
theorem mt_wd_leaf (s : mSc) : mt_wd (.leaf s) = true := rfl
theorem mt_dp_list {t : mT} (h : mt_isL t = true) : mt_dp t = 1 + ((mt_els t).map mt_dp).foldr max 0 := by
  unfold mt_dp
  rw [mt_rec_list h, List.map_map]
  rfl
theorem mt_wd_list {t : mT} (h : mt_isL t = true) : mt_wd t = true ↔ (mt_els t).length ≤ 8 ∧ ∀ x ∈ mt_els t, mt_wd x = true := by
  unfold mt_wd
  rw [mt_rec_list h, Bool.and_eq_true, List.length_map, List.all_map, List.all_eq_true]
  exact ⟨fun ⟨a, b⟩ => ⟨Nat.le_of_ble_eq_true a, b⟩, fun ⟨a, b⟩ => ⟨Nat.ble_eq_true_of_le a, b⟩⟩
theorem mt_max_le : ∀ {l : List Nat} {n : Nat}, l.foldr max 0 ≤ n ↔ ∀ x ∈ l, x ≤ n
  | [], n => by simp
  | a :: l, n => by
    simp only [List.foldr_cons, List.mem_cons, forall_eq_or_imp]
    rw [Nat.max_le, mt_max_le]
theorem mt_dp_le {t : mT} (h : mt_isL t = true) {n : Nat} : mt_dp t ≤ n + 1 ↔ ∀ x ∈ mt_els t, mt_dp x ≤ n := by
  rw [mt_dp_list h, Nat.add_comm 1, Nat.succ_le_succ_iff, mt_max_le]
  simp
/-- a value -/
def mt_ok (t : mT) : Prop := mt_dp t ≤ 3 ∧ mt_wd t = true
/-- the form, in codes -/
def mt_nd (n : Nat) : Nat := if n < 10 then 1 else if n < 100 then 2 else if n < 1000 then 3 else if n < 10000 then 4 else if n < 100000 then 5 else 6
def mt_dg (n : Nat) : List Nat := (List.range (mt_nd n)).map (fun i => 48 + n / 10 ^ (mt_nd n - 1 - i) % 10)
def mt_nf (n : Int32) : List Nat := if n < 0 then 45 :: mt_dg n.toInt.natAbs else mt_dg n.toInt.natAbs
def mt_sf : mSc → List Nat
  | none => [110, 117, 108, 108]
  | some (.inl n) => mt_nf n
  | some (.inr s) => 34 :: (s ++ [34])
def mt_jn : List (List Nat) → List Nat
  | [] => []
  | [a] => a
  | a :: b :: l => a ++ 44 :: mt_jn (b :: l)
def mt_fm (t : mT) : List Nat := mt_rec (α := List Nat) mt_sf (fun cs => 91 :: (mt_jn (cs.map (fun c => c.2)) ++ [93])) t
theorem mt_fm_leaf (s : mSc) : mt_fm (.leaf s) = mt_sf s := rfl
theorem mt_fm_list {t : mT} (h : mt_isL t = true) : mt_fm t = 91 :: (mt_jn ((mt_els t).map mt_fm) ++ [93]) := by
  unfold mt_fm
  rw [mt_rec_list h, List.map_map]
  rfl
def mt_pl (t : mT) : List Nat := if mt_k t = 2 then mt_txt t else mt_fm t
