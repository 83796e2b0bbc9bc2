/-! THE REFERENCE READS TREES -/
section RT
variable {X : List Int32} {d : Nat} {σ : mS} {Q : Option Value → mS → Prop} {A : Nat → Prop} {s : Nat} {ts : List mTk}
theorem t144 {i : Nat} {u : mTk} (S : mSlot σ A s ts) (h : ts[i]? = some u) (H : Q (some (.int (nI u.1))) σ) : mM X (d + 1) 144 0 (mm_L0 144 [.ref 86, .int (nI (mb s + i))]) [] σ Q := by
  obtain ⟨hr, R⟩ := S.at h
  obtain ⟨a, w, _⟩ := R.w
  exact s144 hr w H
theorem t145 {i : Nat} {u : mTk} (S : mSlot σ A s ts) (h : ts[i]? = some u) (H : Q (some (.int (nI u.2.1))) σ) : mM X (d + 1) 145 0 (mm_L0 145 [.ref 86, .int (nI (mb s + i))]) [] σ Q := by
  obtain ⟨hr, R⟩ := S.at h
  obtain ⟨a, w, _⟩ := R.w
  exact s145 hr w H
theorem t151 {i : Nat} {u : mTk} (S : mSlot σ A s ts) (h : ts[i]? = some u) (H : Q (some (.int u.2.2.1)) σ) : mM X (d + 1) 151 0 (mm_L0 151 [.ref 86, .int (nI (mb s + i))]) [] σ Q := by
  obtain ⟨hr, R⟩ := S.at h
  obtain ⟨a, w, _⟩ := R.w
  refine s151 hr w ?_
  rw [ml_self32]; exact H
theorem t153 {i : Nat} {u : mTk} (S : mSlot σ A s ts) (h : ts[i]? = some u) (H : Q (some (.int (nI u.2.2.2.length))) σ) : mM X (d + 1) 153 0 (mm_L0 153 [.ref 86, .int (nI (mb s + i))]) [] σ Q := by
  obtain ⟨hr, R⟩ := S.at h
  obtain ⟨a, w, _⟩ := R.w
  exact s153 hr w H
theorem mSlot.lt {σ : mS} {A : Nat → Prop} {s : Nat} {ts : List mTk} (S : mSlot σ A s ts) : mb s + ts.length ≤ 9856 := by
  have := mb_end S.1
  have := S.2.1
  omega
theorem t147_4 {i : Nat} {u : mTk} (S : mSlot σ A s ts) (h0 : ts[i]? = some u) : ∀ (n j : Nat), ts.length - j = n → j ≤ ts.length → Q (some (.int (nI (mb s + (j + mt_bh u.2.1 (ts.drop j)))))) σ →
    mM X (d + 2) 147 4 [some (.ref 86), some (.int (nI (mb s + i))), some (.int (nI (mb s + ts.length))), some (.int (nI (mb s + j)))] [] σ Q := by
  intro n
  have hlt := S.lt
  obtain ⟨_, R0⟩ := S.at h0
  have hu : u.2.1 < 64 := R0.2.1
  induction n with
  | zero =>
    intro j hn hj H
    have : j = ts.length := by omega
    subst this
    refine u147_4 ⟨fun _ => ?_, fun h => absurd (Int32.le_refl _) h⟩
    simpa [mt_bh] using H
  | succ n ih =>
    intro j hn hj H
    have hj' : j < ts.length := by omega
    have hg : ts[j]? = some ts[j] := List.getElem?_eq_getElem hj'
    obtain ⟨_, R⟩ := S.at hg
    have hl : ts[j].2.1 < 64 := R.2.1
    rw [List.drop_eq_getElem_cons hj'] at H
    refine u147_4 (pk_le (mb s + ts.length) (mb s + j) (fun h => absurd h (by omega)) (fun _ => t145 S hg ⟨_, rfl, t145 S h0 ⟨_, rfl, pk_le ts[j].2.1 u.2.1 (fun h => ?_) (fun h => ?_)⟩⟩))
    · rw [mt_bh, if_neg (by omega)] at H; exact H
    · rw [nI_1]
      refine ih (j + 1) (by omega) (by omega) ?_
      rw [mt_bh, if_pos h] at H
      rw [show j + 1 + mt_bh u.2.1 (ts.drop (j + 1)) = j + (1 + mt_bh u.2.1 (ts.drop (j + 1))) by omega]; exact H
/-- behind a tree -/
theorem t147 {pre rest : List mTk} {t : mT} {l i e : Nat} (S : mSlot σ A s ts) (et : ts = pre ++ (mt_tk t l ++ rest)) (hc : mt_cl l rest) (hi : i = mb s + pre.length) (he : e = mb s + ts.length) (H : Q (some (.int (nI (mb s + (pre.length + (mt_tk t l).length))))) σ) :
    mM X (d + 2) 147 0 (mm_L0 147 [.ref 86, .int (nI i), .int (nI e)]) [] σ Q := by
  subst hi; subst he
  obtain ⟨u, us, e, _⟩ := mt_tk_ne t l
  have hb := mt_bh_tk e hc
  have hg : ts[pre.length]? = some u := by rw [et, e]; simp
  have hd : ts.drop (pre.length + 1) = us ++ rest := by rw [et, e]; simp
  have hlen : pre.length + 1 ≤ ts.length := by rw [et, e]; simp
  refine u147_0 ?_
  rw [nI_1, show mb s + pre.length + 1 = mb s + (pre.length + 1) by omega]
  refine t147_4 S hg _ (pre.length + 1) rfl hlen ?_
  rw [hd, hb]
  rw [e, List.length_cons] at H
  rw [show pre.length + 1 + us.length = pre.length + (us.length + 1) by omega]; exact H
theorem mt_tk_pos (t : mT) (l : Nat) : 1 ≤ (mt_tk t l).length := by
  obtain ⟨u, us, e, _⟩ := mt_tk_ne t l
  rw [e]; simp
theorem t146_15 {r e : Nat} {rest : List mTk} {l : Nat} (S : mSlot σ A s ts) (hc : mt_cl l rest) (he : e = mb s + ts.length) : ∀ (xs : List mT) (pre : List mTk) (n q st : Nat), ts = pre ++ (mt_tks xs l ++ rest) → q = mb s + pre.length → st = mb s + (pre.length + (mt_tks xs l).length) → Q (some (.int (nI (n + xs.length)))) σ →
    mM X (d + 3) 146 15 [some (.ref 86), some (.int (nI r)), some (.int (nI e)), some (.int (nI n)), some (.int (nI st)), some (.int (nI q))] [] σ Q := by
  have hlt := S.lt
  intro xs
  induction xs with
  | nil =>
    intro pre n q st et hq hst H
    subst hq; subst hst
    refine u146_15 ⟨fun _ => ?_, fun h => absurd (by simp [mt_tks]) h⟩
    simpa using H
  | cons x xs ih =>
    intro pre n q st et hq hst H
    have hl := mt_tk_pos x l
    have hle2 : pre.length + (mt_tks (x :: xs) l).length ≤ ts.length := by rw [et]; simp
    rw [mt_tks_cons, List.append_assoc] at et
    rw [mt_tks_cons, List.length_append] at hst hle2
    refine u146_15 (pk_le st q (fun h => absurd h (by omega)) (fun _ => ?_))
    refine t147 S et (mt_cl_tks hc) hq he ⟨_, rfl, ?_⟩
    rw [nI_1]
    refine ih (pre ++ mt_tk x l) (n + 1) _ st (by rw [et]; simp) (by rw [List.length_append]) (by rw [hst, List.length_append]; omega) ?_
    rw [List.length_cons] at H
    rw [show n + 1 + xs.length = n + (xs.length + 1) by omega]; exact H
/-- how many elements a tree has -/
theorem t146 {pre rest : List mTk} {t : mT} {l i e : Nat} (S : mSlot σ A s ts) (et : ts = pre ++ (mt_tk t l ++ rest)) (hc : mt_cl l rest) (hi : i = mb s + pre.length) (he : e = mb s + ts.length) (H : Q (some (.int (nI (mt_els t).length))) σ) :
    mM X (d + 3) 146 0 (mm_L0 146 [.ref 86, .int (nI i), .int (nI e)]) [] σ Q := by
  refine u146_0 (t147 S et hc hi he ⟨_, rfl, ?_⟩)
  rw [nI_1]
  by_cases ht : mt_isL t = true
  · have ek := mt_tk_list ht l
    refine t146_15 (l := l + 1) S (mt_cl_up hc) he (mt_els t) (pre ++ [(3, l, 0, [])]) 0 _ _ (by rw [et, ek]; simp) (by rw [hi, List.length_append]; rfl) (by rw [ek, List.length_append, List.length_cons]; simp only [List.length_cons, List.length_nil]; omega) ?_
    rw [Nat.zero_add]; exact H
  · obtain ⟨sc, rfl⟩ := mt_leaf ht
    refine t146_15 (l := l) S hc he [] (pre ++ [mt_st sc l]) 0 _ _ (by rw [et, mt_tk_leaf]; simp [mt_tks]) (by rw [hi, List.length_append]; rfl) (by rw [mt_tk_leaf, List.length_append]; rfl) ?_
    exact H
theorem t178_8 {r e k : Nat} {rest : List mTk} {l : Nat} (S : mSlot σ A s ts) (hk : k < 2 ^ 31) (hc : mt_cl l rest) (he : e = mb s + ts.length) : ∀ (n : Nat) (xs : List mT) (pre : List mTk) (j q : Nat), k = j + n → n ≤ xs.length → ts = pre ++ (mt_tks xs l ++ rest) → q = mb s + pre.length → Q (some (.int (nI (mb s + (pre.length + (mt_tks (xs.take n) l).length))))) σ →
    mM X (d + 3) 178 8 [some (.ref 86), some (.int (nI r)), some (.int (nI e)), some (.int (nI k)), some (.int (nI q)), some (.int (nI j))] [] σ Q := by
  intro n
  induction n with
  | zero =>
    intro xs pre j q hj hn et hq H
    subst hq
    refine u178_8 (pk_le k j (fun _ => ?_) (fun h => absurd h (by omega)))
    simpa [mt_tks] using H
  | succ n ih =>
    intro xs pre j q hj hn et hq H
    cases xs with
    | nil => exact absurd hn (by simp)
    | cons x xs =>
      rw [mt_tks_cons, List.append_assoc] at et
      refine u178_8 (pk_le k j (fun h => absurd h (by omega)) (fun _ => ?_))
      refine t147 S et (mt_cl_tks hc) hq he ⟨_, rfl, ?_⟩
      rw [nI_1]
      refine ih xs (pre ++ mt_tk x l) (j + 1) _ (by omega) (by simpa using hn) (by rw [et]; simp) (by rw [List.length_append]) ?_
      rw [List.take_succ_cons, mt_tks_cons, List.length_append] at H
      rw [List.length_append, Nat.add_assoc]; exact H
/-- where element k begins -/
theorem t178 {pre rest : List mTk} {t : mT} {l i e k : Nat} (S : mSlot σ A s ts) (et : ts = pre ++ (mt_tk t l ++ rest)) (hc : mt_cl l rest) (hi : i = mb s + pre.length) (he : e = mb s + ts.length) (hk : k < (mt_els t).length) (hk2 : k < 2 ^ 31) (H : Q (some (.int (nI (mb s + (pre.length + 1 + (mt_tks ((mt_els t).take k) (l + 1)).length))))) σ) :
    mM X (d + 3) 178 0 (mm_L0 178 [.ref 86, .int (nI i), .int (nI e), .int (nI k)]) [] σ Q := by
  refine u178_0 ?_
  rw [nI_1]
  have ht : mt_isL t = true := by
    by_cases ht : mt_isL t = true
    · exact ht
    · obtain ⟨sc, rfl⟩ := mt_leaf ht
      exact absurd hk (by simp [mt_els])
  have ek := mt_tk_list ht l
  refine t178_8 (l := l + 1) S hk2 (mt_cl_up hc) he k (mt_els t) (pre ++ [(3, l, 0, [])]) 0 _ (by omega) (by omega) (by rw [et, ek]; simp) (by rw [hi, List.length_append]; rfl) ?_
  rw [List.length_append]; exact H
/-- a value at level l -/
def mt_okl (l : Nat) (t : mT) : Prop := (mt_dp t = 0 ∨ mt_dp t + l ≤ 3) ∧ mt_wd t = true
theorem mt_okl_leaf (l : Nat) (sc : mSc) : mt_okl l (.leaf sc) := ⟨Or.inl rfl, rfl⟩
theorem mt_okl_list {l : Nat} {t : mT} (h : mt_isL t = true) : mt_okl l t ↔ l < 3 ∧ (mt_els t).length ≤ 8 ∧ ∀ x ∈ mt_els t, mt_okl (l + 1) x := by
  unfold mt_okl
  have hd : mt_dp t ≠ 0 := by rw [mt_dp_list h]; omega
  rw [mt_wd_list h]
  constructor
  · rintro ⟨h1, h2, h3⟩
    have h1' : mt_dp t + l ≤ 3 := h1.resolve_left hd
    refine ⟨by omega, h2, fun x hx => ⟨?_, h3 x hx⟩⟩
    have : mt_dp t ≤ (2 - l) + 1 := by omega
    have := (mt_dp_le h).mp this x hx
    omega
  · rintro ⟨h1, h2, h3⟩
    refine ⟨Or.inr ?_, h2, fun x hx => (h3 x hx).2⟩
    have : mt_dp t ≤ (2 - l) + 1 := (mt_dp_le h).mpr (fun x hx => by have := (h3 x hx).1; omega)
    omega
theorem mt_okl_0 {t : mT} : mt_okl 0 t ↔ mt_ok t := by
  unfold mt_okl mt_ok
  constructor
  · rintro ⟨h1, h2⟩; exact ⟨by omega, h2⟩
  · rintro ⟨h1, h2⟩; exact ⟨by omega, h2⟩
theorem t142_11 {e : Nat} (S : mSlot σ A s ts) (he : e = mb s + ts.length) (i1 : Int32) : ∀ (t : mT) (l : Nat) (pre rest : List mTk) (q : Nat), ts = pre ++ (mt_tk t l ++ rest) → mt_cl l rest → q = mb s + pre.length →
    (mt_okl l t → mM X (d + 4) 142 11 [some (.ref 86), some (.int i1), some (.int (nI e)), some (.int (nI (mb s + (pre.length + (mt_tk t l).length))))] [] σ Q → mM X (d + 4) 142 11 [some (.ref 86), some (.int i1), some (.int (nI e)), some (.int (nI q))] [] σ Q) ∧
    (¬ mt_okl l t → Q (some (.int 0)) σ → mM X (d + 4) 142 11 [some (.ref 86), some (.int i1), some (.int (nI e)), some (.int (nI q))] [] σ Q) := by
  have hlt := S.lt
  intro t
  induction t using mt_ind with
  | hs sc =>
    intro l pre rest q et hc hq
    refine ⟨fun _ H => ?_, fun h => absurd (mt_okl_leaf l sc) h⟩
    rw [mt_tk_leaf] at et
    have hg : ts[pre.length]? = some (mt_st sc l) := by rw [et]; simp
    have hle : pre.length + 1 ≤ ts.length := by rw [et]; simp
    have hk : mt_k (.leaf sc) < 3 := by rcases sc with _ | _ | _ <;> simp [mt_k]
    subst hq
    refine u142_11 (pk_le e (mb s + pre.length) (fun h => absurd h (by omega)) (fun _ => t144 S hg ⟨_, rfl, ?_⟩))
    refine ⟨fun _ => ?_, fun h => absurd h ?_⟩
    · rw [nI_1]; exact H
    · show ¬ nI (mt_k (.leaf sc)) = nI 3
      rw [nI_eq (by omega) (by decide)]; omega
  | hl t ht ih =>
    intro l pre rest q et hc hq
    have ek := mt_tk_list ht l
    have hg : ts[pre.length]? = some (3, l, 0, []) := by rw [et, ek]; simp
    have hle : pre.length + (mt_tk t l).length ≤ ts.length := by rw [et]; simp
    have hp := mt_tk_pos t l
    obtain ⟨_, R⟩ := S.at hg
    have hl64 : l < 64 := R.2.1
    subst hq
    have hels : (mt_els t).length ≤ (mt_tks (mt_els t) (l + 1)).length := by
      have : ∀ xs : List mT, xs.length ≤ (mt_tks xs (l + 1)).length := by
        intro xs
        induction xs with
        | nil => simp
        | cons x xs ih2 =>
          rw [mt_tks_cons, List.length_append, List.length_cons]
          have := mt_tk_pos x (l + 1)
          omega
      exact this _
    have hel2 : (mt_els t).length < 9857 := by rw [ek, List.length_cons] at hle; omega
    -- the elements, one after another
    have many : ∀ (xs : List mT) (pre2 : List mTk) (q : Nat), (∀ x ∈ xs, x ∈ mt_els t) → ts = pre2 ++ (mt_tks xs (l + 1) ++ rest) → q = mb s + pre2.length →
        ((∀ x ∈ xs, mt_okl (l + 1) x) → mM X (d + 4) 142 11 [some (.ref 86), some (.int i1), some (.int (nI e)), some (.int (nI (mb s + (pre2.length + (mt_tks xs (l + 1)).length))))] [] σ Q → mM X (d + 4) 142 11 [some (.ref 86), some (.int i1), some (.int (nI e)), some (.int (nI q))] [] σ Q) ∧
        (¬ (∀ x ∈ xs, mt_okl (l + 1) x) → Q (some (.int 0)) σ → mM X (d + 4) 142 11 [some (.ref 86), some (.int i1), some (.int (nI e)), some (.int (nI q))] [] σ Q) := by
      intro xs
      induction xs with
      | nil =>
        intro pre2 q _ et2 hq
        subst hq
        exact ⟨fun _ H => by simpa [mt_tks] using H, fun h => absurd (fun x hx => nomatch hx) h⟩
      | cons x xs ihx =>
        intro pre2 q hm et2 hq
        rw [mt_tks_cons, List.append_assoc] at et2
        obtain ⟨g1, g2⟩ := ih x (hm x List.mem_cons_self) (l + 1) pre2 (mt_tks xs (l + 1) ++ rest) q et2 (mt_cl_tks (mt_cl_up hc)) hq
        obtain ⟨k1, k2⟩ := ihx (pre2 ++ mt_tk x (l + 1)) (mb s + (pre2.length + (mt_tk x (l + 1)).length)) (fun y hy => hm y (List.mem_cons_of_mem _ hy)) (by rw [et2]; simp) (by rw [List.length_append])
        constructor
        · intro hall H
          refine g1 (hall x List.mem_cons_self) (k1 (fun y hy => hall y (List.mem_cons_of_mem _ hy)) ?_)
          rw [mt_tks_cons, List.length_append] at H
          rw [List.length_append, Nat.add_assoc]; exact H
        · intro hn H
          by_cases hx : mt_okl (l + 1) x
          · refine g1 hx (k2 (fun hall => hn (fun y hy => ?_)) H)
            rcases List.mem_cons.mp hy with rfl | hy
            · exact hx
            · exact hall y hy
          · exact g2 hx H
    obtain ⟨m1, m2⟩ := many (mt_els t) (pre ++ [(3, l, 0, [])]) (mb s + (pre.length + 1)) (fun x hx => hx) (by rw [et, ek]; simp) (by rw [List.length_append]; rfl)
    constructor
    · intro hok H
      obtain ⟨o1, o2, o3⟩ := (mt_okl_list ht).mp hok
      refine u142_11 (pk_le e (mb s + pre.length) (fun h => absurd h (by omega)) (fun _ => t144 S hg ⟨_, rfl, fun h => absurd rfl h, fun _ => t145 S hg ⟨_, rfl, pk_le 3 l (fun h => absurd h (by omega)) (fun _ => t146 S et hc rfl he ⟨_, rfl, pk_le (mt_els t).length 8 (fun _ => ?_) (fun h => absurd h (by omega))⟩)⟩⟩))
      rw [nI_1, Nat.add_assoc]
      refine m1 o3 ?_
      rw [ek, List.length_cons] at H
      rw [List.length_append]
      rw [show pre.length + ((mt_tks (mt_els t) (l + 1)).length + 1) = pre.length + [((3 : Nat), l, (0 : Int32), ([] : List Nat))].length + (mt_tks (mt_els t) (l + 1)).length by simp only [List.length_cons, List.length_nil]; omega] at H
      exact H
    · intro hok H
      refine u142_11 (pk_le e (mb s + pre.length) (fun h => absurd h (by omega)) (fun _ => t144 S hg ⟨_, rfl, fun h => absurd rfl h, fun _ => t145 S hg ⟨_, rfl, pk_le 3 l (fun _ => H) (fun h3 => t146 S et hc rfl he ⟨_, rfl, pk_le (mt_els t).length 8 (fun h8 => ?_) (fun _ => H)⟩)⟩⟩))
      rw [nI_1, Nat.add_assoc]
      exact m2 (fun hall => hok ((mt_okl_list ht).mpr ⟨h3, h8, hall⟩)) H
/-- whether a slot's tree is a value -/
theorem t142 {t : mT} (S : mSlot σ A s (mt_tk t 0)) (H1 : mt_ok t → Q (some (.int 1)) σ) (H0 : ¬ mt_ok t → Q (some (.int 0)) σ) : mM X (d + 4) 142 0 (mm_L0 142 [.ref 86, .int (nI s)]) [] σ Q := by
  refine u142_0 (s143 S.1 S.2.2.1 ⟨_, rfl, s123 S.1 ⟨_, rfl, ?_⟩⟩)
  obtain ⟨g1, g2⟩ := t142_11 (X := X) (d := d) (Q := Q) S rfl (nI s) t 0 [] [] (mb s) (by simp) (mt_cl_nil 0) rfl
  by_cases hok : mt_ok t
  · refine g1 (mt_okl_0.mpr hok) (u142_11 ⟨fun _ => H1 hok, fun h => absurd ?_ h⟩)
    simp
  · exact g2 (fun h => hok (mt_okl_0.mp h)) (H0 hok)
end RT
