/-! THE REFERENCE'S LEAVES, over Nat -/
def uI (σ : mS) (a i : Nat) (v : Int32) : mS := (σ.1, fun b j => if b = a ∧ j = i then v else σ.2.1 b j, σ.2.2)
def uL (σ : mS) (a i : Nat) (w : Int64) : mS := (σ.1, σ.2.1, fun b j => if b = a ∧ j = i then w else σ.2.2 b j)
theorem uI_e {σ : mS} {a i : Nat} {v : Int32} (h : i < 2 ^ 31) : mPut σ a (nI i) v = uI σ a i v := by unfold mPut uI; rw [nI_clamp h]
theorem uL_e {σ : mS} {a i : Nat} {w : Int64} (h : i < 2 ^ 31) : mPuL σ a (nI i) w = uL σ a i w := by unfold mPuL uL; rw [nI_clamp h]
theorem mGet_e {σ : mS} {a i : Nat} (h : i < 2 ^ 31) : mGet σ a (nI i) = σ.2.1 a i := by unfold mGet; rw [nI_clamp h]
theorem mGeL_e {σ : mS} {a i : Nat} (h : i < 2 ^ 31) : mGeL σ a (nI i) = σ.2.2 a i := by unfold mGeL; rw [nI_clamp h]
theorem m_ix {i n : Nat} (h : i < n) (hn : n < 2 ^ 31) : 0 ≤ nI i ∧ Int32.toNatClampNeg (nI i) < n := ⟨nI_pos' (by omega), by rw [nI_clamp (by omega)]; exact h⟩
theorem m_ch {x : Nat} (h : x < 65536) : ((Int32.toUInt32 (nI x)) % 65536).toInt32 = nI x := by
  rw [pk_char]
  congr 1
  show (BitVec.ofNat 32 x).toNat % 65536 = x
  rw [BitVec.toNat_ofNat]
  omega
theorem m_cb {x : Nat} (h : x < 65536) : 0 ≤ nI x ∧ nI x ≤ 65535 := ⟨nI_pos' (by omega), nI_le (show x ≤ 65535 by omega) (by decide)⟩
/-- where a slot's rows begin, how many it may have -/
def mb (s : Nat) : Nat := if s < 27 then 32 * s else if s < 123 then 864 + 9 * (s - 27) else if s < 129 then 1728 + 176 * (s - 123) else 2784 + 544 * (s - 129)
def mcp (s : Nat) : Nat := if s < 27 then 32 else if s < 123 then 9 else if s < 129 then 176 else 544
theorem mb_end {s : Nat} (h : s < 142) : mb s + mcp s ≤ 9856 := by
  unfold mb mcp
  split
  · omega
  · split
    · omega
    · split <;> omega
theorem mb_dis {s s' i j : Nat} (h : s ≠ s') (hs : s < 142) (hs' : s' < 142) (hi : i < mcp s) (hj : j < mcp s') : mb s + i ≠ mb s' + j := by
  unfold mb
  unfold mcp at hi hj
  split at hi <;> split at hj <;> (try split at hi) <;> (try split at hj) <;> (try split at hi) <;> (try split at hj) <;> (simp only [*, if_true, if_false]; omega)
section ML
variable {X : List Int32} {d : Nat} {σ : mS} {Q : Option Value → mS → Prop}
theorem s123 {s : Nat} (hs : s < 142) (H : Q (some (.int (nI (mb s)))) σ) : mM X (d + 1) 123 0 (mm_L0 123 [.int (nI s)]) [] σ Q := by
  refine u123_0 (pk_le 27 s (fun h1 => pk_le 123 s (fun h2 => pk_le 129 s (fun h3 => ?_) (fun h3 => ?_)) (fun h2 => ?_)) (fun h1 => ?_))
  · have e : (2784 : Int32) + (544 : Int32) * (nI s - (129 : Int32)) = nI (mb s) := by
      rw [show (129 : Int32) = nI 129 from rfl, pk_sub h3, show (544 : Int32) = nI 544 from rfl, pk_mul, show (2784 : Int32) = nI 2784 from rfl, nI_add]
      unfold mb; rw [if_neg (by omega), if_neg (by omega), if_neg (by omega)]
    rw [e]; exact H
  · have e : (1728 : Int32) + (176 : Int32) * (nI s - (123 : Int32)) = nI (mb s) := by
      rw [show (123 : Int32) = nI 123 from rfl, pk_sub h2, show (176 : Int32) = nI 176 from rfl, pk_mul, show (1728 : Int32) = nI 1728 from rfl, nI_add]
      unfold mb; rw [if_neg (by omega), if_neg (by omega), if_pos (by omega)]
    rw [e]; exact H
  · have e : (864 : Int32) + (9 : Int32) * (nI s - (27 : Int32)) = nI (mb s) := by
      rw [show (27 : Int32) = nI 27 from rfl, pk_sub h1, show (9 : Int32) = nI 9 from rfl, pk_mul, show (864 : Int32) = nI 864 from rfl, nI_add]
      unfold mb; rw [if_neg (by omega), if_pos (by omega)]
    rw [e]; exact H
  · have e : (32 : Int32) * nI s = nI (mb s) := by
      rw [show (32 : Int32) = nI 32 from rfl, pk_mul]
      unfold mb; rw [if_pos (by omega)]
    rw [e]; exact H
/-- letter p of the pool -/
def mg (σ : mS) (p : Nat) : Nat := ml_b (σ.2.2 87 (p / 8)) (p % 8)
theorem mg_lt (σ : mS) (p : Nat) : mg σ p < 128 := Nat.mod_lt _ (by decide)
def gP (σ : mS) (p c : Nat) : mS := uL σ 87 (p / 8) (ml_bp (σ.2.2 87 (p / 8)) (p % 8) c)
theorem mg_gP {p c q : Nat} (hc : c < 128) : mg (gP σ p c) q = if q = p then c else mg σ q := by
  unfold mg gP uL
  by_cases e : q / 8 = p / 8
  · simp only [e, and_self, if_true]
    rw [ml_bpb (Nat.mod_lt _ (by decide)) hc (Nat.mod_lt _ (by decide))]
    by_cases e2 : q % 8 = p % 8
    · have : q = p := by omega
      rw [if_pos e2, if_pos this]
    · have : ¬ q = p := fun h => e2 (by rw [h])
      rw [if_neg e2, if_neg this]
  · have : ¬ q = p := fun h => e (by rw [h])
    simp only [e, and_false, if_false, this]
theorem s154 {p : Nat} (hp : p < 19200) (H : Q (some (.int (nI (mg σ p)))) σ) : mM X (d + 1) 154 0 (mm_L0 154 [.ref 86, .int (nI p)]) [] σ Q := by
  have e1 : nI p / (8 : Int32) = nI (p / 8) := pk_div (by omega) (by decide) (by decide)
  have e2 : (8 : Int32) * (nI p - nI p / (8 : Int32) * (8 : Int32)) = nI (8 * (p % 8)) := by
    rw [show (8 : Int32) = nI 8 from rfl, pk_rem (by omega) (by decide) (by decide), pk_mul]
  have hb : ml_b (σ.2.2 87 (p / 8)) (p % 8) < 65536 := Nat.lt_trans (Nat.mod_lt _ (by decide)) (by decide : 2 ^ 7 < 65536)
  refine u154_0 ?_
  rw [e2, e1, ml_bget (Nat.mod_lt _ (by decide)), mGeL_e (by omega), m_ch hb]
  exact ⟨m_ix (by omega) (by decide), m_cb hb, H⟩
theorem s138 {p c : Nat} (hp : p < 19200) (_hc : c < 128) (H : ∀ σ', σ' = gP σ p c → Q none σ') : mM X (d + 1) 138 0 (mm_L0 138 [.ref 86, .int (nI p), .int (nI c)]) [] σ Q := by
  have e1 : nI p / (8 : Int32) = nI (p / 8) := pk_div (by omega) (by decide) (by decide)
  have e2 : (8 : Int32) * (nI p - nI p / (8 : Int32) * (8 : Int32)) = nI (8 * (p % 8)) := by
    rw [show (8 : Int32) = nI 8 from rfl, pk_rem (by omega) (by decide) (by decide), pk_mul]
  refine u138_0 ?_
  rw [e2, e1, mGeL_e (by omega), uL_e (by omega)]
  exact ⟨m_ix (by omega) (by decide), m_ix (by omega) (by decide), H⟩
/-- a row's long and its parts -/
def mW (w : Int64) (k l n a v : Nat) : Prop := w = lN (ml_p k l n a v) ∧ k < 4 ∧ l < 64 ∧ n < 64 ∧ a < 32768 ∧ v < 2 ^ 32
section ROW
variable {r k l n a v : Nat}
theorem s144 (hr : r < 9856) (h : mW (σ.2.2 89 r) k l n a v) (H : Q (some (.int (nI k))) σ) : mM X (d + 1) 144 0 (mm_L0 144 [.ref 86, .int (nI r)]) [] σ Q := by
  obtain ⟨e, h1, h2, h3, h4, h5⟩ := h
  refine u144_0 ⟨m_ix hr (by decide), ?_⟩
  rw [mGeL_e (by omega), e, ml_k h1 h2 h3 h4 h5]; exact H
theorem s145 (hr : r < 9856) (h : mW (σ.2.2 89 r) k l n a v) (H : Q (some (.int (nI l))) σ) : mM X (d + 1) 145 0 (mm_L0 145 [.ref 86, .int (nI r)]) [] σ Q := by
  obtain ⟨e, h1, h2, h3, h4, h5⟩ := h
  refine u145_0 ⟨m_ix hr (by decide), ?_⟩
  rw [mGeL_e (by omega), e, ml_l h1 h2 h3 h4 h5]; exact H
theorem s153 (hr : r < 9856) (h : mW (σ.2.2 89 r) k l n a v) (H : Q (some (.int (nI n))) σ) : mM X (d + 1) 153 0 (mm_L0 153 [.ref 86, .int (nI r)]) [] σ Q := by
  obtain ⟨e, h1, h2, h3, h4, h5⟩ := h
  refine u153_0 ⟨m_ix hr (by decide), ?_⟩
  rw [mGeL_e (by omega), e, ml_n h1 h2 h3 h4 h5]; exact H
theorem s152 (hr : r < 9856) (h : mW (σ.2.2 89 r) k l n a v) (H : Q (some (.int (nI a))) σ) : mM X (d + 1) 152 0 (mm_L0 152 [.ref 86, .int (nI r)]) [] σ Q := by
  obtain ⟨e, h1, h2, h3, h4, h5⟩ := h
  refine u152_0 ⟨m_ix hr (by decide), ?_⟩
  rw [mGeL_e (by omega), e, ml_a h1 h2 h3 h4 h5]; exact H
theorem s151 (hr : r < 9856) (h : mW (σ.2.2 89 r) k l n a v) (H : Q (some (.int (nI v))) σ) : mM X (d + 1) 151 0 (mm_L0 151 [.ref 86, .int (nI r)]) [] σ Q := by
  obtain ⟨e, h1, h2, h3, h4, h5⟩ := h
  refine u151_0 ⟨m_ix hr (by decide), ?_⟩
  rw [mGeL_e (by omega), e, ml_v h1 h2 h3 h4 h5]; exact H
theorem s140 {n' a' : Nat} (hr : r < 9856) (h : mW (σ.2.2 89 r) k l n a v) (hn : n' < 64) (ha : a' < 32768) (H : ∀ σ', σ' = uL σ 89 r (lN (ml_p k l n' a' v)) → Q none σ') : mM X (d + 1) 140 0 (mm_L0 140 [.ref 86, .int (nI r), .int (nI a'), .int (nI n')]) [] σ Q := by
  obtain ⟨e, h1, h2, h3, h4, h5⟩ := h
  refine u140_0 ⟨m_ix hr (by decide), m_ix hr (by decide), ?_⟩
  rw [mGeL_e (by omega), e, ml_set h1 h2 h3 h4 h5 hn ha, uL_e (by omega)]; exact H
end ROW
theorem s121 {s : Nat} (hs : s < 142) (H : ∀ σ', σ' = uI σ 90 s 0 → Q none σ') : mM X (d + 1) 121 0 (mm_L0 121 [.ref 86, .int (nI s)]) [] σ Q := by
  refine u121_0 ⟨m_ix hs (by decide), ?_⟩
  rw [uI_e (by omega)]; exact H
def mAdd (σ : mS) (s z k l : Nat) (v : Int32) : mS := uI (uL σ 89 (mb s + z) (lN (ml_p k l 0 0 v.toBitVec.toNat))) 90 s (nI (z + 1))
theorem s122 {s z k l : Nat} {v : Int32} (hs : s < 142) (hz : σ.2.1 90 s = nI z) (hc : z < mcp s) (hk : k < 4) (hl : l < 64) (H : ∀ σ', σ' = mAdd σ s z k l v → Q none σ') : mM X (d + 2) 122 0 (mm_L0 122 [.ref 86, .int (nI s), .int (nI k), .int (nI l), .int v]) [] σ Q := by
  have he := mb_end hs
  refine u122_0 (s123 hs ⟨_, rfl, ?_⟩)
  dsimp only
  rw [mGet_e (by omega), hz, nI_add]
  refine ⟨m_ix hs (by decide), m_ix (by omega) (by decide), ?_⟩
  have ev : v = nI v.toBitVec.toNat := (ml_self32 v).symm
  have hv : v.toBitVec.toNat < 2 ^ 32 := v.toBitVec.isLt
  rw [ev, ml_add hk hl hv, uL_e (by omega)]
  rintro σ5 rfl
  refine ⟨m_ix hs (by decide), m_ix hs (by decide), ?_⟩
  rw [mGet_e (by omega), uI_e (by omega), show (uL σ 89 (mb s + z) (lN (ml_p k l 0 0 v.toBitVec.toNat))).2.1 90 s = nI z from hz, nI_1]
  exact H
theorem s143 {s z : Nat} (hs : s < 142) (hz : σ.2.1 90 s = nI z) (H : Q (some (.int (nI (mb s + z)))) σ) : mM X (d + 2) 143 0 (mm_L0 143 [.ref 86, .int (nI s)]) [] σ Q := by
  refine u143_0 (s123 hs ⟨_, rfl, m_ix hs (by decide), ?_⟩)
  rw [mGet_e (by omega), hz, nI_add]; exact H
end ML
/-- a slot's rows; A: where its texts may lie -/
def mRow (σ : mS) (A : Nat → Prop) (r : Nat) (t : mTk) : Prop := t.1 < 4 ∧ t.2.1 < 64 ∧ t.2.2.2.length < 64 ∧ ∃ a, a + t.2.2.2.length ≤ 19200 ∧ σ.2.2 89 r = lN (ml_p t.1 t.2.1 t.2.2.2.length a t.2.2.1.toBitVec.toNat) ∧ ∀ j (h : j < t.2.2.2.length), A (a + j) ∧ mg σ (a + j) = t.2.2.2[j]
def mSlot (σ : mS) (A : Nat → Prop) (s : Nat) (ts : List mTk) : Prop := s < 142 ∧ ts.length ≤ mcp s ∧ σ.2.1 90 s = nI ts.length ∧ ∀ i (h : i < ts.length), mRow σ A (mb s + i) ts[i]
theorem mRow.w {σ : mS} {A : Nat → Prop} {r : Nat} {t : mTk} (h : mRow σ A r t) : ∃ a, mW (σ.2.2 89 r) t.1 t.2.1 t.2.2.2.length a t.2.2.1.toBitVec.toNat ∧ a + t.2.2.2.length ≤ 19200 ∧ ∀ j (h : j < t.2.2.2.length), A (a + j) ∧ mg σ (a + j) = t.2.2.2[j] := by
  obtain ⟨h1, h2, h3, a, h4, h5, h6⟩ := h
  exact ⟨a, ⟨h5, h1, h2, h3, by omega, t.2.2.1.toBitVec.isLt⟩, h4, h6⟩
theorem mSlot.at {σ : mS} {A : Nat → Prop} {s i : Nat} {ts : List mTk} {u : mTk} (S : mSlot σ A s ts) (h : ts[i]? = some u) : mb s + i < 9856 ∧ mRow σ A (mb s + i) u := by
  obtain ⟨hs, hc, _, hr⟩ := S
  obtain ⟨hi, e⟩ := List.getElem?_eq_some_iff.mp h
  have := mb_end hs
  refine ⟨by omega, ?_⟩
  rw [← e]; exact hr i hi
