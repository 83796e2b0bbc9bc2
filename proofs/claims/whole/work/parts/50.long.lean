/-! LONGS of the reference: a row is a number below 2^64, made of parts; a pool's long is eight letters -/
theorem ml_tb (n i : Nat) : (lN n).toBitVec.getLsbD i = (decide (i < 64) && n.testBit i) := by
  rw [lN_bv, BitVec.getLsbD_ofNat]
theorem ml_ext {x y : Int64} (h : ∀ i, i < 64 → x.toBitVec.getLsbD i = y.toBitVec.getLsbD i) : x = y := wb_inj (BitVec.eq_of_getLsbD_eq (fun i hi => h i hi))
theorem ml_sar {n k i : Nat} (hk : k < 64) (hi : k + i < 64) : (lN n >>> ((nI k).toInt64 &&& 63)).toBitVec.getLsbD i = n.testBit (k + i) := by
  rw [wb_c k hk, Int64.toBitVec_shiftRight, lN_bv k, show ((BitVec.ofNat 64 k).smod 64) = BitVec.ofNat 64 k from wb_sm k hk]
  rw [BitVec.sshiftRight_eq', BitVec.toNat_ofNat, Nat.mod_eq_of_lt (show k < 2 ^ 64 by omega), BitVec.getLsbD_sshiftRight, if_pos hi, ml_tb]
  have h1 : ¬ 64 ≤ i := by omega
  simp [h1, hi]
theorem ml_field {n k m : Nat} (hk : k < 64) (hm : k + m ≤ 64) {M : Int64} (hM : M = lN (2 ^ m - 1)) : (lN n >>> ((nI k).toInt64 &&& 63)) &&& M = lN (n / 2 ^ k % 2 ^ m) := by
  subst hM
  apply ml_ext
  intro i hi
  rw [Int64.toBitVec_and, BitVec.getLsbD_and, ml_tb, ml_tb, Nat.testBit_mod_two_pow, Nat.testBit_div_two_pow, Nat.testBit_two_pow_sub_one]
  by_cases h : i < m
  · rw [ml_sar hk (by omega)]
    simp [h, hi, Nat.add_comm]
  · simp [h]
theorem ml_low {n m : Nat} (hm : m ≤ 64) {M : Int64} (hM : M = lN (2 ^ m - 1)) : lN n &&& M = lN (n % 2 ^ m) := by
  subst hM
  apply ml_ext
  intro i hi
  rw [Int64.toBitVec_and, BitVec.getLsbD_and, ml_tb, ml_tb, ml_tb, Nat.testBit_mod_two_pow, Nat.testBit_two_pow_sub_one]
  by_cases h : i < m
  · simp [h, hi]
  · simp [h]
theorem ml_nImod (n : Nat) : nI n = nI (n % 2 ^ 32) := Int32.toBitVec_inj.mp (by
  show BitVec.ofNat 32 n = BitVec.ofNat 32 (n % 2 ^ 32)
  apply BitVec.eq_of_toNat_eq
  simp)
theorem ml_nIinj {a b : Nat} (h : nI a = nI b) : a % 2 ^ 32 = b % 2 ^ 32 := by
  have h2 : (BitVec.ofNat 32 a).toNat = (BitVec.ofNat 32 b).toNat := congrArg (fun x : Int32 => x.toBitVec.toNat) h
  simpa using h2
theorem ml_self (w : Int64) : lN w.toBitVec.toNat = w := wb_inj (by rw [lN_bv]; simp)
theorem ml_self32 (v : Int32) : nI v.toBitVec.toNat = v := Int32.toBitVec_inj.mp (by show BitVec.ofNat 32 _ = _; simp)
theorem ml_num {n : Nat} (hn : n < 2 ^ 64) : (lN n >>> ((nI 32).toInt64 &&& 63)).toInt32 = nI (n / 2 ^ 32) := by
  obtain ⟨y, hy, e⟩ := wb_of (lN n >>> ((nI 32).toInt64 &&& 63))
  rw [e, lN_i, ml_nImod y, ml_nImod (n / 2 ^ 32)]
  refine congrArg nI ?_
  apply Nat.eq_of_testBit_eq
  intro i
  rw [Nat.testBit_mod_two_pow, Nat.testBit_mod_two_pow, Nat.testBit_div_two_pow]
  by_cases h : i < 32
  · have h1 := ml_tb y i
    rw [← e, ml_sar (by decide) (by omega)] at h1
    have h2 : i < 64 := by omega
    simp only [h, h2, decide_true, Bool.true_and] at h1 ⊢
    rw [← h1, Nat.add_comm]
  · simp [h]
/-- a row: kind, level, length and place of the text, number -/
def ml_p (k l n a v : Nat) : Nat := v * 2 ^ 32 + (a * 2 ^ 14 + (n * 2 ^ 8 + (l * 2 ^ 2 + k)))
theorem ml_p_lt {k l n a v : Nat} (hk : k < 4) (hl : l < 64) (hn : n < 64) (ha : a < 32768) (hv : v < 2 ^ 32) : ml_p k l n a v < 2 ^ 64 := by
  unfold ml_p; omega
theorem ml_or {a b i : Nat} (h : b < 2 ^ i) : a * 2 ^ i ||| b = a * 2 ^ i + b := by
  rw [← Nat.shiftLeft_eq]
  exact (Nat.shiftLeft_add_eq_or_of_lt h a).symm
theorem ml_sx (v : Nat) (hv : v < 2 ^ 32) : (nI v).toInt64 <<< ((nI 32).toInt64 &&& 63) = lN (v * 2 ^ 32) := by
  obtain ⟨x, hx, e⟩ := wb_of (nI v).toInt64
  have h1 : nI x = nI v := by
    have h2 := congrArg Int64.toInt32 e
    rw [lN_i] at h2
    rw [← h2]
    simp
  have h3 := ml_nIinj h1
  rw [e, wb_shl x (by decide), wb_mod]
  refine congrArg lN ?_
  omega
theorem ml_add {k l v : Nat} (hk : k < 4) (hl : l < 64) (hv : v < 2 ^ 32) : (((nI v).toInt64 <<< (Int32.toInt64 (32 : Int32) &&& 63)) ||| (nI k).toInt64) ||| (Int32.toInt64 (nI l <<< ((2 : Int32) &&& 31))) = lN (ml_p k l 0 0 v) := by
  have e1 : nI l <<< ((2 : Int32) &&& 31) = nI (l * 2 ^ 2) := pk_shlN ((2 : Int32) &&& 31) 2 (by decide) (by omega)
  rw [show (Int32.toInt64 (32 : Int32)) = (nI 32).toInt64 from rfl, ml_sx v hv, e1, nI_l (show k < 2 ^ 31 by omega), nI_l (show l * 2 ^ 2 < 2 ^ 31 by omega)]
  rw [wb_or (by omega) (by omega)]
  have e2 : v * 2 ^ 32 ||| k = v * 2 ^ 32 + k := ml_or (by omega)
  rw [e2, wb_or (by omega) (by omega), ← e2, Nat.or_assoc, Nat.or_comm k, ml_or (show k < 2 ^ 2 by omega), ml_or (show l * 2 ^ 2 + k < 2 ^ 32 by omega)]
  refine congrArg lN ?_
  unfold ml_p
  omega
theorem ml_or32 (x y : Nat) : nI x ||| nI y = nI (x ||| y) := Int32.toBitVec_inj.mp (by
  rw [Int32.toBitVec_or]
  show BitVec.ofNat 32 x ||| BitVec.ofNat 32 y = BitVec.ofNat 32 (x ||| y)
  apply BitVec.eq_of_getLsbD_eq
  intro i hi
  rw [BitVec.getLsbD_or, BitVec.getLsbD_ofNat, BitVec.getLsbD_ofNat, BitVec.getLsbD_ofNat, Nat.testBit_or]
  simp [hi])
theorem ml_mask : ∀ i, i < 64 → (18446744073172680959 : Nat).testBit i = (decide (i < 8) || decide (29 ≤ i)) := by decide
theorem ml_clear {k l n a v : Nat} (hk : k < 4) (hl : l < 64) (hn : n < 64) (ha : a < 32768) (hv : v < 2 ^ 32) : ml_p k l n a v &&& 18446744073172680959 = v * 2 ^ 32 + (l * 2 ^ 2 + k) := by
  have e1 : ml_p k l n a v % 2 ^ 8 = (v * 2 ^ 32 + (l * 2 ^ 2 + k)) % 2 ^ 8 := by unfold ml_p; omega
  have e2 : ml_p k l n a v / 2 ^ 29 = (v * 2 ^ 32 + (l * 2 ^ 2 + k)) / 2 ^ 29 := by unfold ml_p; omega
  have e3 : (v * 2 ^ 32 + (l * 2 ^ 2 + k)) / 2 ^ 8 % 2 ^ 21 = 0 := by omega
  have hp := ml_p_lt hk hl hn ha hv
  apply Nat.eq_of_testBit_eq
  intro i
  rw [Nat.testBit_and]
  by_cases h64 : i < 64
  · rw [ml_mask i h64]
    by_cases h8 : i < 8
    · have f1 := congrArg (fun z => Nat.testBit z i) e1
      simp only [Nat.testBit_mod_two_pow, h8, decide_true, Bool.true_and] at f1
      simp [h8, f1]
    · by_cases h29 : 29 ≤ i
      · have f1 := congrArg (fun z => Nat.testBit z (i - 29)) e2
        simp only [Nat.testBit_div_two_pow] at f1
        rw [show (i - 29) + 29 = i by omega] at f1
        simp [h29, f1]
      · have f1 := congrArg (fun z => Nat.testBit z (i - 8)) e3
        simp only [Nat.testBit_mod_two_pow, Nat.testBit_div_two_pow, Nat.zero_testBit] at f1
        rw [show (i - 8) + 8 = i by omega] at f1
        have h21 : i - 8 < 21 := by omega
        simp only [h21, decide_true, Bool.true_and] at f1
        simp [h8, h29, f1]
  · have g1 : (v * 2 ^ 32 + (l * 2 ^ 2 + k)).testBit i = false := Nat.testBit_lt_two_pow (Nat.lt_of_lt_of_le (show v * 2 ^ 32 + (l * 2 ^ 2 + k) < 2 ^ 64 by omega) (Nat.pow_le_pow_right (by decide) (by omega)))
    have g2 : (ml_p k l n a v).testBit i = false := Nat.testBit_lt_two_pow (Nat.lt_of_lt_of_le hp (Nat.pow_le_pow_right (by decide) (by omega)))
    rw [g1, g2]; rfl
theorem ml_set {k l n a v n' a' : Nat} (hk : k < 4) (hl : l < 64) (hn : n < 64) (ha : a < 32768) (hv : v < 2 ^ 32) (hn' : n' < 64) (ha' : a' < 32768) :
    (lN (ml_p k l n a v) &&& (-536870657 : Int64)) ||| (Int32.toInt64 ((nI n' <<< ((8 : Int32) &&& 31)) ||| (nI a' <<< ((14 : Int32) &&& 31)))) = lN (ml_p k l n' a' v) := by
  have e1 : nI n' <<< ((8 : Int32) &&& 31) = nI (n' * 2 ^ 8) := pk_shlN ((8 : Int32) &&& 31) 8 (by decide) (by omega)
  have e2 : nI a' <<< ((14 : Int32) &&& 31) = nI (a' * 2 ^ 14) := pk_shlN ((14 : Int32) &&& 31) 14 (by decide) (by omega)
  have e3 : n' * 2 ^ 8 ||| a' * 2 ^ 14 = a' * 2 ^ 14 + n' * 2 ^ 8 := by rw [Nat.or_comm]; exact ml_or (by omega)
  have hp := ml_p_lt hk hl hn ha hv
  rw [e1, e2, ml_or32, e3, nI_l (show a' * 2 ^ 14 + n' * 2 ^ 8 < 2 ^ 31 by omega), show (-536870657 : Int64) = lN 18446744073172680959 by decide, wb_and hp (by decide), ml_clear hk hl hn ha hv, wb_or (by omega) (by omega)]
  refine congrArg lN ?_
  have e4 : v * 2 ^ 32 + (l * 2 ^ 2 + k) = v * 2 ^ 32 ||| (l * 2 ^ 2 + k) := (ml_or (by omega)).symm
  have e5 : a' * 2 ^ 14 + n' * 2 ^ 8 = (a' * 2 ^ 6 + n') * 2 ^ 8 := by
    rw [Nat.add_mul, Nat.mul_assoc]
  rw [e4, Nat.or_assoc, Nat.or_comm (l * 2 ^ 2 + k), e5, ml_or (show l * 2 ^ 2 + k < 2 ^ 8 by omega), ml_or (by omega)]
  unfold ml_p
  rw [← e5, Nat.add_assoc (a' * 2 ^ 14)]
section MLG
variable {k l n a v : Nat}
theorem ml_k (hk : k < 4) (hl : l < 64) (hn : n < 64) (ha : a < 32768) (hv : v < 2 ^ 32) : Int64.toInt32 (lN (ml_p k l n a v) &&& (3 : Int64)) = nI k := by
  rw [ml_low (m := 2) (M := (3 : Int64)) (by decide) rfl, lN_i]
  refine congrArg nI ?_
  unfold ml_p; omega
theorem ml_l (hk : k < 4) (hl : l < 64) (hn : n < 64) (ha : a < 32768) (hv : v < 2 ^ 32) : Int64.toInt32 ((lN (ml_p k l n a v) >>> (Int32.toInt64 (2 : Int32) &&& 63)) &&& (63 : Int64)) = nI l := by
  rw [show Int32.toInt64 (2 : Int32) = (nI 2).toInt64 from rfl, ml_field (m := 6) (M := (63 : Int64)) (by decide) (by decide) rfl, lN_i]
  refine congrArg nI ?_
  unfold ml_p; omega
theorem ml_n (hk : k < 4) (hl : l < 64) (hn : n < 64) (ha : a < 32768) (hv : v < 2 ^ 32) : Int64.toInt32 ((lN (ml_p k l n a v) >>> (Int32.toInt64 (8 : Int32) &&& 63)) &&& (63 : Int64)) = nI n := by
  rw [show Int32.toInt64 (8 : Int32) = (nI 8).toInt64 from rfl, ml_field (m := 6) (M := (63 : Int64)) (by decide) (by decide) rfl, lN_i]
  refine congrArg nI ?_
  unfold ml_p; omega
theorem ml_a (hk : k < 4) (hl : l < 64) (hn : n < 64) (ha : a < 32768) (hv : v < 2 ^ 32) : Int64.toInt32 ((lN (ml_p k l n a v) >>> (Int32.toInt64 (14 : Int32) &&& 63)) &&& (32767 : Int64)) = nI a := by
  rw [show Int32.toInt64 (14 : Int32) = (nI 14).toInt64 from rfl, ml_field (m := 15) (M := (32767 : Int64)) (by decide) (by decide) rfl, lN_i]
  refine congrArg nI ?_
  unfold ml_p; omega
theorem ml_v (hk : k < 4) (hl : l < 64) (hn : n < 64) (ha : a < 32768) (hv : v < 2 ^ 32) : Int64.toInt32 (lN (ml_p k l n a v) >>> (Int32.toInt64 (32 : Int32) &&& 63)) = nI v := by
  rw [show Int32.toInt64 (32 : Int32) = (nI 32).toInt64 from rfl, ml_num (ml_p_lt hk hl hn ha hv)]
  refine congrArg nI ?_
  unfold ml_p; omega
end MLG
/-- letter j of a pool's long -/
def ml_b (w : Int64) (j : Nat) : Nat := w.toBitVec.toNat / 2 ^ (8 * j) % 2 ^ 7
theorem ml_bt (w : Int64) (j i : Nat) : (ml_b w j).testBit i = (decide (i < 7) && w.toBitVec.toNat.testBit (i + 8 * j)) := by
  unfold ml_b
  rw [Nat.testBit_mod_two_pow, Nat.testBit_div_two_pow]
theorem ml_bget {w : Int64} {j : Nat} (hj : j < 8) : Int64.toInt32 ((w >>> (Int32.toInt64 (nI (8 * j)) &&& 63)) &&& (127 : Int64)) = nI (ml_b w j) := by
  rw [← ml_self w, ml_field (m := 7) (M := (127 : Int64)) (show 8 * j < 64 by omega) (by omega) rfl, lN_i, ml_self]
  rfl
def ml_bp (w : Int64) (j c : Nat) : Int64 := (w &&& (((255 : Int64) <<< (Int32.toInt64 (nI (8 * j)) &&& 63)) ^^^ (-1 : Int64))) ||| ((Int32.toInt64 (nI c)) <<< (Int32.toInt64 (nI (8 * j)) &&& 63))
theorem ml_bput {w : Int64} {j c i : Nat} (hj : j < 8) (hc : c < 128) (hi : i < 64) : (ml_bp w j c).toBitVec.getLsbD i = bif decide (8 * j ≤ i) && decide (i < 8 * j + 8) then c.testBit (i - 8 * j) else w.toBitVec.getLsbD i := by
  unfold ml_bp
  rw [show (255 : Int64) = lN 255 from rfl, wb_shl 255 (show 8 * j < 64 by omega), nI_l (show c < 2 ^ 31 by omega), wb_shl c (show 8 * j < 64 by omega)]
  rw [Int64.toBitVec_or, Int64.toBitVec_and, Int64.toBitVec_xor, BitVec.getLsbD_or, BitVec.getLsbD_and, BitVec.getLsbD_xor, ml_tb, ml_tb]
  rw [Nat.testBit_mul_two_pow, Nat.testBit_mul_two_pow, show ((-1 : Int64).toBitVec).getLsbD i = true by
    rw [show (-1 : Int64).toBitVec = BitVec.allOnes 64 by decide, BitVec.getLsbD_allOnes]; simp [hi]]
  have h255 : ∀ m, (255 : Nat).testBit m = decide (m < 8) := fun m => Nat.testBit_two_pow_sub_one 8 m
  rw [h255]
  by_cases h1 : 8 * j ≤ i
  · by_cases h2 : i < 8 * j + 8
    · have h3 : i - 8 * j < 8 := by omega
      simp [h1, h2, h3, hi]
    · have h3 : ¬ i - 8 * j < 8 := by omega
      have h4 : c.testBit (i - 8 * j) = false := Nat.testBit_lt_two_pow (Nat.lt_of_lt_of_le hc (Nat.pow_le_pow_right (n := 2) (by decide) (show 7 ≤ i - 8 * j by omega)))
      simp [h1, h2, h3, h4, hi]
  · simp [h1, hi]
theorem ml_bpb {w : Int64} {j c q : Nat} (hj : j < 8) (hc : c < 128) (hq : q < 8) : ml_b (ml_bp w j c) q = if q = j then c else ml_b w q := by
  apply Nat.eq_of_testBit_eq
  intro i
  rw [ml_bt]
  have hg : ∀ (x : Int64) (m : Nat), x.toBitVec.toNat.testBit m = x.toBitVec.getLsbD m := fun x m => rfl
  rw [hg]
  by_cases h7 : i < 7
  · rw [ml_bput hj hc (by omega)]
    by_cases e : q = j
    · subst e
      have h1 : 8 * q ≤ i + 8 * q := by omega
      have h2 : i + 8 * q < 8 * q + 8 := by omega
      simp [h7, h1, h2]
    · have h1 : ¬ (8 * j ≤ i + 8 * q ∧ i + 8 * q < 8 * j + 8) := by omega
      have h2 : (decide (8 * j ≤ i + 8 * q) && decide (i + 8 * q < 8 * j + 8)) = false := by
        rw [← Bool.decide_and]
        exact decide_eq_false h1
      rw [h2, if_neg e, ml_bt, hg]
      rfl
  · by_cases e : q = j
    · have h4 : c.testBit i = false := Nat.testBit_lt_two_pow (Nat.lt_of_lt_of_le hc (Nat.pow_le_pow_right (n := 2) (by decide) (show 7 ≤ i by omega)))
      simp [h7, e, h4]
    · rw [if_neg e, ml_bt]
      simp [h7]
