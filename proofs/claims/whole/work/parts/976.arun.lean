/-! A RUN, abstractly -/
abbrev mPg : Type := Nat × List Nat × Nat × (Nat → Option (List (List Nat))) × (Nat → Option mT) × (Nat → Bool) × mT
def gPh (g : mPg) : Nat := g.1
def gLv (g : mPg) : List Nat := g.2.1
def gN (g : mPg) : Nat := g.2.2.1
def gCm (g : mPg) : Nat → Option (List (List Nat)) := g.2.2.2.1
def gRs (g : mPg) : Nat → Option mT := g.2.2.2.2.1
def gTk (g : mPg) : Nat → Bool := g.2.2.2.2.2.1
def gOut (g : mPg) : mT := g.2.2.2.2.2.2
def g0 : mPg := (0, [], 0, fun _ => none, fun _ => none, fun _ => false, .leaf none)
def gAll (g : mPg) : Bool := (List.range (gN g)).all (fun n => (gRs g n).isSome)
def gTr (g : mPg) : mT := aNs (fun i => (gRs g i).getD (.leaf none)) (gLv g) 0
def gSe (g : mPg) : mPg := if gPh g = 1 ∧ gAll g = true then (if okB (gTr g) = true then (2, gLv g, gN g, gCm g, gRs g, gTk g, gTr g) else (3, g.2)) else g
def up {α : Type} (f : Nat → α) (s : Nat) (v : α) : Nat → α := fun k => if k = s then v else f k
theorem up_eq {α : Type} (f : Nat → α) (s : Nat) (v : α) : up f s v s = v := if_pos rfl
theorem up_ne {α : Type} {f : Nat → α} {s k : Nat} {v : α} (h : k ≠ s) : up f s v k = f k := if_neg h
abbrev mRn : Type := Nat × Nat × Nat × Nat × List (Nat × Nat) × Bool × (Nat → mPg)
def nSt (R : mRn) : Nat := R.1
def nWk (R : mRn) : Nat := R.2.1
def nKn (R : mRn) : Nat := R.2.2.1
def nBg (R : mRn) : Nat := R.2.2.2.1
def nAc (R : mRn) : List (Nat × Nat) := R.2.2.2.2.1
def nFl (R : mRn) : Bool := R.2.2.2.2.2.1
def nPg (R : mRn) : Nat → mPg := R.2.2.2.2.2.2
def n0 : mRn := (0, 0, 0, 0, [], false, fun _ => g0)
abbrev mEv : Type := (Nat → mT) × List mTo × List mStp
def eIn (E : mEv) : Nat → mT := E.1
def eTl (E : mEv) : List mTo := E.2.1
def eSp (E : mEv) : List mStp := E.2.2
def s0 : mStp := (0, fun _ => [], fun _ => 0, fun _ => 0, fun _ => none, fun _ => none, 0, 0)
def eSt (E : mEv) (s : Nat) : mStp := (eSp E).getD s s0
def eTo (E : mEv) (s : Nat) : mTo := (eTl E).getD (sTl (eSt E s)) (0, [])
def aNd (E : mEv) (s o : Nat) : Bool := (List.range (eTo E s).2.length).any (fun p => (sSr (eSt E s) p).contains (10 + o))
def aCan (E : mEv) (R : mRn) (s : Nat) : Bool := gPh (nPg R s) == 0 && (List.range (nKn R)).all (fun o => !aNd E s o || gPh (nPg R o) == 2)
def aNx (E : mEv) (R : mRn) : Option Nat := (List.range (nKn R)).find? (aCan E R)
def sV (E : mEv) (R : mRn) (c : Nat) : mT := if c < 3 then eIn E c else gOut (nPg R (c - 10))
def aJb (E : mEv) (R : mRn) (s : Nat) : Nat → Option (Option (List (List Nat))) := aJob (eSt E s) (eTo E s) (aWh (eSt E s) (eTo E s) (sV E R))
def aX1 (E : mEv) (R : mRn) (s N : Nat) : mPg := (1, aLvs (eSt E s) (eTo E s) (aWh (eSt E s) (eTo E s) (sV E R)) N, N, fun n => (aJb E R s n).getD none, fun n => if n < N ∧ aJb E R s n = some none then some (.leaf none) else none, fun _ => false, .leaf none)
def aXg (E : mEv) (R : mRn) (s : Nat) : mPg := match aExp (eSt E s) (eTo E s) (sV E R) with
  | none => (3, [], 0, fun _ => none, fun _ => none, fun _ => false, .leaf none)
  | some N => gSe (aX1 E R s N)
def rPg (R : mRn) (s : Nat) (g : mPg) : mRn := (nSt R, nWk R, nKn R, nBg R, nAc R, nFl R || gPh g == 3, up (nPg R) s g)
def aGo (E : mEv) : Nat → mRn → mRn
  | 0, R => R
  | n + 1, R => if nFl R = true then R else match aNx E R with
    | none => R
    | some s => aGo E n (rPg R s (aXg E R s))
def aRd (R : mRn) (s n : Nat) : Bool := gPh (nPg R s) == 1 && (Nat.blt n (gN (nPg R s)) && ((gRs (nPg R s) n).isNone && !gTk (nPg R s) n))
def gTak (g : mPg) (n : Nat) : mPg := (gPh g, gLv g, gN g, gCm g, gRs g, up (gTk g) n true, gOut g)
def aTake (R : mRn) (s n : Nat) : mRn := if aRd R s n = true ∧ (nAc R).length < nWk R then (nSt R, nWk R, nKn R, nBg R + 1, nAc R ++ [(s, n)], nFl R, up (nPg R) s (gTak (nPg R s) n)) else R
def aStj : Nat → Nat → mRn → mRn
  | 0, _, R => R
  | m + 1, j, R => aStj m (j + 1) (aTake R (j / 16) (j % 16))
def aEnd (R : mRn) : mRn := if nAc R = [] then (if nFl R = true then 3 else 2, R.2) else R
def aStt (R : mRn) : mRn := if nFl R = true then R else aStj 96 0 R
def aAd (E : mEv) (R : mRn) : mRn := aEnd (aStt (aGo E (nKn R) R))
def gKp (g : mPg) (n : Nat) (t : mT) : mPg := (gPh g, gLv g, gN g, gCm g, up (gRs g) n (some t), gTk g, gOut g)
def aFg (E : mEv) (R : mRn) (s n : Nat) : mPg := match aRes (eTo E s).1 ((gCm (nPg R s) n).getD []) with
  | none => (3, (nPg R s).2)
  | some t => if gPh (nPg R s) = 1 then gSe (gKp (nPg R s) n t) else nPg R s
def aDe (R : mRn) (k : Nat) : mRn := (nSt R, nWk R, nKn R, nBg R, (nAc R).eraseIdx k, nFl R, nPg R)
def aFin (E : mEv) (R : mRn) (k : Nat) : mRn := match (nAc R)[k]? with
  | none => R
  | some (s, n) => aAd E (rPg (aDe R k) s (aFg E R s n))
def aMiss (E : mEv) : Bool := (List.range (eSp E).length).any (fun s => (List.range 6).any (fun o => aNd E s o && Nat.ble (eSp E).length o))
def aFs (E : mEv) (f : Nat → Bool) (s : Nat) : Nat → Bool := if (List.range 6).all (fun o => !aNd E s o || f o) = true then up f s true else f
def aFr (E : mEv) (f : Nat → Bool) : Nat → Bool := (List.range (eSp E).length).foldl (aFs E) f
def aFn (E : mEv) : Nat → (Nat → Bool)
  | 0 => fun _ => false
  | n + 1 => aFr E (aFn E n)
def aRound (E : mEv) : Bool := !(List.range (eSp E).length).all (fun s => aFn E (eSp E).length s)
def aBeg (E : mEv) (w : Nat) : mRn := (1, w, (eSp E).length, 0, [], false, fun _ => g0)
/-- sets of steps as numbers -/
def bM (f : Nat → Bool) : Nat := (if f 0 = true then 1 else 0) + ((if f 1 = true then 2 else 0) + ((if f 2 = true then 4 else 0) + ((if f 3 = true then 8 else 0) + ((if f 4 = true then 16 else 0) + (if f 5 = true then 32 else 0)))))
def bM6 (a b c d e f : Bool) : Nat := (if a = true then 1 else 0) + ((if b = true then 2 else 0) + ((if c = true then 4 else 0) + ((if d = true then 8 else 0) + ((if e = true then 16 else 0) + (if f = true then 32 else 0)))))
theorem bM_6 (f : Nat → Bool) : bM f = bM6 (f 0) (f 1) (f 2) (f 3) (f 4) (f 5) := rfl
theorem bM_up0 : ∀ a b c d e f : Bool, (nI (bM6 a b c d e f) ||| ((1 : Int32) <<< (nI 0 &&& 31))) = nI (bM6 true b c d e f) ∧ (nI (bM6 a b c d e f) ||| ((1 : Int32) <<< (nI 1 &&& 31))) = nI (bM6 a true c d e f) ∧ (nI (bM6 a b c d e f) ||| ((1 : Int32) <<< (nI 2 &&& 31))) = nI (bM6 a b true d e f) ∧ (nI (bM6 a b c d e f) ||| ((1 : Int32) <<< (nI 3 &&& 31))) = nI (bM6 a b c true e f) ∧ (nI (bM6 a b c d e f) ||| ((1 : Int32) <<< (nI 4 &&& 31))) = nI (bM6 a b c d true f) ∧ (nI (bM6 a b c d e f) ||| ((1 : Int32) <<< (nI 5 &&& 31))) = nI (bM6 a b c d e true) ∧ (nI (bM6 a b c d e f) ||| (0 : Int32)) = nI (bM6 a b c d e f) := by decide +kernel
theorem bM_or {f : Nat → Bool} {s : Nat} (hs : s < 6) : (nI (bM f) ||| ((1 : Int32) <<< (nI s &&& 31))) = nI (bM (up f s true)) := by
  obtain ⟨h0, h1, h2, h3, h4, h5, _⟩ := bM_up0 (f 0) (f 1) (f 2) (f 3) (f 4) (f 5)
  rw [bM_6, bM_6]
  match s, hs with
  | 0, _ => exact h0
  | 1, _ => exact h1
  | 2, _ => exact h2
  | 3, _ => exact h3
  | 4, _ => exact h4
  | 5, _ => exact h5
theorem bM_or0 (f : Nat → Bool) : (nI (bM f) ||| (0 : Int32)) = nI (bM f) := (bM_up0 (f 0) (f 1) (f 2) (f 3) (f 4) (f 5)).2.2.2.2.2.2
theorem bM_sub0 : ∀ a b c d e f a' b' c' d' e' f' : Bool, ((nI (bM6 a b c d e f) &&& (nI (bM6 a' b' c' d' e' f') ^^^ (-1 : Int32))) = 0 ↔ ((!a || a') && ((!b || b') && ((!c || c') && ((!d || d') && ((!e || e') && (!f || f')))))) = true) := by decide +kernel
theorem bM_sub {f g : Nat → Bool} : (nI (bM f) &&& (nI (bM g) ^^^ (-1 : Int32))) = 0 ↔ ∀ o, o < 6 → f o = true → g o = true := by
  have im : ∀ x y : Bool, (!x || y) = true ↔ (x = true → y = true) := by decide
  rw [bM_6, bM_6, bM_sub0, Bool.and_eq_true, Bool.and_eq_true, Bool.and_eq_true, Bool.and_eq_true, Bool.and_eq_true, im, im, im, im, im, im]
  constructor
  · rintro ⟨h0, h1, h2, h3, h4, h5⟩ o ho
    match o, ho with
    | 0, _ => exact h0
    | 1, _ => exact h1
    | 2, _ => exact h2
    | 3, _ => exact h3
    | 4, _ => exact h4
    | 5, _ => exact h5
  · intro h
    exact ⟨h 0 (by omega), h 1 (by omega), h 2 (by omega), h 3 (by omega), h 4 (by omega), h 5 (by omega)⟩
theorem bM_all : ∀ n, n < 7 → ((1 : Int32) <<< (nI n &&& 31)) - 1 = nI (bM (fun o => Nat.blt o n)) := by decide +kernel
theorem bM_bit0 : ∀ a b c d e f : Bool, (((nI (bM6 a b c d e f) >>> (nI 0 &&& 31)) &&& 1) = 1 ↔ a = true) ∧ (((nI (bM6 a b c d e f) >>> (nI 1 &&& 31)) &&& 1) = 1 ↔ b = true) ∧ (((nI (bM6 a b c d e f) >>> (nI 2 &&& 31)) &&& 1) = 1 ↔ c = true) ∧ (((nI (bM6 a b c d e f) >>> (nI 3 &&& 31)) &&& 1) = 1 ↔ d = true) ∧ (((nI (bM6 a b c d e f) >>> (nI 4 &&& 31)) &&& 1) = 1 ↔ e = true) ∧ (((nI (bM6 a b c d e f) >>> (nI 5 &&& 31)) &&& 1) = 1 ↔ f = true) := by decide +kernel
theorem bM_bit {f : Nat → Bool} {s : Nat} (hs : s < 6) : ((nI (bM f) >>> (nI s &&& 31)) &&& 1) = 1 ↔ f s = true := by
  obtain ⟨h0, h1, h2, h3, h4, h5⟩ := bM_bit0 (f 0) (f 1) (f 2) (f 3) (f 4) (f 5)
  rw [bM_6]
  match s, hs with
  | 0, _ => exact h0
  | 1, _ => exact h1
  | 2, _ => exact h2
  | 3, _ => exact h3
  | 4, _ => exact h4
  | 5, _ => exact h5
theorem bM_inj {f g : Nat → Bool} : nI (bM f) = nI (bM g) ↔ ∀ o, o < 6 → f o = g o := by
  have key : ∀ a b c d e f a' b' c' d' e' f' : Bool, (nI (bM6 a b c d e f) = nI (bM6 a' b' c' d' e' f') ↔ a = a' ∧ b = b' ∧ c = c' ∧ d = d' ∧ e = e' ∧ f = f') := by decide +kernel
  rw [bM_6, bM_6, key]
  constructor
  · rintro ⟨h0, h1, h2, h3, h4, h5⟩ o ho
    match o, ho with
    | 0, _ => exact h0
    | 1, _ => exact h1
    | 2, _ => exact h2
    | 3, _ => exact h3
    | 4, _ => exact h4
    | 5, _ => exact h5
  · intro h
    exact ⟨h 0 (by omega), h 1 (by omega), h 2 (by omega), h 3 (by omega), h 4 (by omega), h 5 (by omega)⟩
theorem bM_lt (f : Nat → Bool) : bM f < 64 := by
  unfold bM
  repeat' split
  all_goals omega
