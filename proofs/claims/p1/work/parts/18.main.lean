/-- where a frame stands: the machine, its code, its tables, its room -/
def mm_Cx (D : va_G) (dA : Nat → ClassId) (h0 : Heap) (ad : Nat → Nat) (X : List Int32) (p : Program) (R : Room) (s : State) (m : MethodId) (args : Array Value) (meth : Method) (c : Code) (d mi : Nat) : Prop :=
  p.tables.exec = Jvm.exec ∧ c.code = mm_by mi ∧ c.maxLocals = mm_ml mi ∧ s.vm.findClass (mm_y mi).cls = some m.cls ∧ (∀ w ∈ mm_gd, w.before args s = true) ∧ mm_Es D dA h0 ad X s ∧ ((mm_y mi).name = "<init>" → meth.name = "<init>") ∧ d ≤ R.frames ∧ 64 * d ≤ R.locals
/-- a run of the small machine is a run of the machine -/
def mm_Snd (l : Launch) (D : va_G) (dA : Nat → ClassId) (h0 : Heap) (ad : Nat → Nat) (X : List Int32) (n : Nat) : Prop :=
  ∀ (d mi pc : Nat) (L : mm_L) (st : List Value) (hp hp' : mm_H) (r : Option Value), mm_ev X n d mi pc L st hp = some (r, hp') →
  ∀ (p : Program) (e : Env) (R : Room) (s : State) (m : MethodId) (args : Array Value) (below : List Frame) (meth : Method) (c : Code) (H : Heap) (locs : List Loc) (cells slots : Nat) (Q : State → Prop) (ls : Array Slot) (n0 s0 : Nat),
  mm_Cx D dA h0 ad X p R s m args meth c d mi → mm_rp D dA h0 ad hp H → mm_lr h0.size ad L ls → ls.size = mm_ml mi → (∀ q ∈ locs, h0.size ≤ q.base) → cells + n0 = hp.length → slots + s0 = mm_sz hp → hp'.length ≤ n0 + R.cells → mm_sz hp' ≤ s0 + R.slots →
  (∀ (H' : Heap) (locs' : List Loc) (cells' slots' pc' : Nat) (ls' : Array Slot) (i : Instr) (st' : List Value), mm_rp D dA h0 ad hp' H' → (∀ q ∈ locs', h0.size ≤ q.base) → cells' + n0 = hp'.length → slots' + s0 = mm_sz hp' → decode (mm_by mi) pc' = .ok (i, 1) → mm_rv i (mm_rt mi) st' = some r →
    W p l e R s m args below meth c H' locs' cells' slots' Q (F0 m pc' ls' (st'.map (mm_tr h0.size ad)))) →
  W p l e R s m args below meth c H locs cells slots Q (F0 m pc ls (st.map (mm_tr h0.size ad)))
abbrev mm_Pc (D : va_G) (dA : Nat → ClassId) (h0 : Heap) (ad : Nat → Nat) (X : List Int32) (as : List Value) (hp : mm_H) : Array Value → State → Prop := va_Pc (as.map (mm_tr h0.size ad)) (fun U => mm_rp D dA h0 ad hp U.heap ∧ mm_Es D dA h0 ad X U)
abbrev mm_Qc (D : va_G) (dA : Nat → ClassId) (h0 : Heap) (ad : Nat → Nat) (r : Option Value) (hp : mm_H) : Array Value → State → Outcome → State → Prop := fun _ _ o t => o = .returned (r.map (mm_tr h0.size ad)) ∧ mm_rp D dA h0 ad hp t.heap
theorem mm_blind {D : va_G} {dA : Nat → ClassId} {h0 : Heap} {ad : Nat → Nat} {X : List Int32} {as : List Value} {hp : mm_H} : FrameBlind (mm_Pc D dA h0 ad X as hp) := fun _ U g mk q => ⟨q.1, q.2.1, mm_Es.same (s := U) rfl q.2.2⟩
/-- a method, by the run that the small machine makes of it -/
theorem mm_met {l : Launch} {D : va_G} {dA : Nat → ClassId} {h0 : Heap} {ad : Nat → Nat} {X : List Int32} {n : Nat} (S : mm_Snd l D dA h0 ad X n) {d k : Nat} {as : List Value} {hp hp' : mm_H} {r : Option Value} (hk : plainName (mm_y k).cls = true) (h : mm_ev X n d k 0 (mm_L0 k as) [] hp = some (r, hp')) (hc : ∀ v ∈ as, mm_c1 v = true) (hl : as.length ≤ mm_ml k) :
    Met l (mm_y k) (mm_ws k) (mm_room d (hp'.length - hp.length) (mm_sz hp' - mm_sz hp)) (mm_Pc D dA h0 ad X as hp) (mm_Qc D dA h0 ad r hp') (hp'.length - hp.length) (mm_sz hp' - mm_sz hp) (fun q => h0.size ≤ q) := by
  obtain ⟨m1, m2⟩ := mm_ev_mono _ _ _ _ _ _ _ _ _ h
  refine Met.ofW (cc := mm_by k) (maxL := mm_ml k) (ret := mm_rt k) hk rfl ?_
  intro p e s m args below meth c s₁ B hml hv
  obtain ⟨rfl, hrp, hEs⟩ := hv
  have hts := atoms_spec (ws := mm_ws k) B.pre
  rw [lg_entry_eq]
  have hlr := mm_L0_lr (B := h0.size) (ad := ad) hc hl
  refine S d k 0 (mm_L0 k as) [] hp hp' r h p e (mm_room d (hp'.length - hp.length) (mm_sz hp' - mm_sz hp)) s m _ below meth c s.heap [] 0 0 _ _ hp.length (mm_sz hp) ⟨B.exec, B.bytes, hml, findClass_of_methodNamed B.named, fun w hw => hts w (List.mem_cons_of_mem _ hw), hEs, (fun h => (name_of_methodNamed B.named B.method).1.trans h), Nat.le_refl _, Nat.le_refl _⟩ hrp hlr ?_ (fun q hq => by cases hq) (Nat.zero_add _) (Nat.zero_add _) (by show _ ≤ _ + (_ - _); omega) (by show _ ≤ _ + (_ - _); omega) ?_
  · rw [hlr.1]
    simp [mm_L0]
    omega
  · intro H' locs' cells' slots' pc' ls' i st' hrp' hlo' hc' hs' hd hrv
    obtain rfl : cells' = hp'.length - hp.length := by omega
    obtain rfl : slots' = mm_sz hp' - mm_sz hp := by omega
    rcases mm_rv_inv hrv with ⟨v, ty, rfl, rfl, hrt, hfv, rfl⟩ | ⟨v, ty, rfl, rfl, hv, hrt, hty, rfl⟩ | ⟨rfl, rfl, hrt, rfl⟩
    · exact W.zret (ty := ty) B.exec B.bytes (B.returns.trans hrt) (mm_fv_ok (B := h0.size) (ad := ad) hfv).1 (fun t ht hW => ⟨rfl, by rw [ht]; exact hrp'⟩) hlo' hd B.notSynchronized
    · refine W.aret (rt := ty) B.exec B.bytes (B.returns.trans hrt) hty ?_ (fun t ht hW => ⟨rfl, by rw [ht]; exact hrp'⟩) hlo' hd B.notSynchronized
      rcases hv with rfl | ⟨x, rfl⟩
      · exact Or.inl rfl
      · exact Or.inr ⟨_, rfl⟩
    · exact W.vret B.exec B.bytes (B.returns.trans hrt) (fun t ht hW => ⟨rfl, by rw [ht]; exact hrp'⟩) hlo' hd B.notSynchronized
