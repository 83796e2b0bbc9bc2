/-- the text constants: their places, what they hold -/
def mm_Sx (h0 : Heap) (ad : Nat → Nat) (U : State) : Prop :=
  (∀ e ∈ mm_sr, ∃ tx, vk_R e.1 e.2.1 tx (ad e.2.2) U) ∧ va_Z "java/lang/String" "COMPACT_STRINGS" "Z" (.int 1) (fun a => h0.size ≤ a) U h0 ∧
  (∃ fv : Value, (fv = .null ∨ ∃ a, fv = .ref a) ∧ va_Z "jdk/internal/util/Preconditions" "SIOOBE_FORMATTER" "Ljava/util/function/BiFunction;" fv (fun a => h0.size ≤ a) U h0) ∧
  ∀ (i : Nat) (t : List Nat), mm_tx[i]? = some t → ∃ vq, va_O "java/lang/String" (ad i) (fun a => h0.size ≤ a) U h0 ∧ va_OF "java/lang/String" "coder" "B" (.int 0) (ad i) (fun a => h0.size ≤ a) U h0 ∧ va_OF "java/lang/String" "value" "[B" (.ref vq) (ad i) (fun a => h0.size ≤ a) U h0 ∧ va_T .byte vq t.length (fun j => .int (nI (t.getD j 0))) (fun a => h0.size ≤ a) U h0
theorem mm_Sx.moved {h0 : Heap} {ad : Nat → Nat} {u U : State} (hvm : u.vm.Alike U.vm) (hr : ∀ own k tx a, vk_R own k tx a u → vk_R own k tx a U) (h : mm_Sx h0 ad u) : mm_Sx h0 ad U := by
  obtain ⟨h1, h2, ⟨fv, h3, h4⟩, h5⟩ := h
  refine ⟨fun e he => ?_, va_Z.moved hvm h2, ⟨fv, h3, va_Z.moved hvm h4⟩, fun i t ht => ?_⟩
  · obtain ⟨tx, h⟩ := h1 e he
    exact ⟨tx, hr _ _ _ _ h⟩
  · obtain ⟨vq, g1, g2, g3, g4⟩ := h5 i t ht
    exact ⟨vq, va_O.moved hvm g1, va_OF.moved hvm g2, va_OF.moved hvm g3, va_T.moved hvm g4⟩
theorem mm_Sx.warm {h0 : Heap} {ad : Nat → Nat} {s U : State} (hW : s.WarmedH U.vm) (h : mm_Sx h0 ad s) : mm_Sx h0 ad U := h.moved hW.alike (fun _ _ _ _ z => z.warm hW)
theorem mm_Sx.same {h0 : Heap} {ad : Nat → Nat} {s U : State} (hv : s.vm = U.vm) (h : mm_Sx h0 ad s) : mm_Sx h0 ad U := h.moved (by rw [hv]; exact Vm.Alike.refl U.vm) (fun _ _ _ _ z => z.same hv.symm)
theorem mm_Sx.ref {h0 : Heap} {ad : Nat → Nat} {U : State} {own : String} {idx i : Nat} (h : mm_Sx h0 ad U) (he : (own, idx, i) ∈ mm_sr) : ∃ tx, vk_R own idx tx (ad i) U := h.1 _ he
theorem mm_tx_ok : ∀ t ∈ mm_tx, t.length < 1000 ∧ ∀ j, j < t.length → t.getD j 0 < 128 := by decide +kernel
theorem mm_Sx.str {h0 : Heap} {ad : Nat → Nat} {U : State} {i : Nat} {t : List Nat} (h : mm_Sx h0 ad U) (hq : ∀ q : Nat, q < h0.size → U.heap[q]? = h0[q]?) (ht : mm_tx[i]? = some t) : ∃ vq, mj_F (ad i) vq t U := by
  obtain ⟨h1, h2, ⟨fv, h3, h4⟩, h5⟩ := h
  obtain ⟨vq, g1, g2, g3, g4⟩ := h5 i t ht
  have hq' : ∀ a : Nat, a < h0.size → ¬ (fun a => h0.size ≤ a) a → U.heap[a]? = h0[a]? := fun a ha _ => hq a ha
  obtain ⟨k1, k2⟩ := mm_tx_ok t (List.mem_of_getElem? ht)
  exact ⟨vq, (h2.kept hq').narrow (fun _ z => z.elim), ⟨fv, h3, (h4.kept hq').narrow (fun _ z => z.elim)⟩, (g1.kept hq').narrow (fun _ z => z.elim), (g2.kept hq').narrow (fun _ z => z.elim), (g3.kept hq').narrow (fun _ z => z.elim), (g4.kept hq').narrow (fun _ z => z.elim), k1, k2⟩
/-- all that a state's tables must say -/
def mm_Es (D : va_G) (dA : Nat → ClassId) (h0 : Heap) (ad : Nat → Nat) (X : List Int32) (U : State) : Prop := mm_Ev D dA h0 ad X U ∧ (∀ w ∈ mm_nw, va_Nw w U) ∧ mm_Sx h0 ad U
theorem mm_Es.warm {D : va_G} {dA : Nat → ClassId} {h0 : Heap} {ad : Nat → Nat} {X : List Int32} {s U : State} (hW : s.WarmedH U.vm) (h : mm_Es D dA h0 ad X s) : mm_Es D dA h0 ad X U :=
  ⟨h.1.moved hW.alike, fun w hw => mm_nw_warm hw hW (h.2.1 w hw), h.2.2.warm hW⟩
theorem mm_Es.same {D : va_G} {dA : Nat → ClassId} {h0 : Heap} {ad : Nat → Nat} {X : List Int32} {s U : State} (hv : s.vm = U.vm) (h : mm_Es D dA h0 ad X s) : mm_Es D dA h0 ad X U :=
  ⟨h.1.moved (by rw [hv]; exact Vm.Alike.refl U.vm), fun w hw => mm_nw_same hw hv (h.2.1 w hw), h.2.2.same hv⟩
