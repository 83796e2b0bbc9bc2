theorem mm_ewcut {α : Type} {l : List α} {p : α → Bool} (n : Nat) (a : (l.take n).all p = true) (b : (l.drop n).all p = true) : l.all p = true := by
  rw [← List.take_append_drop n l, List.all_append, a, b]; rfl
set_option maxRecDepth 100000 in
theorem mm_ew209_0 : ((mm_k209).take 40).all (mm_eb 209) = true := by decide +kernel
set_option maxRecDepth 100000 in
theorem mm_ew209_1 : ((((mm_k209).drop 40)).take 40).all (mm_eb 209) = true := by decide +kernel
set_option maxRecDepth 100000 in
theorem mm_ew209_2 : ((((((mm_k209).drop 40)).drop 40)).take 40).all (mm_eb 209) = true := by decide +kernel
set_option maxRecDepth 100000 in
theorem mm_ew209_3 : ((((((((mm_k209).drop 40)).drop 40)).drop 40)).take 40).all (mm_eb 209) = true := by decide +kernel
set_option maxRecDepth 100000 in
theorem mm_ew209_4 : ((((((((((mm_k209).drop 40)).drop 40)).drop 40)).drop 40)).take 40).all (mm_eb 209) = true := by decide +kernel
set_option maxRecDepth 100000 in
theorem mm_ew209_5 : ((((((((((((mm_k209).drop 40)).drop 40)).drop 40)).drop 40)).drop 40)).take 40).all (mm_eb 209) = true := by decide +kernel
set_option maxRecDepth 100000 in
theorem mm_ew209_6 : ((((((((((((((mm_k209).drop 40)).drop 40)).drop 40)).drop 40)).drop 40)).drop 40)).take 40).all (mm_eb 209) = true := by decide +kernel
set_option maxRecDepth 100000 in
theorem mm_ew209_7 : ((((((((((((((((mm_k209).drop 40)).drop 40)).drop 40)).drop 40)).drop 40)).drop 40)).drop 40)).take 40).all (mm_eb 209) = true := by decide +kernel
set_option maxRecDepth 100000 in
theorem mm_ew209_8 : ((((((((((((((((((mm_k209).drop 40)).drop 40)).drop 40)).drop 40)).drop 40)).drop 40)).drop 40)).drop 40)).take 40).all (mm_eb 209) = true := by decide +kernel
set_option maxRecDepth 100000 in
theorem mm_ew209_9 : ((((((((((((((((((((mm_k209).drop 40)).drop 40)).drop 40)).drop 40)).drop 40)).drop 40)).drop 40)).drop 40)).drop 40)).take 40).all (mm_eb 209) = true := by decide +kernel
set_option maxRecDepth 100000 in
theorem mm_ew209_10 : ((((((((((((((((((((((mm_k209).drop 40)).drop 40)).drop 40)).drop 40)).drop 40)).drop 40)).drop 40)).drop 40)).drop 40)).drop 40)).take 40).all (mm_eb 209) = true := by decide +kernel
set_option maxRecDepth 100000 in
theorem mm_ew209_11 : ((((((((((((((((((((((((mm_k209).drop 40)).drop 40)).drop 40)).drop 40)).drop 40)).drop 40)).drop 40)).drop 40)).drop 40)).drop 40)).drop 40)).take 40).all (mm_eb 209) = true := by decide +kernel
set_option maxRecDepth 100000 in
theorem mm_ew209_12 : (((((((((((((((((((((((((mm_k209).drop 40)).drop 40)).drop 40)).drop 40)).drop 40)).drop 40)).drop 40)).drop 40)).drop 40)).drop 40)).drop 40)).drop 40)).all (mm_eb 209) = true := by decide +kernel
theorem mm_ew209 : mm_k209.all (mm_eb 209) = true := mm_ewcut 40 mm_ew209_0 (mm_ewcut 40 mm_ew209_1 (mm_ewcut 40 mm_ew209_2 (mm_ewcut 40 mm_ew209_3 (mm_ewcut 40 mm_ew209_4 (mm_ewcut 40 mm_ew209_5 (mm_ewcut 40 mm_ew209_6 (mm_ewcut 40 mm_ew209_7 (mm_ewcut 40 mm_ew209_8 (mm_ewcut 40 mm_ew209_9 (mm_ewcut 40 mm_ew209_10 (mm_ewcut 40 mm_ew209_11 (mm_ew209_12))))))))))))
