/-! text: tokens; the model's -/
def TkM (w : Mem) : Kd → Prop
  | none => gF w 9 16 0 = nI 0
  | some (.inl _) => gF w 9 16 0 = nI 2
  | some (.inr (.inl d)) => gF w 9 16 0 = nI 3 ∧ gF w 9 17 0 = nI d
  | some (.inr (.inr (.inl c))) => gF w 9 16 0 = nI c
  | some (.inr (.inr (.inr _))) => gF w 9 16 0 = nI 1
abbrev Fr9 (w v : Mem) : Prop := Fr (fun k j i => k = 9 ∧ (14 ≤ j ∧ j ≤ 17) ∧ i = 0) (fun _ _ => False) w v
theorem Fr15.z {w v : Mem} (h : Fr15 w v) : Fr9 w v := h.mono (fun _ _ _ z => by omega) (fun _ _ z => z)
