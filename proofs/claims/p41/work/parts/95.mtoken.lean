/-! text: the model's tokens -/
abbrev Fr15 (w v : Mem) : Prop := Fr (fun k j i => k = 9 ∧ j = 15 ∧ i = 0) (fun _ _ => False) w v
abbrev TMt (w : Mem) (tp : List Nat) : Prop := ∀ i, i < tp.length → gA w 40 0 i = nI (tp.getD i 0)
theorem TMt_fr {w v : Mem} {tp : List Nat} {P : Nat → Nat → Nat → Prop} {Q : Nat → Nat → Prop} (h : TMt w tp) (hf : Fr P Q w v) (hQ : ∀ k i, Q k i → k ≠ 40) : TMt v tp := fun i hi => by rw [hf.2.1 _ _ (fun z => hQ _ _ z rfl)]; exact h i hi
abbrev dig (tp : List Nat) (k : Nat) : Prop := 48 ≤ tp.getD k 0 ∧ tp.getD k 0 ≤ 57
