/-! the law: its start -/
def wx0 : Mem := (fun k j _ => if k = 8 ∧ j = 9 then -1 else 0, fun _ _ _ => 0, fun _ _ _ => 0, fun k j _ => if k = 8 ∧ j = 6 then 1 else 0)
def wm0 : Mem := (fun k j _ => if k = 9 ∧ j = 3 then -1 else 0, fun _ _ _ => 0, fun _ _ _ => 0, fun _ _ _ => 0)
theorem rel0 : Rel wx0 wm0 := by
  have h0 : tN (mkT (fun _ => 0) (cL c0)) = 0 := rfl
  refine ⟨0, 0, fun _ => 0, [], [], [], [], ⟨⟨⟨by omega, rfl, rfl⟩, ?_, ⟨by omega, rfl, fun g hg => absurd hg (Nat.not_lt_zero g)⟩, ⟨by decide, rfl, fun p r hp => by simp at hp⟩, fun t ht => absurd ht (Nat.not_lt_zero t), ⟨rfl, fun i hi => absurd hi (Nat.not_lt_zero i)⟩, Or.inl rfl⟩, ⟨?_, ⟨by omega, rfl, fun g hg => absurd hg (Nat.not_lt_zero g)⟩, fun p r hp => by simp at hp, rfl, rfl, ⟨rfl, fun t k ht => absurd ht (Nat.not_lt_zero t)⟩, rfl, fun i hi => absurd hi (Nat.not_lt_zero i)⟩, ⟨trivial, (fun ls h => by cases h), rfl, by decide, (fun b h => by cases h)⟩, rfl⟩, rfl, ?_⟩
  · refine ⟨⟨⟨by show 0 ≤ 24; omega, fun i hi => absurd hi (Nat.not_lt_zero i), rfl, fun t ht => absurd ht (Nat.not_lt_zero t), fun t k ht => absurd ht (Nat.not_lt_zero t), by show 0 ≤ 276; omega, rfl, fun p i j hp => by simp [prs_prp, prp, h0, run, tN, mkT, cL, c0] at hp⟩, ⟨by show 0 ≤ 24; omega, fun i hi => absurd hi (Nat.not_lt_zero i), rfl, rfl, fun i hi => absurd hi (Nat.not_lt_zero i)⟩, by show 0 ≤ 24; omega, rfl, rfl, fun p a b c r hp => by simp [run, c0, cJ] at hp, fun t ht => absurd ht (Nat.not_lt_zero t), fun t u c ht => absurd ht (Nat.not_lt_zero t)⟩, ⟨by show 0 ≤ 12; omega, rfl, fun p i j hp => by simp [run, c0, cS] at hp⟩, ⟨by show 0 ≤ 8; omega, rfl, fun p i j hp => by simp [run, c0, cQ] at hp⟩, fun i hi => absurd hi (Nat.not_lt_zero i)⟩
  · exact ⟨⟨⟨by show 0 ≤ 24; omega, fun i hi => absurd hi (Nat.not_lt_zero i), rfl, fun t ht => absurd ht (Nat.not_lt_zero t), fun t k ht => absurd ht (Nat.not_lt_zero t)⟩, ⟨by show 0 ≤ 24; omega, fun i hi => absurd hi (Nat.not_lt_zero i), rfl, fun i hi => absurd hi (Nat.not_lt_zero i)⟩, by show 0 ≤ 24; omega, rfl, fun p a b c r hp => by simp [run, c0, cJ] at hp, fun t ht => absurd ht (Nat.not_lt_zero t), fun t u c ht => absurd ht (Nat.not_lt_zero t)⟩, ⟨by show 0 ≤ 12; omega, rfl, fun p i j hp => by simp [run, c0, cS] at hp⟩, by show 0 ≤ 8; omega, rfl, fun p i j hp => by simp [run, c0, cQ] at hp⟩
  · show (-1 : Int32) = if ((0 : Int32) = nI 4) then _ else n1
    rw [if_neg (by decide)]; rfl
/-! where the new cells lie -/
def ixX (k i : Nat) : Nat :=
  if k = 8 then 0 else if k = 6 then 1 else if k = 30 then 2 else if k = 0 then 3 else if k = 10 then 4 else if k = 11 then 5 else if k = 12 then 6 else if k = 4 then 7 else if k = 26 then 8 else if k = 27 then 9 else if k = 28 then 10
  else if k = 3 then (if i = 0 then 37 else if i = 1 then 39 else if i = 2 then 52 else if i = 3 then 78 else 11 + 2 * (i - 4))
  else if k = 25 then (if i = 0 then 38 else if i = 1 then 40 else if i = 2 then 53 else if i = 3 then 79 else 12 + 2 * (i - 4))
  else if k = 1 then 41 + 26 * i else if k = 7 then 42 + 26 * i else if k = 2 then 54 + 26 * i
  else if k < 19 then 48 + k + 26 * i else if k < 25 then 36 + k + 26 * i else 12 + k + 26 * i
theorem ixX_ok : (PLX.map fun p => ixX p.1 p.2) = List.range 93 := by decide +kernel
def ixM (k _ : Nat) : Nat := if k = 9 then 0 else k - 39
theorem ixM_ok : (PLM.map fun p => ixM p.1 p.2) = List.range 30 := by decide +kernel
def adW (f : Nat → Nat) : Nat → Nat → Nat := fun k i => f (ixX k i)
def adWm (f : Nat → Nat) : Nat → Nat → Nat := fun k i => f (ixM k i)
section CEL
variable {D : va_G} {ca : Nat → ClassId} {ad : Nat → Nat → Nat} {w : Mem} {k i a : Nat} {H : Heap}
theorem at_i {e n : Nat} (hk : 10 ≤ k) (he : ety k = e) (h2 : ¬ e = 2 ∧ ¬ e = 4) (ha : ad k i = a) (hn : alen k = n) (h : va_at D vwCl (a, .inl (ca e, n, .inl fun _ => 0)) H) (hw : gA w k i = fun _ => 0 := by rfl) : va_at D vwCl (ad k i, ent ca ad w k i) H := by
  rw [ent_ea ca ad w i hk, ha]
  subst he
  have : ea ca ad w k i = .inl (ca (ety k), n, .inl fun _ => 0) := by
    unfold ea
    rw [hw, hn]
    split
    · rename_i z; exact absurd z h2.1
    · rename_i z; exact absurd z h2.2
    · rfl
  rw [this]; exact h
theorem at_l {n : Nat} (hk : 10 ≤ k) (he : ety k = 2) (ha : ad k i = a) (hn : alen k = n) (h : va_at D vwCl (a, .inl (ca 2, n, .inr (.inl fun _ => 0))) H) (hw : gL w k i = fun _ => 0 := by rfl) : va_at D vwCl (ad k i, ent ca ad w k i) H := by
  rw [ent_ea ca ad w i hk, ha]
  have : ea ca ad w k i = .inl (ca 2, n, .inr (.inl fun _ => 0)) := by
    unfold ea
    rw [he, hw, hn]
    rfl
  rw [this]; exact h
theorem at_q {f g : Nat → Option Nat} (hfg : ∀ j, j < 13 → f j = g j) (h : va_at D vwCl (a, .inl (ca 4, 13, .inr (.inr (.inr (.inr f))))) H) : va_at D vwCl (a, .inl (ca 4, 13, .inr (.inr (.inr (.inr g))))) H := by
  have e : vp_cell (ca 4) (13, .inr (.inr (.inr (.inr f)))) = vp_cell (ca 4) (13, .inr (.inr (.inr (.inr g)))) := by
    rw [vp_cell_q, vp_cell_q]
    show ({ cls := ca 4, slots := Array.ofFn fun j : Fin 13 => va_rf (f j.val) } : Cell) = { cls := ca 4, slots := Array.ofFn fun j : Fin 13 => va_rf (g j.val) }
    rw [show (fun j : Fin 13 => va_rf (f j.val)) = (fun j : Fin 13 => va_rf (g j.val)) from funext fun j => by rw [hfg j.val j.isLt]]
  show H[a]? = some (vp_cell (ca 4) (13, .inr (.inr (.inr (.inr g)))))
  rw [← e]; exact h
end CEL
set_option maxRecDepth 100000 in
set_option maxHeartbeats 4000000 in
theorem cells8 {D : va_G} {ca : Nat → ClassId} {f : Nat → Nat} {H : Heap} (hP : va_P D vwCl (cl_X8 ca f) H) : va_P D vwCl (wl (adW f) PLX (ent ca (adW f) wx0)) H := by
  simp only [cl_X8, cl_X6, cl_X0, cl_X3, cl_X1, cl_X7, cl_X2, cl_X4, List.nil_append, List.cons_append, List.append_assoc] at hP
  have h26 : va_at D vwCl (adW f 26 0, ent ca (adW f) wx0 26 0) H := by
    have h := hP 8 _ rfl
    rw [ent_ea ca (adW f) wx0 0 (show 10 ≤ 26 by omega)]
    refine at_q ?_ h
    intro j hj
    have hj2 : j = 0 ∨ j = 1 ∨ j = 2 ∨ j = 3 ∨ j = 4 ∨ j = 5 ∨ j = 6 ∨ j = 7 ∨ j = 8 ∨ j = 9 ∨ j = 10 ∨ j = 11 ∨ j = 12 := by omega
    rcases hj2 with rfl | rfl | rfl | rfl | rfl | rfl | rfl | rfl | rfl | rfl | rfl | rfl | rfl <;> rfl
  have r0 := (hP 0 _ rfl : va_at D vwCl (adW f 8 0, ent ca (adW f) wx0 8 0) H)
  have r1 := (hP 1 _ rfl : va_at D vwCl (adW f 6 0, ent ca (adW f) wx0 6 0) H)
  have r2 := (at_i (n := 500) (k := 30) (i := 0) (e := 1) (ad := adW f) (w := wx0) (a := f 2) (Nat.le_of_ble_eq_true rfl) rfl (by decide) rfl rfl (hP 2 _ rfl))
  have r3 := (hP 3 _ rfl : va_at D vwCl (adW f 0 0, ent ca (adW f) wx0 0 0) H)
  have r4 := (at_i (n := 576) (k := 10) (i := 0) (e := 0) (ad := adW f) (w := wx0) (a := f 4) (Nat.le_of_ble_eq_true rfl) rfl (by decide) rfl rfl (hP 4 _ rfl))
  have r5 := (at_i (n := 576) (k := 11) (i := 0) (e := 0) (ad := adW f) (w := wx0) (a := f 5) (Nat.le_of_ble_eq_true rfl) rfl (by decide) rfl rfl (hP 5 _ rfl))
  have r6 := (at_i (n := 576) (k := 12) (i := 0) (e := 0) (ad := adW f) (w := wx0) (a := f 6) (Nat.le_of_ble_eq_true rfl) rfl (by decide) rfl rfl (hP 6 _ rfl))
  have r7 := (hP 7 _ rfl : va_at D vwCl (adW f 4 0, ent ca (adW f) wx0 4 0) H)
  have r8 := h26
  have r9 := (at_i (n := 12) (k := 27) (i := 0) (e := 0) (ad := adW f) (w := wx0) (a := f 9) (Nat.le_of_ble_eq_true rfl) rfl (by decide) rfl rfl (hP 9 _ rfl))
  have r10 := (at_l (n := 64) (k := 28) (i := 0) (ad := adW f) (w := wx0) (a := f 10) (Nat.le_of_ble_eq_true rfl) rfl rfl rfl (hP 10 _ rfl))
  have r11 := (hP 11 _ rfl : va_at D vwCl (adW f 3 4, ent ca (adW f) wx0 3 4) H)
  have r12 := (at_i (n := 24) (k := 25) (i := 4) (e := 0) (ad := adW f) (w := wx0) (a := f 12) (Nat.le_of_ble_eq_true rfl) rfl (by decide) rfl rfl (hP 12 _ rfl))
  have r13 := (hP 13 _ rfl : va_at D vwCl (adW f 3 5, ent ca (adW f) wx0 3 5) H)
  have r14 := (at_i (n := 24) (k := 25) (i := 5) (e := 0) (ad := adW f) (w := wx0) (a := f 14) (Nat.le_of_ble_eq_true rfl) rfl (by decide) rfl rfl (hP 14 _ rfl))
  have r15 := (hP 15 _ rfl : va_at D vwCl (adW f 3 6, ent ca (adW f) wx0 3 6) H)
  have r16 := (at_i (n := 24) (k := 25) (i := 6) (e := 0) (ad := adW f) (w := wx0) (a := f 16) (Nat.le_of_ble_eq_true rfl) rfl (by decide) rfl rfl (hP 16 _ rfl))
  have r17 := (hP 17 _ rfl : va_at D vwCl (adW f 3 7, ent ca (adW f) wx0 3 7) H)
  have r18 := (at_i (n := 24) (k := 25) (i := 7) (e := 0) (ad := adW f) (w := wx0) (a := f 18) (Nat.le_of_ble_eq_true rfl) rfl (by decide) rfl rfl (hP 18 _ rfl))
  have r19 := (hP 19 _ rfl : va_at D vwCl (adW f 3 8, ent ca (adW f) wx0 3 8) H)
  have r20 := (at_i (n := 24) (k := 25) (i := 8) (e := 0) (ad := adW f) (w := wx0) (a := f 20) (Nat.le_of_ble_eq_true rfl) rfl (by decide) rfl rfl (hP 20 _ rfl))
  have r21 := (hP 21 _ rfl : va_at D vwCl (adW f 3 9, ent ca (adW f) wx0 3 9) H)
  have r22 := (at_i (n := 24) (k := 25) (i := 9) (e := 0) (ad := adW f) (w := wx0) (a := f 22) (Nat.le_of_ble_eq_true rfl) rfl (by decide) rfl rfl (hP 22 _ rfl))
  have r23 := (hP 23 _ rfl : va_at D vwCl (adW f 3 10, ent ca (adW f) wx0 3 10) H)
  have r24 := (at_i (n := 24) (k := 25) (i := 10) (e := 0) (ad := adW f) (w := wx0) (a := f 24) (Nat.le_of_ble_eq_true rfl) rfl (by decide) rfl rfl (hP 24 _ rfl))
  have r25 := (hP 25 _ rfl : va_at D vwCl (adW f 3 11, ent ca (adW f) wx0 3 11) H)
  have r26 := (at_i (n := 24) (k := 25) (i := 11) (e := 0) (ad := adW f) (w := wx0) (a := f 26) (Nat.le_of_ble_eq_true rfl) rfl (by decide) rfl rfl (hP 26 _ rfl))
  have r27 := (hP 27 _ rfl : va_at D vwCl (adW f 3 12, ent ca (adW f) wx0 3 12) H)
  have r28 := (at_i (n := 24) (k := 25) (i := 12) (e := 0) (ad := adW f) (w := wx0) (a := f 28) (Nat.le_of_ble_eq_true rfl) rfl (by decide) rfl rfl (hP 28 _ rfl))
  have r29 := (hP 29 _ rfl : va_at D vwCl (adW f 3 13, ent ca (adW f) wx0 3 13) H)
  have r30 := (at_i (n := 24) (k := 25) (i := 13) (e := 0) (ad := adW f) (w := wx0) (a := f 30) (Nat.le_of_ble_eq_true rfl) rfl (by decide) rfl rfl (hP 30 _ rfl))
  have r31 := (hP 31 _ rfl : va_at D vwCl (adW f 3 14, ent ca (adW f) wx0 3 14) H)
  have r32 := (at_i (n := 24) (k := 25) (i := 14) (e := 0) (ad := adW f) (w := wx0) (a := f 32) (Nat.le_of_ble_eq_true rfl) rfl (by decide) rfl rfl (hP 32 _ rfl))
  have r33 := (hP 33 _ rfl : va_at D vwCl (adW f 3 15, ent ca (adW f) wx0 3 15) H)
  have r34 := (at_i (n := 24) (k := 25) (i := 15) (e := 0) (ad := adW f) (w := wx0) (a := f 34) (Nat.le_of_ble_eq_true rfl) rfl (by decide) rfl rfl (hP 34 _ rfl))
  have r35 := (hP 35 _ rfl : va_at D vwCl (adW f 3 16, ent ca (adW f) wx0 3 16) H)
  have r36 := (at_i (n := 24) (k := 25) (i := 16) (e := 0) (ad := adW f) (w := wx0) (a := f 36) (Nat.le_of_ble_eq_true rfl) rfl (by decide) rfl rfl (hP 36 _ rfl))
  have r37 := (hP 37 _ rfl : va_at D vwCl (adW f 3 0, ent ca (adW f) wx0 3 0) H)
  have r38 := (at_i (n := 24) (k := 25) (i := 0) (e := 0) (ad := adW f) (w := wx0) (a := f 38) (Nat.le_of_ble_eq_true rfl) rfl (by decide) rfl rfl (hP 38 _ rfl))
  have r39 := (hP 39 _ rfl : va_at D vwCl (adW f 3 1, ent ca (adW f) wx0 3 1) H)
  have r40 := (at_i (n := 24) (k := 25) (i := 1) (e := 0) (ad := adW f) (w := wx0) (a := f 40) (Nat.le_of_ble_eq_true rfl) rfl (by decide) rfl rfl (hP 40 _ rfl))
  have r41 := (hP 41 _ rfl : va_at D vwCl (adW f 1 0, ent ca (adW f) wx0 1 0) H)
  have r42 := (hP 42 _ rfl : va_at D vwCl (adW f 7 0, ent ca (adW f) wx0 7 0) H)
  have r43 := (at_i (n := 8) (k := 31) (i := 0) (e := 0) (ad := adW f) (w := wx0) (a := f 43) (Nat.le_of_ble_eq_true rfl) rfl (by decide) rfl rfl (hP 43 _ rfl))
  have r44 := (at_i (n := 8) (k := 32) (i := 0) (e := 0) (ad := adW f) (w := wx0) (a := f 44) (Nat.le_of_ble_eq_true rfl) rfl (by decide) rfl rfl (hP 44 _ rfl))
  have r45 := (at_i (n := 24) (k := 33) (i := 0) (e := 0) (ad := adW f) (w := wx0) (a := f 45) (Nat.le_of_ble_eq_true rfl) rfl (by decide) rfl rfl (hP 45 _ rfl))
  have r46 := (at_i (n := 24) (k := 34) (i := 0) (e := 0) (ad := adW f) (w := wx0) (a := f 46) (Nat.le_of_ble_eq_true rfl) rfl (by decide) rfl rfl (hP 46 _ rfl))
  have r47 := (at_i (n := 24) (k := 35) (i := 0) (e := 0) (ad := adW f) (w := wx0) (a := f 47) (Nat.le_of_ble_eq_true rfl) rfl (by decide) rfl rfl (hP 47 _ rfl))
  have r48 := (at_i (n := 72) (k := 36) (i := 0) (e := 0) (ad := adW f) (w := wx0) (a := f 48) (Nat.le_of_ble_eq_true rfl) rfl (by decide) rfl rfl (hP 48 _ rfl))
  have r49 := (at_i (n := 24) (k := 37) (i := 0) (e := 0) (ad := adW f) (w := wx0) (a := f 49) (Nat.le_of_ble_eq_true rfl) rfl (by decide) rfl rfl (hP 49 _ rfl))
  have r50 := (at_i (n := 276) (k := 38) (i := 0) (e := 0) (ad := adW f) (w := wx0) (a := f 50) (Nat.le_of_ble_eq_true rfl) rfl (by decide) rfl rfl (hP 50 _ rfl))
  have r51 := (at_i (n := 276) (k := 39) (i := 0) (e := 0) (ad := adW f) (w := wx0) (a := f 51) (Nat.le_of_ble_eq_true rfl) rfl (by decide) rfl rfl (hP 51 _ rfl))
  have r52 := (hP 52 _ rfl : va_at D vwCl (adW f 3 2, ent ca (adW f) wx0 3 2) H)
  have r53 := (at_i (n := 24) (k := 25) (i := 2) (e := 0) (ad := adW f) (w := wx0) (a := f 53) (Nat.le_of_ble_eq_true rfl) rfl (by decide) rfl rfl (hP 53 _ rfl))
  have r54 := (hP 54 _ rfl : va_at D vwCl (adW f 2 0, ent ca (adW f) wx0 2 0) H)
  have r55 := (at_i (n := 24) (k := 19) (i := 0) (e := 0) (ad := adW f) (w := wx0) (a := f 55) (Nat.le_of_ble_eq_true rfl) rfl (by decide) rfl rfl (hP 55 _ rfl))
  have r56 := (at_i (n := 24) (k := 20) (i := 0) (e := 0) (ad := adW f) (w := wx0) (a := f 56) (Nat.le_of_ble_eq_true rfl) rfl (by decide) rfl rfl (hP 56 _ rfl))
  have r57 := (at_i (n := 24) (k := 21) (i := 0) (e := 0) (ad := adW f) (w := wx0) (a := f 57) (Nat.le_of_ble_eq_true rfl) rfl (by decide) rfl rfl (hP 57 _ rfl))
  have r58 := (at_i (n := 24) (k := 22) (i := 0) (e := 0) (ad := adW f) (w := wx0) (a := f 58) (Nat.le_of_ble_eq_true rfl) rfl (by decide) rfl rfl (hP 58 _ rfl))
  have r59 := (at_i (n := 24) (k := 23) (i := 0) (e := 0) (ad := adW f) (w := wx0) (a := f 59) (Nat.le_of_ble_eq_true rfl) rfl (by decide) rfl rfl (hP 59 _ rfl))
  have r60 := (at_i (n := 24) (k := 24) (i := 0) (e := 0) (ad := adW f) (w := wx0) (a := f 60) (Nat.le_of_ble_eq_true rfl) rfl (by decide) rfl rfl (hP 60 _ rfl))
  have r61 := (at_i (n := 12) (k := 13) (i := 0) (e := 0) (ad := adW f) (w := wx0) (a := f 61) (Nat.le_of_ble_eq_true rfl) rfl (by decide) rfl rfl (hP 61 _ rfl))
  have r62 := (at_i (n := 12) (k := 14) (i := 0) (e := 0) (ad := adW f) (w := wx0) (a := f 62) (Nat.le_of_ble_eq_true rfl) rfl (by decide) rfl rfl (hP 62 _ rfl))
  have r63 := (at_i (n := 8) (k := 15) (i := 0) (e := 0) (ad := adW f) (w := wx0) (a := f 63) (Nat.le_of_ble_eq_true rfl) rfl (by decide) rfl rfl (hP 63 _ rfl))
  have r64 := (at_i (n := 8) (k := 16) (i := 0) (e := 0) (ad := adW f) (w := wx0) (a := f 64) (Nat.le_of_ble_eq_true rfl) rfl (by decide) rfl rfl (hP 64 _ rfl))
  have r65 := (at_i (n := 44) (k := 17) (i := 0) (e := 0) (ad := adW f) (w := wx0) (a := f 65) (Nat.le_of_ble_eq_true rfl) rfl (by decide) rfl rfl (hP 65 _ rfl))
  have r66 := (at_i (n := 44) (k := 18) (i := 0) (e := 0) (ad := adW f) (w := wx0) (a := f 66) (Nat.le_of_ble_eq_true rfl) rfl (by decide) rfl rfl (hP 66 _ rfl))
  have r67 := (hP 67 _ rfl : va_at D vwCl (adW f 1 1, ent ca (adW f) wx0 1 1) H)
  have r68 := (hP 68 _ rfl : va_at D vwCl (adW f 7 1, ent ca (adW f) wx0 7 1) H)
  have r69 := (at_i (n := 8) (k := 31) (i := 1) (e := 0) (ad := adW f) (w := wx0) (a := f 69) (Nat.le_of_ble_eq_true rfl) rfl (by decide) rfl rfl (hP 69 _ rfl))
  have r70 := (at_i (n := 8) (k := 32) (i := 1) (e := 0) (ad := adW f) (w := wx0) (a := f 70) (Nat.le_of_ble_eq_true rfl) rfl (by decide) rfl rfl (hP 70 _ rfl))
  have r71 := (at_i (n := 24) (k := 33) (i := 1) (e := 0) (ad := adW f) (w := wx0) (a := f 71) (Nat.le_of_ble_eq_true rfl) rfl (by decide) rfl rfl (hP 71 _ rfl))
  have r72 := (at_i (n := 24) (k := 34) (i := 1) (e := 0) (ad := adW f) (w := wx0) (a := f 72) (Nat.le_of_ble_eq_true rfl) rfl (by decide) rfl rfl (hP 72 _ rfl))
  have r73 := (at_i (n := 24) (k := 35) (i := 1) (e := 0) (ad := adW f) (w := wx0) (a := f 73) (Nat.le_of_ble_eq_true rfl) rfl (by decide) rfl rfl (hP 73 _ rfl))
  have r74 := (at_i (n := 72) (k := 36) (i := 1) (e := 0) (ad := adW f) (w := wx0) (a := f 74) (Nat.le_of_ble_eq_true rfl) rfl (by decide) rfl rfl (hP 74 _ rfl))
  have r75 := (at_i (n := 24) (k := 37) (i := 1) (e := 0) (ad := adW f) (w := wx0) (a := f 75) (Nat.le_of_ble_eq_true rfl) rfl (by decide) rfl rfl (hP 75 _ rfl))
  have r76 := (at_i (n := 276) (k := 38) (i := 1) (e := 0) (ad := adW f) (w := wx0) (a := f 76) (Nat.le_of_ble_eq_true rfl) rfl (by decide) rfl rfl (hP 76 _ rfl))
  have r77 := (at_i (n := 276) (k := 39) (i := 1) (e := 0) (ad := adW f) (w := wx0) (a := f 77) (Nat.le_of_ble_eq_true rfl) rfl (by decide) rfl rfl (hP 77 _ rfl))
  have r78 := (hP 78 _ rfl : va_at D vwCl (adW f 3 3, ent ca (adW f) wx0 3 3) H)
  have r79 := (at_i (n := 24) (k := 25) (i := 3) (e := 0) (ad := adW f) (w := wx0) (a := f 79) (Nat.le_of_ble_eq_true rfl) rfl (by decide) rfl rfl (hP 79 _ rfl))
  have r80 := (hP 80 _ rfl : va_at D vwCl (adW f 2 1, ent ca (adW f) wx0 2 1) H)
  have r81 := (at_i (n := 24) (k := 19) (i := 1) (e := 0) (ad := adW f) (w := wx0) (a := f 81) (Nat.le_of_ble_eq_true rfl) rfl (by decide) rfl rfl (hP 81 _ rfl))
  have r82 := (at_i (n := 24) (k := 20) (i := 1) (e := 0) (ad := adW f) (w := wx0) (a := f 82) (Nat.le_of_ble_eq_true rfl) rfl (by decide) rfl rfl (hP 82 _ rfl))
  have r83 := (at_i (n := 24) (k := 21) (i := 1) (e := 0) (ad := adW f) (w := wx0) (a := f 83) (Nat.le_of_ble_eq_true rfl) rfl (by decide) rfl rfl (hP 83 _ rfl))
  have r84 := (at_i (n := 24) (k := 22) (i := 1) (e := 0) (ad := adW f) (w := wx0) (a := f 84) (Nat.le_of_ble_eq_true rfl) rfl (by decide) rfl rfl (hP 84 _ rfl))
  have r85 := (at_i (n := 24) (k := 23) (i := 1) (e := 0) (ad := adW f) (w := wx0) (a := f 85) (Nat.le_of_ble_eq_true rfl) rfl (by decide) rfl rfl (hP 85 _ rfl))
  have r86 := (at_i (n := 24) (k := 24) (i := 1) (e := 0) (ad := adW f) (w := wx0) (a := f 86) (Nat.le_of_ble_eq_true rfl) rfl (by decide) rfl rfl (hP 86 _ rfl))
  have r87 := (at_i (n := 12) (k := 13) (i := 1) (e := 0) (ad := adW f) (w := wx0) (a := f 87) (Nat.le_of_ble_eq_true rfl) rfl (by decide) rfl rfl (hP 87 _ rfl))
  have r88 := (at_i (n := 12) (k := 14) (i := 1) (e := 0) (ad := adW f) (w := wx0) (a := f 88) (Nat.le_of_ble_eq_true rfl) rfl (by decide) rfl rfl (hP 88 _ rfl))
  have r89 := (at_i (n := 8) (k := 15) (i := 1) (e := 0) (ad := adW f) (w := wx0) (a := f 89) (Nat.le_of_ble_eq_true rfl) rfl (by decide) rfl rfl (hP 89 _ rfl))
  have r90 := (at_i (n := 8) (k := 16) (i := 1) (e := 0) (ad := adW f) (w := wx0) (a := f 90) (Nat.le_of_ble_eq_true rfl) rfl (by decide) rfl rfl (hP 90 _ rfl))
  have r91 := (at_i (n := 44) (k := 17) (i := 1) (e := 0) (ad := adW f) (w := wx0) (a := f 91) (Nat.le_of_ble_eq_true rfl) rfl (by decide) rfl rfl (hP 91 _ rfl))
  have r92 := (at_i (n := 44) (k := 18) (i := 1) (e := 0) (ad := adW f) (w := wx0) (a := f 92) (Nat.le_of_ble_eq_true rfl) rfl (by decide) rfl rfl (hP 92 _ rfl))
  have all : ∀ p ∈ PLX, va_at D vwCl (adW f p.1 p.2, ent ca (adW f) wx0 p.1 p.2) H := by
    show ∀ p ∈ ([(8, 0), (6, 0), (30, 0), (0, 0), (10, 0), (11, 0), (12, 0), (4, 0), (26, 0), (27, 0), (28, 0), (3, 4), (25, 4), (3, 5), (25, 5), (3, 6), (25, 6), (3, 7), (25, 7), (3, 8), (25, 8), (3, 9), (25, 9), (3, 10), (25, 10), (3, 11), (25, 11), (3, 12), (25, 12), (3, 13), (25, 13), (3, 14), (25, 14), (3, 15), (25, 15), (3, 16), (25, 16), (3, 0), (25, 0), (3, 1), (25, 1), (1, 0), (7, 0), (31, 0), (32, 0), (33, 0), (34, 0), (35, 0), (36, 0), (37, 0), (38, 0), (39, 0), (3, 2), (25, 2), (2, 0), (19, 0), (20, 0), (21, 0), (22, 0), (23, 0), (24, 0), (13, 0), (14, 0), (15, 0), (16, 0), (17, 0), (18, 0), (1, 1), (7, 1), (31, 1), (32, 1), (33, 1), (34, 1), (35, 1), (36, 1), (37, 1), (38, 1), (39, 1), (3, 3), (25, 3), (2, 1), (19, 1), (20, 1), (21, 1), (22, 1), (23, 1), (24, 1), (13, 1), (14, 1), (15, 1), (16, 1), (17, 1), (18, 1)] : List (Nat × Nat)), _
    refine List.forall_mem_cons.mpr ⟨r0, ?_⟩
    refine List.forall_mem_cons.mpr ⟨r1, ?_⟩
    refine List.forall_mem_cons.mpr ⟨r2, ?_⟩
    refine List.forall_mem_cons.mpr ⟨r3, ?_⟩
    refine List.forall_mem_cons.mpr ⟨r4, ?_⟩
    refine List.forall_mem_cons.mpr ⟨r5, ?_⟩
    refine List.forall_mem_cons.mpr ⟨r6, ?_⟩
    refine List.forall_mem_cons.mpr ⟨r7, ?_⟩
    refine List.forall_mem_cons.mpr ⟨r8, ?_⟩
    refine List.forall_mem_cons.mpr ⟨r9, ?_⟩
    refine List.forall_mem_cons.mpr ⟨r10, ?_⟩
    refine List.forall_mem_cons.mpr ⟨r11, ?_⟩
    refine List.forall_mem_cons.mpr ⟨r12, ?_⟩
    refine List.forall_mem_cons.mpr ⟨r13, ?_⟩
    refine List.forall_mem_cons.mpr ⟨r14, ?_⟩
    refine List.forall_mem_cons.mpr ⟨r15, ?_⟩
    refine List.forall_mem_cons.mpr ⟨r16, ?_⟩
    refine List.forall_mem_cons.mpr ⟨r17, ?_⟩
    refine List.forall_mem_cons.mpr ⟨r18, ?_⟩
    refine List.forall_mem_cons.mpr ⟨r19, ?_⟩
    refine List.forall_mem_cons.mpr ⟨r20, ?_⟩
    refine List.forall_mem_cons.mpr ⟨r21, ?_⟩
    refine List.forall_mem_cons.mpr ⟨r22, ?_⟩
    refine List.forall_mem_cons.mpr ⟨r23, ?_⟩
    refine List.forall_mem_cons.mpr ⟨r24, ?_⟩
    refine List.forall_mem_cons.mpr ⟨r25, ?_⟩
    refine List.forall_mem_cons.mpr ⟨r26, ?_⟩
    refine List.forall_mem_cons.mpr ⟨r27, ?_⟩
    refine List.forall_mem_cons.mpr ⟨r28, ?_⟩
    refine List.forall_mem_cons.mpr ⟨r29, ?_⟩
    refine List.forall_mem_cons.mpr ⟨r30, ?_⟩
    refine List.forall_mem_cons.mpr ⟨r31, ?_⟩
    refine List.forall_mem_cons.mpr ⟨r32, ?_⟩
    refine List.forall_mem_cons.mpr ⟨r33, ?_⟩
    refine List.forall_mem_cons.mpr ⟨r34, ?_⟩
    refine List.forall_mem_cons.mpr ⟨r35, ?_⟩
    refine List.forall_mem_cons.mpr ⟨r36, ?_⟩
    refine List.forall_mem_cons.mpr ⟨r37, ?_⟩
    refine List.forall_mem_cons.mpr ⟨r38, ?_⟩
    refine List.forall_mem_cons.mpr ⟨r39, ?_⟩
    refine List.forall_mem_cons.mpr ⟨r40, ?_⟩
    refine List.forall_mem_cons.mpr ⟨r41, ?_⟩
    refine List.forall_mem_cons.mpr ⟨r42, ?_⟩
    refine List.forall_mem_cons.mpr ⟨r43, ?_⟩
    refine List.forall_mem_cons.mpr ⟨r44, ?_⟩
    refine List.forall_mem_cons.mpr ⟨r45, ?_⟩
    refine List.forall_mem_cons.mpr ⟨r46, ?_⟩
    refine List.forall_mem_cons.mpr ⟨r47, ?_⟩
    refine List.forall_mem_cons.mpr ⟨r48, ?_⟩
    refine List.forall_mem_cons.mpr ⟨r49, ?_⟩
    refine List.forall_mem_cons.mpr ⟨r50, ?_⟩
    refine List.forall_mem_cons.mpr ⟨r51, ?_⟩
    refine List.forall_mem_cons.mpr ⟨r52, ?_⟩
    refine List.forall_mem_cons.mpr ⟨r53, ?_⟩
    refine List.forall_mem_cons.mpr ⟨r54, ?_⟩
    refine List.forall_mem_cons.mpr ⟨r55, ?_⟩
    refine List.forall_mem_cons.mpr ⟨r56, ?_⟩
    refine List.forall_mem_cons.mpr ⟨r57, ?_⟩
    refine List.forall_mem_cons.mpr ⟨r58, ?_⟩
    refine List.forall_mem_cons.mpr ⟨r59, ?_⟩
    refine List.forall_mem_cons.mpr ⟨r60, ?_⟩
    refine List.forall_mem_cons.mpr ⟨r61, ?_⟩
    refine List.forall_mem_cons.mpr ⟨r62, ?_⟩
    refine List.forall_mem_cons.mpr ⟨r63, ?_⟩
    refine List.forall_mem_cons.mpr ⟨r64, ?_⟩
    refine List.forall_mem_cons.mpr ⟨r65, ?_⟩
    refine List.forall_mem_cons.mpr ⟨r66, ?_⟩
    refine List.forall_mem_cons.mpr ⟨r67, ?_⟩
    refine List.forall_mem_cons.mpr ⟨r68, ?_⟩
    refine List.forall_mem_cons.mpr ⟨r69, ?_⟩
    refine List.forall_mem_cons.mpr ⟨r70, ?_⟩
    refine List.forall_mem_cons.mpr ⟨r71, ?_⟩
    refine List.forall_mem_cons.mpr ⟨r72, ?_⟩
    refine List.forall_mem_cons.mpr ⟨r73, ?_⟩
    refine List.forall_mem_cons.mpr ⟨r74, ?_⟩
    refine List.forall_mem_cons.mpr ⟨r75, ?_⟩
    refine List.forall_mem_cons.mpr ⟨r76, ?_⟩
    refine List.forall_mem_cons.mpr ⟨r77, ?_⟩
    refine List.forall_mem_cons.mpr ⟨r78, ?_⟩
    refine List.forall_mem_cons.mpr ⟨r79, ?_⟩
    refine List.forall_mem_cons.mpr ⟨r80, ?_⟩
    refine List.forall_mem_cons.mpr ⟨r81, ?_⟩
    refine List.forall_mem_cons.mpr ⟨r82, ?_⟩
    refine List.forall_mem_cons.mpr ⟨r83, ?_⟩
    refine List.forall_mem_cons.mpr ⟨r84, ?_⟩
    refine List.forall_mem_cons.mpr ⟨r85, ?_⟩
    refine List.forall_mem_cons.mpr ⟨r86, ?_⟩
    refine List.forall_mem_cons.mpr ⟨r87, ?_⟩
    refine List.forall_mem_cons.mpr ⟨r88, ?_⟩
    refine List.forall_mem_cons.mpr ⟨r89, ?_⟩
    refine List.forall_mem_cons.mpr ⟨r90, ?_⟩
    refine List.forall_mem_cons.mpr ⟨r91, ?_⟩
    refine List.forall_mem_cons.mpr ⟨r92, ?_⟩
    exact fun _ h => absurd h List.not_mem_nil
  intro k q hk
  obtain ⟨p, h1, rfl⟩ := wl_inv hk
  exact all p (List.mem_of_getElem? h1)
set_option maxRecDepth 100000 in
set_option maxHeartbeats 4000000 in
theorem cells9 {D : va_G} {ca : Nat → ClassId} {f : Nat → Nat} {H : Heap} (hP : va_P D vwCl (cl_X9 ca f) H) : va_P D vwCl (wl (adWm f) PLM (ent ca (adWm f) wm0)) H := by
  simp only [cl_X9, w_ap, w_eI, w_eL, List.nil_append, List.cons_append, List.append_assoc] at hP
  have r0 := (hP 0 _ rfl : va_at D vwCl (adWm f 9 0, ent ca (adWm f) wm0 9 0) H)
  have r1 := (at_i (n := 500) (k := 40) (i := 0) (e := 0) (ad := adWm f) (w := wm0) (a := f 1) (Nat.le_of_ble_eq_true rfl) rfl (by decide) rfl rfl (hP 1 _ rfl))
  have r2 := (at_i (n := 16) (k := 41) (i := 0) (e := 0) (ad := adWm f) (w := wm0) (a := f 2) (Nat.le_of_ble_eq_true rfl) rfl (by decide) rfl rfl (hP 2 _ rfl))
  have r3 := (at_i (n := 96) (k := 42) (i := 0) (e := 0) (ad := adWm f) (w := wm0) (a := f 3) (Nat.le_of_ble_eq_true rfl) rfl (by decide) rfl rfl (hP 3 _ rfl))
  have r4 := (at_i (n := 384) (k := 43) (i := 0) (e := 0) (ad := adWm f) (w := wm0) (a := f 4) (Nat.le_of_ble_eq_true rfl) rfl (by decide) rfl rfl (hP 4 _ rfl))
  have r5 := (at_i (n := 288) (k := 44) (i := 0) (e := 0) (ad := adWm f) (w := wm0) (a := f 5) (Nat.le_of_ble_eq_true rfl) rfl (by decide) rfl rfl (hP 5 _ rfl))
  have r6 := (at_i (n := 48) (k := 45) (i := 0) (e := 0) (ad := adWm f) (w := wm0) (a := f 6) (Nat.le_of_ble_eq_true rfl) rfl (by decide) rfl rfl (hP 6 _ rfl))
  have r7 := (at_i (n := 24) (k := 46) (i := 0) (e := 0) (ad := adWm f) (w := wm0) (a := f 7) (Nat.le_of_ble_eq_true rfl) rfl (by decide) rfl rfl (hP 7 _ rfl))
  have r8 := (at_i (n := 72) (k := 47) (i := 0) (e := 0) (ad := adWm f) (w := wm0) (a := f 8) (Nat.le_of_ble_eq_true rfl) rfl (by decide) rfl rfl (hP 8 _ rfl))
  have r9 := (at_i (n := 13) (k := 48) (i := 0) (e := 0) (ad := adWm f) (w := wm0) (a := f 9) (Nat.le_of_ble_eq_true rfl) rfl (by decide) rfl rfl (hP 9 _ rfl))
  have r10 := (at_i (n := 13) (k := 49) (i := 0) (e := 0) (ad := adWm f) (w := wm0) (a := f 10) (Nat.le_of_ble_eq_true rfl) rfl (by decide) rfl rfl (hP 10 _ rfl))
  have r11 := (at_i (n := 8) (k := 50) (i := 0) (e := 0) (ad := adWm f) (w := wm0) (a := f 11) (Nat.le_of_ble_eq_true rfl) rfl (by decide) rfl rfl (hP 11 _ rfl))
  have r12 := (at_i (n := 8) (k := 51) (i := 0) (e := 0) (ad := adWm f) (w := wm0) (a := f 12) (Nat.le_of_ble_eq_true rfl) rfl (by decide) rfl rfl (hP 12 _ rfl))
  have r13 := (at_i (n := 24) (k := 52) (i := 0) (e := 0) (ad := adWm f) (w := wm0) (a := f 13) (Nat.le_of_ble_eq_true rfl) rfl (by decide) rfl rfl (hP 13 _ rfl))
  have r14 := (at_i (n := 24) (k := 53) (i := 0) (e := 0) (ad := adWm f) (w := wm0) (a := f 14) (Nat.le_of_ble_eq_true rfl) rfl (by decide) rfl rfl (hP 14 _ rfl))
  have r15 := (at_i (n := 24) (k := 54) (i := 0) (e := 0) (ad := adWm f) (w := wm0) (a := f 15) (Nat.le_of_ble_eq_true rfl) rfl (by decide) rfl rfl (hP 15 _ rfl))
  have r16 := (at_i (n := 24) (k := 55) (i := 0) (e := 0) (ad := adWm f) (w := wm0) (a := f 16) (Nat.le_of_ble_eq_true rfl) rfl (by decide) rfl rfl (hP 16 _ rfl))
  have r17 := (at_i (n := 24) (k := 56) (i := 0) (e := 0) (ad := adWm f) (w := wm0) (a := f 17) (Nat.le_of_ble_eq_true rfl) rfl (by decide) rfl rfl (hP 17 _ rfl))
  have r18 := (at_i (n := 24) (k := 57) (i := 0) (e := 0) (ad := adWm f) (w := wm0) (a := f 18) (Nat.le_of_ble_eq_true rfl) rfl (by decide) rfl rfl (hP 18 _ rfl))
  have r19 := (at_i (n := 24) (k := 58) (i := 0) (e := 0) (ad := adWm f) (w := wm0) (a := f 19) (Nat.le_of_ble_eq_true rfl) rfl (by decide) rfl rfl (hP 19 _ rfl))
  have r20 := (at_i (n := 24) (k := 59) (i := 0) (e := 0) (ad := adWm f) (w := wm0) (a := f 20) (Nat.le_of_ble_eq_true rfl) rfl (by decide) rfl rfl (hP 20 _ rfl))
  have r21 := (at_i (n := 24) (k := 60) (i := 0) (e := 0) (ad := adWm f) (w := wm0) (a := f 21) (Nat.le_of_ble_eq_true rfl) rfl (by decide) rfl rfl (hP 21 _ rfl))
  have r22 := (at_i (n := 4096) (k := 61) (i := 0) (e := 3) (ad := adWm f) (w := wm0) (a := f 22) (Nat.le_of_ble_eq_true rfl) rfl (by decide) rfl rfl (hP 22 _ rfl))
  have r23 := (at_i (n := 24) (k := 62) (i := 0) (e := 0) (ad := adWm f) (w := wm0) (a := f 23) (Nat.le_of_ble_eq_true rfl) rfl (by decide) rfl rfl (hP 23 _ rfl))
  have r24 := (at_i (n := 24) (k := 63) (i := 0) (e := 0) (ad := adWm f) (w := wm0) (a := f 24) (Nat.le_of_ble_eq_true rfl) rfl (by decide) rfl rfl (hP 24 _ rfl))
  have r25 := (at_l (n := 576) (k := 64) (i := 0) (ad := adWm f) (w := wm0) (a := f 25) (Nat.le_of_ble_eq_true rfl) rfl rfl rfl (hP 25 _ rfl))
  have r26 := (at_l (n := 576) (k := 65) (i := 0) (ad := adWm f) (w := wm0) (a := f 26) (Nat.le_of_ble_eq_true rfl) rfl rfl rfl (hP 26 _ rfl))
  have r27 := (at_i (n := 24) (k := 66) (i := 0) (e := 0) (ad := adWm f) (w := wm0) (a := f 27) (Nat.le_of_ble_eq_true rfl) rfl (by decide) rfl rfl (hP 27 _ rfl))
  have r28 := (at_i (n := 24) (k := 67) (i := 0) (e := 0) (ad := adWm f) (w := wm0) (a := f 28) (Nat.le_of_ble_eq_true rfl) rfl (by decide) rfl rfl (hP 28 _ rfl))
  have r29 := (at_i (n := 24) (k := 68) (i := 0) (e := 0) (ad := adWm f) (w := wm0) (a := f 29) (Nat.le_of_ble_eq_true rfl) rfl (by decide) rfl rfl (hP 29 _ rfl))
  have all : ∀ p ∈ PLM, va_at D vwCl (adWm f p.1 p.2, ent ca (adWm f) wm0 p.1 p.2) H := by
    show ∀ p ∈ ([(9, 0), (40, 0), (41, 0), (42, 0), (43, 0), (44, 0), (45, 0), (46, 0), (47, 0), (48, 0), (49, 0), (50, 0), (51, 0), (52, 0), (53, 0), (54, 0), (55, 0), (56, 0), (57, 0), (58, 0), (59, 0), (60, 0), (61, 0), (62, 0), (63, 0), (64, 0), (65, 0), (66, 0), (67, 0), (68, 0)] : List (Nat × Nat)), _
    refine List.forall_mem_cons.mpr ⟨r0, ?_⟩
    refine List.forall_mem_cons.mpr ⟨r1, ?_⟩
    refine List.forall_mem_cons.mpr ⟨r2, ?_⟩
    refine List.forall_mem_cons.mpr ⟨r3, ?_⟩
    refine List.forall_mem_cons.mpr ⟨r4, ?_⟩
    refine List.forall_mem_cons.mpr ⟨r5, ?_⟩
    refine List.forall_mem_cons.mpr ⟨r6, ?_⟩
    refine List.forall_mem_cons.mpr ⟨r7, ?_⟩
    refine List.forall_mem_cons.mpr ⟨r8, ?_⟩
    refine List.forall_mem_cons.mpr ⟨r9, ?_⟩
    refine List.forall_mem_cons.mpr ⟨r10, ?_⟩
    refine List.forall_mem_cons.mpr ⟨r11, ?_⟩
    refine List.forall_mem_cons.mpr ⟨r12, ?_⟩
    refine List.forall_mem_cons.mpr ⟨r13, ?_⟩
    refine List.forall_mem_cons.mpr ⟨r14, ?_⟩
    refine List.forall_mem_cons.mpr ⟨r15, ?_⟩
    refine List.forall_mem_cons.mpr ⟨r16, ?_⟩
    refine List.forall_mem_cons.mpr ⟨r17, ?_⟩
    refine List.forall_mem_cons.mpr ⟨r18, ?_⟩
    refine List.forall_mem_cons.mpr ⟨r19, ?_⟩
    refine List.forall_mem_cons.mpr ⟨r20, ?_⟩
    refine List.forall_mem_cons.mpr ⟨r21, ?_⟩
    refine List.forall_mem_cons.mpr ⟨r22, ?_⟩
    refine List.forall_mem_cons.mpr ⟨r23, ?_⟩
    refine List.forall_mem_cons.mpr ⟨r24, ?_⟩
    refine List.forall_mem_cons.mpr ⟨r25, ?_⟩
    refine List.forall_mem_cons.mpr ⟨r26, ?_⟩
    refine List.forall_mem_cons.mpr ⟨r27, ?_⟩
    refine List.forall_mem_cons.mpr ⟨r28, ?_⟩
    refine List.forall_mem_cons.mpr ⟨r29, ?_⟩
    exact fun _ h => absurd h List.not_mem_nil
  intro k q hk
  obtain ⟨p, h1, rfl⟩ := wl_inv hk
  exact all p (List.mem_of_getElem? h1)
/-! addresses of new cells: apart -/
theorem D_split {A : Nat → Prop} {X Y : va_W} (h : va_D A (X ++ Y)) : va_D A X ∧ va_D A Y ∧ ∀ p, p ∈ X → ∀ q, q ∈ Y → p.1 ≠ q.1 := by
  refine ⟨⟨fun i j p q hi hj e => h.1 i j p q (by rw [List.getElem?_append_left (List.getElem?_eq_some_iff.mp hi).1]; exact hi) (by rw [List.getElem?_append_left (List.getElem?_eq_some_iff.mp hj).1]; exact hj) e, fun k q hk => h.2 k q (by rw [List.getElem?_append_left (List.getElem?_eq_some_iff.mp hk).1]; exact hk)⟩, ⟨fun i j p q hi hj e => ?_, fun k q hk => h.2 (X.length + k) q (app_at hk)⟩, ?_⟩
  · have := h.1 _ _ _ _ (app_at (X := X) hi) (app_at (X := X) hj) e
    omega
  · intro p hp q hq e
    obtain ⟨i, hi⟩ := List.getElem?_of_mem hp
    obtain ⟨j, hj⟩ := List.getElem?_of_mem hq
    have hlt := (List.getElem?_eq_some_iff.mp hi).1
    have := h.1 i _ _ _ (by rw [List.getElem?_append_left hlt]; exact hi) (app_at (X := X) hj) e
    omega
theorem adr_at {W : va_W} {n : Nat} {f : Nat → Nat} (hm : W.map Prod.fst = (List.range n).map f) {i : Nat} (hi : i < n) : ∃ e, W[i]? = some (f i, e) := by
  have h : (W.map Prod.fst)[i]? = some (f i) := by rw [hm, List.getElem?_map, List.getElem?_range hi]; rfl
  rw [List.getElem?_map] at h
  cases hw : W[i]? with
  | none => rw [hw] at h; cases h
  | some x =>
    rw [hw] at h
    obtain ⟨a, b⟩ := x
    have h1 : a = f i := Option.some.inj h
    subst h1
    exact ⟨b, rfl⟩
theorem RD_of {A : Nat → Prop} {W : va_W} {n : Nat} {f : Nat → Nat} {PL : List (Nat × Nat)} {ix : Nat → Nat → Nat} (hD : va_D A W) (hm : W.map Prod.fst = (List.range n).map f) (hlt : ∀ p ∈ PL, ix p.1 p.2 < n) (hnd : PL.Nodup) (hinj : ∀ p ∈ PL, ∀ q ∈ PL, ix p.1 p.2 = ix q.1 q.2 → p = q) : RD (rW (fun k i => f (ix k i)) PL) (fun k i => f (ix k i)) PL ∧ ∀ x, rW (fun k i => f (ix k i)) PL x → A x ∧ ∃ e, (x, e) ∈ W := by
  refine ⟨⟨hnd, fun p hp q hq e => ?_, fun p hp => ⟨p, hp, rfl⟩⟩, fun x hx => ?_⟩
  · obtain ⟨e1, h1⟩ := adr_at hm (hlt p hp)
    obtain ⟨e2, h2⟩ := adr_at hm (hlt q hq)
    exact hinj p hp q hq (hD.1 _ _ _ _ h1 h2 e)
  · obtain ⟨p, hp, rfl⟩ := hx
    obtain ⟨e1, h1⟩ := adr_at hm (hlt p hp)
    exact ⟨hD.2 _ _ h1, e1, List.mem_of_getElem? h1⟩
set_option maxRecDepth 100000 in
theorem adr8 (ca : Nat → ClassId) (f : Nat → Nat) : (cl_X8 ca f).map Prod.fst = (List.range 93).map f := by
  simp only [cl_X8, cl_X6, cl_X0, cl_X3, cl_X1, cl_X7, cl_X2, cl_X4, List.nil_append, List.cons_append, List.append_assoc, List.map_cons, List.map_nil]
  rfl
set_option maxRecDepth 100000 in
theorem adr9 (ca : Nat → ClassId) (f : Nat → Nat) : (cl_X9 ca f).map Prod.fst = (List.range 30).map f := by
  simp only [cl_X9, w_ap, w_eI, w_eL, List.nil_append, List.cons_append, List.append_assoc, List.map_cons, List.map_nil]
  rfl
theorem PLX_nd : PLX.Nodup := by decide +kernel
theorem PLM_nd : PLM.Nodup := by decide +kernel
theorem ixX_lt : ∀ p ∈ PLX, ixX p.1 p.2 < 93 := by decide +kernel
theorem ixM_lt : ∀ p ∈ PLM, ixM p.1 p.2 < 30 := by decide +kernel
theorem ixX_inj : ∀ p ∈ PLX, ∀ q ∈ PLX, ixX p.1 p.2 = ixX q.1 q.2 → p = q := by decide +kernel
theorem ixM_inj : ∀ p ∈ PLM, ∀ q ∈ PLM, ixM p.1 p.2 = ixM q.1 q.2 → p = q := by decide +kernel
/-! the classes, the arrays -/
theorem arr_K {args : Array Value} {s : State} {ty : FieldType} (h : (Cond.arrayClass ty).before args s = true) : ∃ c, ArrOfT s c ty ∧ s.vm.findClass ("[" ++ ty.toString) = some c := by
  obtain ⟨c, k, comp, h1, h2, h3⟩ := Cond.arrayClass_spec h
  exact ⟨c, fun N z => ⟨(fun k h => by cases h), k, h2, comp, h3⟩, h1⟩
theorem arr_O {s : State} (h : va_AO RX3 s) : ∃ c, ArrOfT s c (.object RX3) ∧ va_RA s c (.object RX3) := by
  obtain ⟨comp, c, k, h1, -, h3, h4, h5⟩ := Cond.arrayOver_spec h
  exact ⟨c, fun N z => ⟨(fun k h => by cases h), k, h3, comp, h4⟩, k, comp, h3, h4, h1, h5⟩
theorem start_K {s : State} {args : Array Value} (hts : ∀ w ∈ ALL, w.before args s = true) (hao : va_AO RX3 s) : ∃ (D : va_G) (ca : Nat → ClassId), va_K D vwCl (tysA ca) s := by
  obtain ⟨c0, i0, k0⟩ := u_known (C := RX0) (T := TX0) (N := 5) hts in_wsX00 (hts _ it_X0)
  obtain ⟨c1, i1, k1⟩ := u_known (C := RX1) (T := TX1) (N := 12) hts in_wsX10 (hts _ it_X1)
  obtain ⟨c2, i2, k2⟩ := u_known (C := RX2) (T := TX2) (N := 8) hts in_wsX20 (hts _ it_X2)
  obtain ⟨c3, i3, k3⟩ := u_known (C := RX3) (T := TX3) (N := 3) hts in_wsX30 (hts _ it_X3)
  obtain ⟨c4, i4, k4⟩ := u_known (C := RX4) (T := TX4) (N := 9) hts in_wsX40 (hts _ it_X4)
  obtain ⟨c5, i5, k5⟩ := u_known (C := RX5) (T := TX5) (N := 9) hts in_wsX50 (hts _ it_X5)
  obtain ⟨c6, i6, k6⟩ := u_known (C := RX6) (T := TX6) (N := 2) hts in_wsX60 (hts _ it_X6)
  obtain ⟨c7, i7, k7⟩ := u_known (C := RX7) (T := TX7) (N := 12) hts in_wsX70 (hts _ it_X7)
  obtain ⟨c8, i8, k8⟩ := u_known (C := RX8) (T := TX8) (N := 10) hts in_wsX80 (hts _ it_X8)
  obtain ⟨c9, i9, k9⟩ := u_known (C := RX9) (T := TX9) (N := 56) hts in_wsX90 (hts _ it_X9)
  obtain ⟨a0, b0, d0⟩ := arr_K (hts _ ac__int)
  obtain ⟨a1, b1, d1⟩ := arr_K (hts _ ac__byte)
  obtain ⟨a2, b2, d2⟩ := arr_K (hts _ ac__long)
  obtain ⟨a3, b3, d3⟩ := arr_K (hts _ ac__boolean)
  obtain ⟨a4, b4, d4⟩ := arr_O hao
  refine ⟨(fun k => [c0, c1, c2, c3, c4, c5, c6, c7, c8, c9].getD k c0, fun k => [i0, i1, i2, i3, i4, i5, i6, i7, i8, i9].getD k i0), fun k => [a0, a1, a2, a3, a4].getD k a0, fun c q h => ?_, fun k q h => ?_⟩
  · have hc : c < 10 := (List.getElem?_eq_some_iff.mp h).1
    have hc2 : c = 0 ∨ c = 1 ∨ c = 2 ∨ c = 3 ∨ c = 4 ∨ c = 5 ∨ c = 6 ∨ c = 7 ∨ c = 8 ∨ c = 9 := by omega
    rcases hc2 with rfl | rfl | rfl | rfl | rfl | rfl | rfl | rfl | rfl | rfl
    · cases h; exact k0
    · cases h; exact k1
    · cases h; exact k2
    · cases h; exact k3
    · cases h; exact k4
    · cases h; exact k5
    · cases h; exact k6
    · cases h; exact k7
    · cases h; exact k8
    · cases h; exact k9
  · have hc : k < 5 := (List.getElem?_eq_some_iff.mp h).1
    have hc2 : k = 0 ∨ k = 1 ∨ k = 2 ∨ k = 3 ∨ k = 4 := by omega
    rcases hc2 with rfl | rfl | rfl | rfl | rfl
    · cases h; exact ⟨b0, d0⟩
    · cases h; exact ⟨b1, d1⟩
    · cases h; exact ⟨b2, d2⟩
    · cases h; exact ⟨b3, d3⟩
    · cases h; exact ⟨b4, d4⟩
/-! what is known outside, at the start -/
def gvL : List Cond := flatC (Jvm.Cond.and given_1 narrow_1)
def stI (i : Nat) : Nat := [155, 160, 162, 164].getD i 0
def stT (i : Nat) : Term := Term.string RX9 (stI i)
theorem A0s_old (s : State) : ∀ a : Nat, a < s.heap.size → ¬ A0s s a := fun a h z => absurd (show s.heap.size ≤ a from z) (by omega)
theorem st_ex : ∀ i, i < 4 → Cond.exactly (stT i) "java/lang/String" ∈ gvL := by decide +kernel
theorem st_co : ∀ i, i < 4 → Cond.eq (.field (stT i) "java/lang/String" "coder" "B") (.int 0) ∈ gvL := by decide +kernel
theorem st_ar : ∀ i, i < 4 → Cond.arrayOf (.field (stT i) "java/lang/String" "value" "[B") .byte ∈ gvL := by decide +kernel
theorem st_le : ∀ i, i < 4 → Cond.eq (.length (.field (stT i) "java/lang/String" "value" "[B")) (.int (Int32.ofNat ([3, 4, 4, 4].getD i 0))) ∈ gvL := by decide +kernel
theorem st_el : ∀ i, i < 4 → ∀ j, j < [3, 4, 4, 4].getD i 0 → Cond.eq (.elem (.field (stT i) "java/lang/String" "value" "[B") (.int (Int32.ofNat j))) (.int ((sBy.getD i []).getD j 0)) ∈ gvL := by decide +kernel
theorem st_ne : ∀ i, i < 4 → ∀ j, j < 4 → i ≠ j → Cond.not (Cond.eq (stT i) (stT j)) ∈ gvL ∨ Cond.not (Cond.eq (stT j) (stT i)) ∈ gvL := by decide +kernel
theorem st_w1 : Cond.stringRef RX8 305 "there are not so many bytes" ∈ lw_tbl := by decide +kernel
theorem st_w2 : Cond.stringRef RX8 316 "no term has this name" ∈ lw_tbl := by decide +kernel
theorem st_w3 : Cond.stringRef RX9 155 "fun" ∈ lw_tbl ∧ Cond.stringRef RX9 160 "term" ∈ lw_tbl ∧ Cond.stringRef RX9 162 "same" ∈ lw_tbl ∧ Cond.stringRef RX9 164 "diff" ∈ lw_tbl := by decide +kernel
theorem st_w4 : Cond.laysStatic Bundle.tN "UNASSIGNED_STACK" Bundle.steD ∈ lw_tbl ∧ Cond.laysStatic Bundle.tN "SUPPRESSED_SENTINEL" Bundle.listD ∈ lw_tbl ∧ Cond.initialized Bundle.tN ∈ lw_tbl := by decide +kernel
theorem st_w5 : Cond.laysStatic "java/lang/String" "COMPACT_STRINGS" "Z" ∈ lw_tbl ∧ Cond.initialized "java/lang/String" ∈ lw_tbl ∧ Cond.laysStatic "jdk/internal/util/Preconditions" "SIOOBE_FORMATTER" "Ljava/util/function/BiFunction;" ∈ lw_tbl ∧ Cond.initialized "jdk/internal/util/Preconditions" ∈ lw_tbl := by decide +kernel
theorem st_g1 : Cond.isRef (.static Bundle.tN "UNASSIGNED_STACK" Bundle.steD) ∈ gvL ∧ Cond.isRef (.static Bundle.tN "SUPPRESSED_SENTINEL" Bundle.listD) ∈ gvL ∧ Cond.eq (.static "java/lang/String" "COMPACT_STRINGS" "Z") (.int 1) ∈ gvL ∧ Cond.isRef (.static "jdk/internal/util/Preconditions" "SIOOBE_FORMATTER" "Ljava/util/function/BiFunction;") ∈ gvL ∧ Cond.exactly (Term.string RX8 305) "java/lang/String" ∈ gvL ∧ Cond.exactly (Term.string RX8 316) "java/lang/String" ∈ gvL := by decide +kernel
theorem st_str {args : Array Value} {s : State} {t : Term} (h : (Cond.exactly t "java/lang/String").before args s = true) : ∃ a, t.eval args s none [] s = some (.ref a) := by
  obtain ⟨a, c, cA, kA, q1, -⟩ := Cond.exactly_spec (args := args) (first := s) (o := none) (s := s) (idx := []) (t := t) (cls := "java/lang/String") h
  exact ⟨a, q1⟩
theorem start_Z {s : State} {b : Nat} (hts : ∀ w ∈ lw_tbl, w.before #[.ref b] s = true) (hxw : ∀ w ∈ XW, w ∈ lw_tbl) (hgv : (Jvm.Cond.and given_1 narrow_1).before #[.ref b] s = true) : ∃ K V : Nat → Nat, ZZ (A0s s) K V s := by
  have hs : ∀ c ∈ gvL, c.before #[.ref b] s = true := flat_of_before _ hgv
  obtain ⟨K, V, hS, hK⟩ := vk_Sof (args := #[.ref b]) (s := s) (N := 4) (tm := stT) (len := [3, 4, 4, 4]) (byt := sBy) (A := A0s s) (by decide) (fun i hi => hs _ (st_ex i hi)) (fun i hi => hs _ (st_co i hi)) (fun i hi => hs _ (st_ar i hi)) (fun i hi => hs _ (st_le i hi)) (fun i hi j hj => hs _ (st_el i hi j hj)) (fun i j hi hj hij => (st_ne i hi j hj hij).imp (fun h => hs _ h) (fun h => hs _ h)) (A0s_old s)
  obtain ⟨g1, g2, g3, g4, g5, g6⟩ := st_g1
  obtain ⟨sa, h5⟩ := st_str (hs _ g5)
  obtain ⟨sb, h6⟩ := st_str (hs _ g6)
  have hxs : ∀ w ∈ XW, va_Nw w s := fun w hw => vx_ot_at (State.WarmedH.refl s) rfl (List.all_eq_true.mp XW_ot w (List.mem_cons_of_mem _ (List.mem_cons_of_mem _ hw))) (hts w (hxw w hw))
  exact ⟨K, V, ⟨hxs, ⟨sa, vk_R.of (hts _ st_w1) h5⟩, ⟨sb, vk_R.of (hts _ st_w2) h6⟩, vx_Zqof (hts _ st_w4.1) (hts _ st_w4.2.2) (hs _ g1) (A0s_old s), vx_Zqof (hts _ st_w4.2.1) (hts _ st_w4.2.2) (hs _ g2) (A0s_old s)⟩, ⟨va_Zof (hts _ st_w5.1) (hts _ st_w5.2.1) (va_eqt (hs _ g3)) (A0s_old s), va_Zqof (hts _ st_w5.2.2.1) (hts _ st_w5.2.2.2) (hs _ g4) (A0s_old s)⟩, hS, vk_R.of (hts _ st_w3.1) (hK 0 (by omega)), vk_R.of (hts _ st_w3.2.1) (hK 1 (by omega)), vk_R.of (hts _ st_w3.2.2.1) (hK 2 (by omega)), vk_R.of (hts _ st_w3.2.2.2) (hK 3 (by omega))⟩
theorem nul9 : ∀ j, j < 56 → defaultValue (tyX9 j) = vp_V [.int 0, .int 0, .int 0, .int 0, .null, .int 0, .int 0, .null, .int 0, .int 0, .null, .null, .null, .int 0, .int 0, .int 0, .int 0, .int 0, .int 0, .int 0, .int 0, .int 0, .int 0, .int 0, .int 0, .null, .int 0, .int 0, .null, .null, .int 0, .null, .null, .int 0, .null, .null, .null, .null, .null, .int 0, .null, .null, .null, .null, .null, .null, .null, .null, .null, .null, .null, .null, .int 0, .null, .null, .int 0] j := by decide +kernel
theorem nul8 : ∀ j, j < 10 → defaultValue (tyX8 j) = vp_V [.null, .null, .null, .null, .null, .null, .null, .int 0, .int 0, .int 0] j := by decide +kernel
theorem st_nw : Cond.arrayOver (.object RX3) ∈ lw_tbl ∧ ∀ q ∈ NST, Cond.methodLinkNest q.1 q.2.1 q.2.2.1 q.2.2.2 ∈ lw_tbl := by decide +kernel
theorem st_cw : Cond.codeWith yL_named cL_named 4 (some .int) [(0, 9, 12, 13)] ∈ lw_tbl := by decide +kernel
theorem w_app_l {X Y : va_W} {x : Nat} {e : va_E} (h : (x, e) ∈ X) : (x, e) ∈ X ++ Y := List.mem_append_left _ h
set_option maxHeartbeats 4000000 in
theorem law_start {p : Program} {l : Launch} {e : Env} {s : State} {m : MethodId} {below : List Frame} {meth : Method} {c : Code} {b L : Nat} {xs : Nat → Int32} (hfl : l.stackTraces = false) (hL : L ≤ 3072) (hx : p.tables.exec = Jvm.exec) (hb : c.code = cL_law) (hr : meth.sig.returnType = ret) (hml : c.maxLocals = 7) (hown : s.vm.findClass RL = some m.cls) (hts0 : ∀ w ∈ lw_tbl, w.before #[.ref b] s = true) (hxw : ∀ w ∈ XW, w ∈ lw_tbl) (hX : va_X b L xs s s.heap) (hbl : b < s.heap.size) (hlocks : meth.locks = false) (hgv : (Jvm.Cond.and given_1 narrow_1).before #[.ref b] s = true) : W p l e room_1 s m #[.ref b] below meth c s.heap [] 0 0 (LZ below #[.ref b] s) (entryFrame m ([.ref b] : List Value).toArray 7) := by
  have hts : ∀ w ∈ ALL, w.before #[.ref b] s = true := fun w hw => hts0 w (ALL_tb w hw)
  obtain ⟨K, V, hZ⟩ := start_Z hts0 hxw hgv
  have hao : va_AO RX3 s := va_AO.of (hts0 _ st_nw.1)
  have hN : NW s := ⟨fun q hq => va_Nw.of rfl (hts0 _ (st_nw.2 q hq)), hao⟩
  obtain ⟨D, ca, hK⟩ := start_K hts hao
  have C : CX p s m #[.ref b] c cL_law RL 7 D ca (ZZ (A0s s) K V) := ⟨hx, hb, hml, hown, hts, hK, hZ⟩
  have hl := lv_entry ([.ref b]) (n := 7) (Nat.le_of_ble_eq_true rfl)
  rw [lg_entry_eq]
  generalize (lg_sl ([.ref b]) ++ List.replicate (7 - (lg_sl ([.ref b])).length) Slot.unset).toArray = ls at hl ⊢
  have hl : lv_has ls 7 [(0, .ref b)] := hl
  show W p l e room_1 s m _ below meth c s.heap [] 0 0 _ _
  have hA : ∀ q : Nat, s.heap.size ≤ q → A0s s q := fun q h => h
  have hS : va_S (A0s s) s.heap s.heap [] := va_S.rf
  have hP : va_P D vwCl ([] ++ []) s.heap := fun k q h => by cases h
  have hD : va_D (A0s s) ([] ++ []) := ⟨(fun i j p q h => by cases h), (fun k q h => by cases h)⟩
  refine rn_objN (X := []) (L := []) (k := 8) (idx := 8) (idx2 := 15) (host := RX8) (T := TX8) (ty0 := tyX8) (Nf := 10) (y := yX8_init) (nulls := [.null, .null, .null, .null, .null, .null, .null, .int 0, .int 0, .int 0]) C hl.1 in_wsX80 tyX8_ok rfl nul8 (i_X8 l D ca) cl_L_8 it_X8 ini_X8 im_X8_init cd_X8_init rfl rfl hN (Or.inr ml_L_15) (by decide +kernel) hP hD hS hA (Nat.le_of_ble_eq_true rfl) (Nat.le_of_ble_eq_true rfl) ⟨rfl, rfl⟩ ⟨Nat.le_of_ble_eq_true rfl, Nat.le_of_ble_eq_true rfl⟩ (Nat.le_of_ble_eq_true rfl) dL_law_0 dL_law_3 dL_law_4 (fun f H locs hP hD hS => ?_)
  refine lv_astore_n (lv' := [(1, .ref (f 0)), (0, .ref b)]) hx hb dL_law_7 rfl hl (by decide) rfl (fun ls hl => ?_)
  refine rn_objN (X := []) (L := [] ++ cl_X8 ca f) (k := 9) (idx := 16) (idx2 := 18) (host := RX8) (T := TX9) (ty0 := tyX9) (Nf := 56) (y := yX9_init) C hl.1 in_wsX90 tyX9_ok rfl nul9 (i_X9 l D ca) cl_L_16 it_X9 ini_X9 im_X9_init cd_X9_init rfl rfl hN (Or.inr ml_L_18) (by decide +kernel) hP hD hS hA (Nat.le_of_ble_eq_true rfl) (Nat.le_of_ble_eq_true rfl) ⟨rfl, rfl⟩ ⟨Nat.le_of_ble_eq_true rfl, Nat.le_of_ble_eq_true rfl⟩ (Nat.le_of_ble_eq_true rfl) dL_law_8 dL_law_11 dL_law_12 (fun g H locs hP hD hS => ?_)
  refine lv_astore_n (lv' := [(2, .ref (g 0)), (1, .ref (f 0)), (0, .ref b)]) hx hb dL_law_15 rfl hl (by decide) rfl (fun ls hl => ?_)
  refine lv_iconst (v := 1) hx hb dL_law_16 (by decide) ?_
  refine rn_arr (X := []) (L := [] ++ cl_X8 ca f ++ cl_X9 ca g) (ty := .long) (t0 := 2) (q0 := 2) (N' := 1) (a0 := (1, .inr (.inl (fun _ => 0)))) C rfl rfl (fun cA h1 h2 => Option.some.inj (h1.symm.trans h2)) ac__long hP hD hS hA (fun _ => rfl) (by decide +kernel) (by decide +kernel) (Nat.le_of_ble_eq_true rfl) (Nat.le_of_ble_eq_true rfl) (Nat.le_of_ble_eq_true rfl) dL_law_17 (fun ao H hP hD hS => ?_)
  refine lv_astore_n (lv' := [(3, .ref ao), (2, .ref (g 0)), (1, .ref (f 0)), (0, .ref b)]) hx hb dL_law_19 rfl hl (by decide) rfl (fun ls hl => ?_)
  refine lv_iconst (v := 0) hx hb dL_law_20 (by decide) ?_
  refine lv_istore (lv' := [(4, .int 0), (3, .ref ao), (2, .ref (g 0)), (1, .ref (f 0)), (0, .ref b)]) hx hb dL_law_21 hl (by decide) rfl (fun ls hl => ?_)
  simp only [List.nil_append] at hP hD
  obtain ⟨d12, d3, d13⟩ := D_split hD
  obtain ⟨d1, d2, d4⟩ := D_split d12
  obtain ⟨rx, ox⟩ := RD_of (PL := PLX) (ix := ixX) d1 (adr8 ca f) ixX_lt PLX_nd ixX_inj
  obtain ⟨rm, om⟩ := RD_of (PL := PLM) (ix := ixM) d2 (adr9 ca g) ixM_lt PLM_nd ixM_inj
  have hPO := vaP_right hP
  have hPXM := vaP_left hP
  have G : LG p s m b c meth D ca (adW f) (adWm g) ao K V L xs := ⟨C, ⟨hr, hlocks⟩, ⟨hX, hbl, hL⟩, rx, rm, fun x hx => (ox x hx).1, fun x hx => (om x hx).1, d3.2 0 _ rfl, fun x h1 h2 => ?_, fun h1 => ?_, fun h1 => ?_, hts0 _ st_cw⟩
  · have := law_loop (e := e) (below := below) (cb := 124) (sb := 11993) hfl G (Nat.le_of_ble_eq_true rfl) (Nat.le_of_ble_eq_true rfl) L 0 H locs ls wx0 wm0 (by omega) (by omega) rel0 ⟨cells8 (vaP_left hPXM), cells9 (vaP_right hPXM), ⟨fun _ => 0, hPO⟩, hS⟩ (lv_sub (l' := LV b (adW f) (adWm g) ao (6 * 0)) hl [4, 3, 2, 1, 0] rfl)
    exact W.widen (Nat.le_of_ble_eq_true rfl) (Nat.le_of_ble_eq_true rfl) this
  · obtain ⟨-, e1, h3⟩ := ox x h1
    obtain ⟨-, e2, h4⟩ := om x h2
    exact d4 _ h3 _ h4 rfl
  · obtain ⟨-, e1, h3⟩ := ox ao h1
    exact d13 _ (List.mem_append_left _ h3) _ List.mem_cons_self rfl
  · obtain ⟨-, e1, h3⟩ := om ao h1
    exact d13 _ (List.mem_append_right _ h3) _ List.mem_cons_self rfl
