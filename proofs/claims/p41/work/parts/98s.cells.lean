/-! the law: where the new cells lie -/
def wI : Mem := (fun k j _ => if k = 8 ∧ j = 9 then -1 else 0, fun _ _ _ => 0, fun _ _ _ => 0, fun k j _ => if k = 8 ∧ j = 6 then 1 else 0)
def PLC : List (Nat × Nat) := [(46, 0), (9, 0), (40, 0), (41, 0), (42, 0), (43, 0), (44, 0), (45, 0), (8, 0), (6, 0), (30, 0), (0, 0), (10, 0), (11, 0), (12, 0), (4, 0), (26, 0), (27, 0), (28, 0), (3, 4), (25, 4), (3, 5), (25, 5), (3, 6), (25, 6), (3, 7), (25, 7), (3, 8), (25, 8), (3, 9), (25, 9), (3, 10), (25, 10), (3, 11), (25, 11), (3, 12), (25, 12), (3, 13), (25, 13), (3, 14), (25, 14), (3, 15), (25, 15), (3, 16), (25, 16), (3, 0), (25, 0), (3, 1), (25, 1), (1, 0), (7, 0), (31, 0), (32, 0), (33, 0), (34, 0), (35, 0), (36, 0), (37, 0), (38, 0), (39, 0), (3, 2), (25, 2), (2, 0), (19, 0), (20, 0), (21, 0), (22, 0), (23, 0), (24, 0), (13, 0), (14, 0), (15, 0), (16, 0), (17, 0), (18, 0), (1, 1), (7, 1), (31, 1), (32, 1), (33, 1), (34, 1), (35, 1), (36, 1), (37, 1), (38, 1), (39, 1), (3, 3), (25, 3), (2, 1), (19, 1), (20, 1), (21, 1), (22, 1), (23, 1), (24, 1), (13, 1), (14, 1), (15, 1), (16, 1), (17, 1), (18, 1)]
def ixX (k i : Nat) : Nat :=
  if k = 8 then 0 else if k = 6 then 1 else if k = 30 then 2 else if k = 0 then 3 else if k = 10 then 4 else if k = 11 then 5 else if k = 12 then 6 else if k = 4 then 7 else if k = 26 then 8 else if k = 27 then 9 else if k = 28 then 10
  else if k = 3 then (if i = 0 then 37 else if i = 1 then 39 else if i = 2 then 52 else if i = 3 then 78 else 11 + 2 * (i - 4))
  else if k = 25 then (if i = 0 then 38 else if i = 1 then 40 else if i = 2 then 53 else if i = 3 then 79 else 12 + 2 * (i - 4))
  else if k = 1 then 41 + 26 * i else if k = 7 then 42 + 26 * i else if k = 2 then 54 + 26 * i
  else if k < 19 then 48 + k + 26 * i else if k < 25 then 36 + k + 26 * i else 12 + k + 26 * i
def ixC (k i : Nat) : Nat := if k = 46 then 0 else if k = 9 then 1 else if k = 47 then 101 else if 40 ≤ k then k - 38 else 8 + ixX k i
theorem ixC_ok : (PLC.map fun p => ixC p.1 p.2) = List.range 101 := by decide +kernel
def FC (q b : Nat) (g f : Nat → Nat) (j : Nat) : Nat := if j = 0 then q else if j < 8 then g (j - 1) else if j = 101 then b else f (j - 8)
def adC (q b : Nat) (g f : Nat → Nat) : Nat → Nat → Nat := fun k i => FC q b g f (ixC k i)
def WC (ca : Nat → ClassId) (q b : Nat) (g f : Nat → Nat) : va_W := [(q, .inr (10, [.ref b, .int 0]))] ++ cl_X10 ca g ++ cl_X8 ca f
section CEL
variable {D : va_G} {ca : Nat → ClassId} {ad : Nat → Nat → Nat} {w : Mem} {k i a : Nat} {H : Heap}
theorem at_i {e n : Nat} (hk : 10 ≤ k) (hk2 : k ≠ 46) (he : ety k = e) (h2 : ¬ e = 2 ∧ ¬ e = 3) (ha : ad k i = a) (hn : alen k = n) (h : va_at D vwCl (a, .inl (ca e, n, .inl fun _ => 0)) H) (hw : gA w k i = fun _ => 0 := by rfl) : va_at D vwCl (ad k i, ent ca ad w k i) H := by
  rw [ent_ea ca ad w i hk hk2, ha]
  subst he
  have : ea ca ad w k i = .inl (ca (ety k), n, .inl fun _ => 0) := by
    unfold ea
    rw [hw, hn]
    split
    · rename_i z; exact absurd z h2.1
    · rename_i z; exact absurd z h2.2
    · rfl
  rw [this]; exact h
theorem at_l {n : Nat} (hk : 10 ≤ k) (hk2 : k ≠ 46) (he : ety k = 2) (ha : ad k i = a) (hn : alen k = n) (h : va_at D vwCl (a, .inl (ca 2, n, .inr (.inl fun _ => 0))) H) (hw : gL w k i = fun _ => 0 := by rfl) : va_at D vwCl (ad k i, ent ca ad w k i) H := by
  rw [ent_ea ca ad w i hk hk2, ha]
  have : ea ca ad w k i = .inl (ca 2, n, .inr (.inl fun _ => 0)) := by
    unfold ea
    rw [he, hw, hn]
    rfl
  rw [this]; exact h
theorem at_q {f g : Nat → Option Nat} (hfg : ∀ j, j < 13 → f j = g j) (h : va_at D vwCl (a, .inl (ca 3, 13, .inr (.inr (.inr (.inr f))))) H) : va_at D vwCl (a, .inl (ca 3, 13, .inr (.inr (.inr (.inr g))))) H := by
  have e : vp_cell (ca 3) (13, .inr (.inr (.inr (.inr f)))) = vp_cell (ca 3) (13, .inr (.inr (.inr (.inr g)))) := by
    rw [vp_cell_q, vp_cell_q]
    show ({ cls := ca 3, slots := Array.ofFn fun j : Fin 13 => va_rf (f j.val) } : Cell) = { cls := ca 3, slots := Array.ofFn fun j : Fin 13 => va_rf (g j.val) }
    rw [show (fun j : Fin 13 => va_rf (f j.val)) = (fun j : Fin 13 => va_rf (g j.val)) from funext fun j => by rw [hfg j.val j.isLt]]
  show H[a]? = some (vp_cell (ca 3) (13, .inr (.inr (.inr (.inr g)))))
  rw [← e]; exact h
end CEL
set_option maxRecDepth 100000 in
set_option maxHeartbeats 4000000 in
theorem cellsC {D : va_G} {ca : Nat → ClassId} {q b : Nat} {g f : Nat → Nat} {H : Heap} (hP : va_P D vwCl (WC ca q b g f) H) : va_P D vwCl (wl (adC q b g f) PLC (ent ca (adC q b g f) wI)) H := by
  simp only [WC, cl_X10, cl_X8, cl_X6, cl_X0, cl_X3, cl_X1, cl_X7, cl_X2, cl_X4, List.nil_append, List.cons_append, List.append_assoc] at hP
  have h26 : va_at D vwCl ((adC q b g f) 26 0, ent ca (adC q b g f) wI 26 0) H := by
    have h := hP 16 _ rfl
    rw [ent_ea ca (adC q b g f) wI 0 (show 10 ≤ 26 by omega) (by decide)]
    refine at_q ?_ h
    intro j hj
    have hj2 : j = 0 ∨ j = 1 ∨ j = 2 ∨ j = 3 ∨ j = 4 ∨ j = 5 ∨ j = 6 ∨ j = 7 ∨ j = 8 ∨ j = 9 ∨ j = 10 ∨ j = 11 ∨ j = 12 := by omega
    rcases hj2 with rfl | rfl | rfl | rfl | rfl | rfl | rfl | rfl | rfl | rfl | rfl | rfl | rfl <;> rfl
  have r0 := (hP 0 _ rfl : va_at D vwCl ((adC q b g f) 46 0, ent ca (adC q b g f) wI 46 0) H)
  have r1 := (hP 1 _ rfl : va_at D vwCl ((adC q b g f) 9 0, ent ca (adC q b g f) wI 9 0) H)
  have r2 := (at_i (n := 12) (k := 40) (i := 0) (e := 0) (ad := (adC q b g f)) (w := wI) (a := (g 1)) (Nat.le_of_ble_eq_true rfl) (by decide) rfl (by decide) rfl rfl (hP 2 _ rfl))
  have r3 := (at_i (n := 12) (k := 41) (i := 0) (e := 0) (ad := (adC q b g f)) (w := wI) (a := (g 2)) (Nat.le_of_ble_eq_true rfl) (by decide) rfl (by decide) rfl rfl (hP 3 _ rfl))
  have r4 := (at_i (n := 12) (k := 42) (i := 0) (e := 0) (ad := (adC q b g f)) (w := wI) (a := (g 3)) (Nat.le_of_ble_eq_true rfl) (by decide) rfl (by decide) rfl rfl (hP 4 _ rfl))
  have r5 := (at_i (n := 12) (k := 43) (i := 0) (e := 0) (ad := (adC q b g f)) (w := wI) (a := (g 4)) (Nat.le_of_ble_eq_true rfl) (by decide) rfl (by decide) rfl rfl (hP 5 _ rfl))
  have r6 := (at_i (n := 12) (k := 44) (i := 0) (e := 0) (ad := (adC q b g f)) (w := wI) (a := (g 5)) (Nat.le_of_ble_eq_true rfl) (by decide) rfl (by decide) rfl rfl (hP 6 _ rfl))
  have r7 := (at_i (n := 12) (k := 45) (i := 0) (e := 0) (ad := (adC q b g f)) (w := wI) (a := (g 6)) (Nat.le_of_ble_eq_true rfl) (by decide) rfl (by decide) rfl rfl (hP 7 _ rfl))
  have r8 := (hP 8 _ rfl : va_at D vwCl ((adC q b g f) 8 0, ent ca (adC q b g f) wI 8 0) H)
  have r9 := (hP 9 _ rfl : va_at D vwCl ((adC q b g f) 6 0, ent ca (adC q b g f) wI 6 0) H)
  have r10 := (at_i (n := 500) (k := 30) (i := 0) (e := 1) (ad := (adC q b g f)) (w := wI) (a := (f 2)) (Nat.le_of_ble_eq_true rfl) (by decide) rfl (by decide) rfl rfl (hP 10 _ rfl))
  have r11 := (hP 11 _ rfl : va_at D vwCl ((adC q b g f) 0 0, ent ca (adC q b g f) wI 0 0) H)
  have r12 := (at_i (n := 576) (k := 10) (i := 0) (e := 0) (ad := (adC q b g f)) (w := wI) (a := (f 4)) (Nat.le_of_ble_eq_true rfl) (by decide) rfl (by decide) rfl rfl (hP 12 _ rfl))
  have r13 := (at_i (n := 576) (k := 11) (i := 0) (e := 0) (ad := (adC q b g f)) (w := wI) (a := (f 5)) (Nat.le_of_ble_eq_true rfl) (by decide) rfl (by decide) rfl rfl (hP 13 _ rfl))
  have r14 := (at_i (n := 576) (k := 12) (i := 0) (e := 0) (ad := (adC q b g f)) (w := wI) (a := (f 6)) (Nat.le_of_ble_eq_true rfl) (by decide) rfl (by decide) rfl rfl (hP 14 _ rfl))
  have r15 := (hP 15 _ rfl : va_at D vwCl ((adC q b g f) 4 0, ent ca (adC q b g f) wI 4 0) H)
  have r16 := h26
  have r17 := (at_i (n := 12) (k := 27) (i := 0) (e := 0) (ad := (adC q b g f)) (w := wI) (a := (f 9)) (Nat.le_of_ble_eq_true rfl) (by decide) rfl (by decide) rfl rfl (hP 17 _ rfl))
  have r18 := (at_l (n := 64) (k := 28) (i := 0) (ad := (adC q b g f)) (w := wI) (a := (f 10)) (Nat.le_of_ble_eq_true rfl) (by decide) rfl rfl rfl (hP 18 _ rfl))
  have r19 := (hP 19 _ rfl : va_at D vwCl ((adC q b g f) 3 4, ent ca (adC q b g f) wI 3 4) H)
  have r20 := (at_i (n := 24) (k := 25) (i := 4) (e := 0) (ad := (adC q b g f)) (w := wI) (a := (f 12)) (Nat.le_of_ble_eq_true rfl) (by decide) rfl (by decide) rfl rfl (hP 20 _ rfl))
  have r21 := (hP 21 _ rfl : va_at D vwCl ((adC q b g f) 3 5, ent ca (adC q b g f) wI 3 5) H)
  have r22 := (at_i (n := 24) (k := 25) (i := 5) (e := 0) (ad := (adC q b g f)) (w := wI) (a := (f 14)) (Nat.le_of_ble_eq_true rfl) (by decide) rfl (by decide) rfl rfl (hP 22 _ rfl))
  have r23 := (hP 23 _ rfl : va_at D vwCl ((adC q b g f) 3 6, ent ca (adC q b g f) wI 3 6) H)
  have r24 := (at_i (n := 24) (k := 25) (i := 6) (e := 0) (ad := (adC q b g f)) (w := wI) (a := (f 16)) (Nat.le_of_ble_eq_true rfl) (by decide) rfl (by decide) rfl rfl (hP 24 _ rfl))
  have r25 := (hP 25 _ rfl : va_at D vwCl ((adC q b g f) 3 7, ent ca (adC q b g f) wI 3 7) H)
  have r26 := (at_i (n := 24) (k := 25) (i := 7) (e := 0) (ad := (adC q b g f)) (w := wI) (a := (f 18)) (Nat.le_of_ble_eq_true rfl) (by decide) rfl (by decide) rfl rfl (hP 26 _ rfl))
  have r27 := (hP 27 _ rfl : va_at D vwCl ((adC q b g f) 3 8, ent ca (adC q b g f) wI 3 8) H)
  have r28 := (at_i (n := 24) (k := 25) (i := 8) (e := 0) (ad := (adC q b g f)) (w := wI) (a := (f 20)) (Nat.le_of_ble_eq_true rfl) (by decide) rfl (by decide) rfl rfl (hP 28 _ rfl))
  have r29 := (hP 29 _ rfl : va_at D vwCl ((adC q b g f) 3 9, ent ca (adC q b g f) wI 3 9) H)
  have r30 := (at_i (n := 24) (k := 25) (i := 9) (e := 0) (ad := (adC q b g f)) (w := wI) (a := (f 22)) (Nat.le_of_ble_eq_true rfl) (by decide) rfl (by decide) rfl rfl (hP 30 _ rfl))
  have r31 := (hP 31 _ rfl : va_at D vwCl ((adC q b g f) 3 10, ent ca (adC q b g f) wI 3 10) H)
  have r32 := (at_i (n := 24) (k := 25) (i := 10) (e := 0) (ad := (adC q b g f)) (w := wI) (a := (f 24)) (Nat.le_of_ble_eq_true rfl) (by decide) rfl (by decide) rfl rfl (hP 32 _ rfl))
  have r33 := (hP 33 _ rfl : va_at D vwCl ((adC q b g f) 3 11, ent ca (adC q b g f) wI 3 11) H)
  have r34 := (at_i (n := 24) (k := 25) (i := 11) (e := 0) (ad := (adC q b g f)) (w := wI) (a := (f 26)) (Nat.le_of_ble_eq_true rfl) (by decide) rfl (by decide) rfl rfl (hP 34 _ rfl))
  have r35 := (hP 35 _ rfl : va_at D vwCl ((adC q b g f) 3 12, ent ca (adC q b g f) wI 3 12) H)
  have r36 := (at_i (n := 24) (k := 25) (i := 12) (e := 0) (ad := (adC q b g f)) (w := wI) (a := (f 28)) (Nat.le_of_ble_eq_true rfl) (by decide) rfl (by decide) rfl rfl (hP 36 _ rfl))
  have r37 := (hP 37 _ rfl : va_at D vwCl ((adC q b g f) 3 13, ent ca (adC q b g f) wI 3 13) H)
  have r38 := (at_i (n := 24) (k := 25) (i := 13) (e := 0) (ad := (adC q b g f)) (w := wI) (a := (f 30)) (Nat.le_of_ble_eq_true rfl) (by decide) rfl (by decide) rfl rfl (hP 38 _ rfl))
  have r39 := (hP 39 _ rfl : va_at D vwCl ((adC q b g f) 3 14, ent ca (adC q b g f) wI 3 14) H)
  have r40 := (at_i (n := 24) (k := 25) (i := 14) (e := 0) (ad := (adC q b g f)) (w := wI) (a := (f 32)) (Nat.le_of_ble_eq_true rfl) (by decide) rfl (by decide) rfl rfl (hP 40 _ rfl))
  have r41 := (hP 41 _ rfl : va_at D vwCl ((adC q b g f) 3 15, ent ca (adC q b g f) wI 3 15) H)
  have r42 := (at_i (n := 24) (k := 25) (i := 15) (e := 0) (ad := (adC q b g f)) (w := wI) (a := (f 34)) (Nat.le_of_ble_eq_true rfl) (by decide) rfl (by decide) rfl rfl (hP 42 _ rfl))
  have r43 := (hP 43 _ rfl : va_at D vwCl ((adC q b g f) 3 16, ent ca (adC q b g f) wI 3 16) H)
  have r44 := (at_i (n := 24) (k := 25) (i := 16) (e := 0) (ad := (adC q b g f)) (w := wI) (a := (f 36)) (Nat.le_of_ble_eq_true rfl) (by decide) rfl (by decide) rfl rfl (hP 44 _ rfl))
  have r45 := (hP 45 _ rfl : va_at D vwCl ((adC q b g f) 3 0, ent ca (adC q b g f) wI 3 0) H)
  have r46 := (at_i (n := 24) (k := 25) (i := 0) (e := 0) (ad := (adC q b g f)) (w := wI) (a := (f 38)) (Nat.le_of_ble_eq_true rfl) (by decide) rfl (by decide) rfl rfl (hP 46 _ rfl))
  have r47 := (hP 47 _ rfl : va_at D vwCl ((adC q b g f) 3 1, ent ca (adC q b g f) wI 3 1) H)
  have r48 := (at_i (n := 24) (k := 25) (i := 1) (e := 0) (ad := (adC q b g f)) (w := wI) (a := (f 40)) (Nat.le_of_ble_eq_true rfl) (by decide) rfl (by decide) rfl rfl (hP 48 _ rfl))
  have r49 := (hP 49 _ rfl : va_at D vwCl ((adC q b g f) 1 0, ent ca (adC q b g f) wI 1 0) H)
  have r50 := (hP 50 _ rfl : va_at D vwCl ((adC q b g f) 7 0, ent ca (adC q b g f) wI 7 0) H)
  have r51 := (at_i (n := 8) (k := 31) (i := 0) (e := 0) (ad := (adC q b g f)) (w := wI) (a := (f 43)) (Nat.le_of_ble_eq_true rfl) (by decide) rfl (by decide) rfl rfl (hP 51 _ rfl))
  have r52 := (at_i (n := 8) (k := 32) (i := 0) (e := 0) (ad := (adC q b g f)) (w := wI) (a := (f 44)) (Nat.le_of_ble_eq_true rfl) (by decide) rfl (by decide) rfl rfl (hP 52 _ rfl))
  have r53 := (at_i (n := 24) (k := 33) (i := 0) (e := 0) (ad := (adC q b g f)) (w := wI) (a := (f 45)) (Nat.le_of_ble_eq_true rfl) (by decide) rfl (by decide) rfl rfl (hP 53 _ rfl))
  have r54 := (at_i (n := 24) (k := 34) (i := 0) (e := 0) (ad := (adC q b g f)) (w := wI) (a := (f 46)) (Nat.le_of_ble_eq_true rfl) (by decide) rfl (by decide) rfl rfl (hP 54 _ rfl))
  have r55 := (at_i (n := 24) (k := 35) (i := 0) (e := 0) (ad := (adC q b g f)) (w := wI) (a := (f 47)) (Nat.le_of_ble_eq_true rfl) (by decide) rfl (by decide) rfl rfl (hP 55 _ rfl))
  have r56 := (at_i (n := 72) (k := 36) (i := 0) (e := 0) (ad := (adC q b g f)) (w := wI) (a := (f 48)) (Nat.le_of_ble_eq_true rfl) (by decide) rfl (by decide) rfl rfl (hP 56 _ rfl))
  have r57 := (at_i (n := 24) (k := 37) (i := 0) (e := 0) (ad := (adC q b g f)) (w := wI) (a := (f 49)) (Nat.le_of_ble_eq_true rfl) (by decide) rfl (by decide) rfl rfl (hP 57 _ rfl))
  have r58 := (at_i (n := 276) (k := 38) (i := 0) (e := 0) (ad := (adC q b g f)) (w := wI) (a := (f 50)) (Nat.le_of_ble_eq_true rfl) (by decide) rfl (by decide) rfl rfl (hP 58 _ rfl))
  have r59 := (at_i (n := 276) (k := 39) (i := 0) (e := 0) (ad := (adC q b g f)) (w := wI) (a := (f 51)) (Nat.le_of_ble_eq_true rfl) (by decide) rfl (by decide) rfl rfl (hP 59 _ rfl))
  have r60 := (hP 60 _ rfl : va_at D vwCl ((adC q b g f) 3 2, ent ca (adC q b g f) wI 3 2) H)
  have r61 := (at_i (n := 24) (k := 25) (i := 2) (e := 0) (ad := (adC q b g f)) (w := wI) (a := (f 53)) (Nat.le_of_ble_eq_true rfl) (by decide) rfl (by decide) rfl rfl (hP 61 _ rfl))
  have r62 := (hP 62 _ rfl : va_at D vwCl ((adC q b g f) 2 0, ent ca (adC q b g f) wI 2 0) H)
  have r63 := (at_i (n := 24) (k := 19) (i := 0) (e := 0) (ad := (adC q b g f)) (w := wI) (a := (f 55)) (Nat.le_of_ble_eq_true rfl) (by decide) rfl (by decide) rfl rfl (hP 63 _ rfl))
  have r64 := (at_i (n := 24) (k := 20) (i := 0) (e := 0) (ad := (adC q b g f)) (w := wI) (a := (f 56)) (Nat.le_of_ble_eq_true rfl) (by decide) rfl (by decide) rfl rfl (hP 64 _ rfl))
  have r65 := (at_i (n := 24) (k := 21) (i := 0) (e := 0) (ad := (adC q b g f)) (w := wI) (a := (f 57)) (Nat.le_of_ble_eq_true rfl) (by decide) rfl (by decide) rfl rfl (hP 65 _ rfl))
  have r66 := (at_i (n := 24) (k := 22) (i := 0) (e := 0) (ad := (adC q b g f)) (w := wI) (a := (f 58)) (Nat.le_of_ble_eq_true rfl) (by decide) rfl (by decide) rfl rfl (hP 66 _ rfl))
  have r67 := (at_i (n := 24) (k := 23) (i := 0) (e := 0) (ad := (adC q b g f)) (w := wI) (a := (f 59)) (Nat.le_of_ble_eq_true rfl) (by decide) rfl (by decide) rfl rfl (hP 67 _ rfl))
  have r68 := (at_i (n := 24) (k := 24) (i := 0) (e := 0) (ad := (adC q b g f)) (w := wI) (a := (f 60)) (Nat.le_of_ble_eq_true rfl) (by decide) rfl (by decide) rfl rfl (hP 68 _ rfl))
  have r69 := (at_i (n := 12) (k := 13) (i := 0) (e := 0) (ad := (adC q b g f)) (w := wI) (a := (f 61)) (Nat.le_of_ble_eq_true rfl) (by decide) rfl (by decide) rfl rfl (hP 69 _ rfl))
  have r70 := (at_i (n := 12) (k := 14) (i := 0) (e := 0) (ad := (adC q b g f)) (w := wI) (a := (f 62)) (Nat.le_of_ble_eq_true rfl) (by decide) rfl (by decide) rfl rfl (hP 70 _ rfl))
  have r71 := (at_i (n := 8) (k := 15) (i := 0) (e := 0) (ad := (adC q b g f)) (w := wI) (a := (f 63)) (Nat.le_of_ble_eq_true rfl) (by decide) rfl (by decide) rfl rfl (hP 71 _ rfl))
  have r72 := (at_i (n := 8) (k := 16) (i := 0) (e := 0) (ad := (adC q b g f)) (w := wI) (a := (f 64)) (Nat.le_of_ble_eq_true rfl) (by decide) rfl (by decide) rfl rfl (hP 72 _ rfl))
  have r73 := (at_i (n := 44) (k := 17) (i := 0) (e := 0) (ad := (adC q b g f)) (w := wI) (a := (f 65)) (Nat.le_of_ble_eq_true rfl) (by decide) rfl (by decide) rfl rfl (hP 73 _ rfl))
  have r74 := (at_i (n := 44) (k := 18) (i := 0) (e := 0) (ad := (adC q b g f)) (w := wI) (a := (f 66)) (Nat.le_of_ble_eq_true rfl) (by decide) rfl (by decide) rfl rfl (hP 74 _ rfl))
  have r75 := (hP 75 _ rfl : va_at D vwCl ((adC q b g f) 1 1, ent ca (adC q b g f) wI 1 1) H)
  have r76 := (hP 76 _ rfl : va_at D vwCl ((adC q b g f) 7 1, ent ca (adC q b g f) wI 7 1) H)
  have r77 := (at_i (n := 8) (k := 31) (i := 1) (e := 0) (ad := (adC q b g f)) (w := wI) (a := (f 69)) (Nat.le_of_ble_eq_true rfl) (by decide) rfl (by decide) rfl rfl (hP 77 _ rfl))
  have r78 := (at_i (n := 8) (k := 32) (i := 1) (e := 0) (ad := (adC q b g f)) (w := wI) (a := (f 70)) (Nat.le_of_ble_eq_true rfl) (by decide) rfl (by decide) rfl rfl (hP 78 _ rfl))
  have r79 := (at_i (n := 24) (k := 33) (i := 1) (e := 0) (ad := (adC q b g f)) (w := wI) (a := (f 71)) (Nat.le_of_ble_eq_true rfl) (by decide) rfl (by decide) rfl rfl (hP 79 _ rfl))
  have r80 := (at_i (n := 24) (k := 34) (i := 1) (e := 0) (ad := (adC q b g f)) (w := wI) (a := (f 72)) (Nat.le_of_ble_eq_true rfl) (by decide) rfl (by decide) rfl rfl (hP 80 _ rfl))
  have r81 := (at_i (n := 24) (k := 35) (i := 1) (e := 0) (ad := (adC q b g f)) (w := wI) (a := (f 73)) (Nat.le_of_ble_eq_true rfl) (by decide) rfl (by decide) rfl rfl (hP 81 _ rfl))
  have r82 := (at_i (n := 72) (k := 36) (i := 1) (e := 0) (ad := (adC q b g f)) (w := wI) (a := (f 74)) (Nat.le_of_ble_eq_true rfl) (by decide) rfl (by decide) rfl rfl (hP 82 _ rfl))
  have r83 := (at_i (n := 24) (k := 37) (i := 1) (e := 0) (ad := (adC q b g f)) (w := wI) (a := (f 75)) (Nat.le_of_ble_eq_true rfl) (by decide) rfl (by decide) rfl rfl (hP 83 _ rfl))
  have r84 := (at_i (n := 276) (k := 38) (i := 1) (e := 0) (ad := (adC q b g f)) (w := wI) (a := (f 76)) (Nat.le_of_ble_eq_true rfl) (by decide) rfl (by decide) rfl rfl (hP 84 _ rfl))
  have r85 := (at_i (n := 276) (k := 39) (i := 1) (e := 0) (ad := (adC q b g f)) (w := wI) (a := (f 77)) (Nat.le_of_ble_eq_true rfl) (by decide) rfl (by decide) rfl rfl (hP 85 _ rfl))
  have r86 := (hP 86 _ rfl : va_at D vwCl ((adC q b g f) 3 3, ent ca (adC q b g f) wI 3 3) H)
  have r87 := (at_i (n := 24) (k := 25) (i := 3) (e := 0) (ad := (adC q b g f)) (w := wI) (a := (f 79)) (Nat.le_of_ble_eq_true rfl) (by decide) rfl (by decide) rfl rfl (hP 87 _ rfl))
  have r88 := (hP 88 _ rfl : va_at D vwCl ((adC q b g f) 2 1, ent ca (adC q b g f) wI 2 1) H)
  have r89 := (at_i (n := 24) (k := 19) (i := 1) (e := 0) (ad := (adC q b g f)) (w := wI) (a := (f 81)) (Nat.le_of_ble_eq_true rfl) (by decide) rfl (by decide) rfl rfl (hP 89 _ rfl))
  have r90 := (at_i (n := 24) (k := 20) (i := 1) (e := 0) (ad := (adC q b g f)) (w := wI) (a := (f 82)) (Nat.le_of_ble_eq_true rfl) (by decide) rfl (by decide) rfl rfl (hP 90 _ rfl))
  have r91 := (at_i (n := 24) (k := 21) (i := 1) (e := 0) (ad := (adC q b g f)) (w := wI) (a := (f 83)) (Nat.le_of_ble_eq_true rfl) (by decide) rfl (by decide) rfl rfl (hP 91 _ rfl))
  have r92 := (at_i (n := 24) (k := 22) (i := 1) (e := 0) (ad := (adC q b g f)) (w := wI) (a := (f 84)) (Nat.le_of_ble_eq_true rfl) (by decide) rfl (by decide) rfl rfl (hP 92 _ rfl))
  have r93 := (at_i (n := 24) (k := 23) (i := 1) (e := 0) (ad := (adC q b g f)) (w := wI) (a := (f 85)) (Nat.le_of_ble_eq_true rfl) (by decide) rfl (by decide) rfl rfl (hP 93 _ rfl))
  have r94 := (at_i (n := 24) (k := 24) (i := 1) (e := 0) (ad := (adC q b g f)) (w := wI) (a := (f 86)) (Nat.le_of_ble_eq_true rfl) (by decide) rfl (by decide) rfl rfl (hP 94 _ rfl))
  have r95 := (at_i (n := 12) (k := 13) (i := 1) (e := 0) (ad := (adC q b g f)) (w := wI) (a := (f 87)) (Nat.le_of_ble_eq_true rfl) (by decide) rfl (by decide) rfl rfl (hP 95 _ rfl))
  have r96 := (at_i (n := 12) (k := 14) (i := 1) (e := 0) (ad := (adC q b g f)) (w := wI) (a := (f 88)) (Nat.le_of_ble_eq_true rfl) (by decide) rfl (by decide) rfl rfl (hP 96 _ rfl))
  have r97 := (at_i (n := 8) (k := 15) (i := 1) (e := 0) (ad := (adC q b g f)) (w := wI) (a := (f 89)) (Nat.le_of_ble_eq_true rfl) (by decide) rfl (by decide) rfl rfl (hP 97 _ rfl))
  have r98 := (at_i (n := 8) (k := 16) (i := 1) (e := 0) (ad := (adC q b g f)) (w := wI) (a := (f 90)) (Nat.le_of_ble_eq_true rfl) (by decide) rfl (by decide) rfl rfl (hP 98 _ rfl))
  have r99 := (at_i (n := 44) (k := 17) (i := 1) (e := 0) (ad := (adC q b g f)) (w := wI) (a := (f 91)) (Nat.le_of_ble_eq_true rfl) (by decide) rfl (by decide) rfl rfl (hP 99 _ rfl))
  have r100 := (at_i (n := 44) (k := 18) (i := 1) (e := 0) (ad := (adC q b g f)) (w := wI) (a := (f 92)) (Nat.le_of_ble_eq_true rfl) (by decide) rfl (by decide) rfl rfl (hP 100 _ rfl))
  have all : ∀ p ∈ PLC, va_at D vwCl ((adC q b g f) p.1 p.2, ent ca (adC q b g f) wI p.1 p.2) H := by
    show ∀ p ∈ ([(46, 0), (9, 0), (40, 0), (41, 0), (42, 0), (43, 0), (44, 0), (45, 0), (8, 0), (6, 0), (30, 0), (0, 0), (10, 0), (11, 0), (12, 0), (4, 0), (26, 0), (27, 0), (28, 0), (3, 4), (25, 4), (3, 5), (25, 5), (3, 6), (25, 6), (3, 7), (25, 7), (3, 8), (25, 8), (3, 9), (25, 9), (3, 10), (25, 10), (3, 11), (25, 11), (3, 12), (25, 12), (3, 13), (25, 13), (3, 14), (25, 14), (3, 15), (25, 15), (3, 16), (25, 16), (3, 0), (25, 0), (3, 1), (25, 1), (1, 0), (7, 0), (31, 0), (32, 0), (33, 0), (34, 0), (35, 0), (36, 0), (37, 0), (38, 0), (39, 0), (3, 2), (25, 2), (2, 0), (19, 0), (20, 0), (21, 0), (22, 0), (23, 0), (24, 0), (13, 0), (14, 0), (15, 0), (16, 0), (17, 0), (18, 0), (1, 1), (7, 1), (31, 1), (32, 1), (33, 1), (34, 1), (35, 1), (36, 1), (37, 1), (38, 1), (39, 1), (3, 3), (25, 3), (2, 1), (19, 1), (20, 1), (21, 1), (22, 1), (23, 1), (24, 1), (13, 1), (14, 1), (15, 1), (16, 1), (17, 1), (18, 1)] : List (Nat × Nat)), _
    refine List.forall_mem_cons.mpr ⟨r0, ?_⟩
    refine List.forall_mem_cons.mpr ⟨r1, ?_⟩
    refine List.forall_mem_cons.mpr ⟨r2, ?_⟩
    refine List.forall_mem_cons.mpr ⟨r3, ?_⟩
    refine List.forall_mem_cons.mpr ⟨r4, ?_⟩
    refine List.forall_mem_cons.mpr ⟨r5, ?_⟩
    refine List.forall_mem_cons.mpr ⟨r6, ?_⟩
    refine List.forall_mem_cons.mpr ⟨r7, ?_⟩
    refine List.forall_mem_cons.mpr ⟨r8, ?_⟩
    refine List.forall_mem_cons.mpr ⟨r9, ?_⟩
    refine List.forall_mem_cons.mpr ⟨r10, ?_⟩
    refine List.forall_mem_cons.mpr ⟨r11, ?_⟩
    refine List.forall_mem_cons.mpr ⟨r12, ?_⟩
    refine List.forall_mem_cons.mpr ⟨r13, ?_⟩
    refine List.forall_mem_cons.mpr ⟨r14, ?_⟩
    refine List.forall_mem_cons.mpr ⟨r15, ?_⟩
    refine List.forall_mem_cons.mpr ⟨r16, ?_⟩
    refine List.forall_mem_cons.mpr ⟨r17, ?_⟩
    refine List.forall_mem_cons.mpr ⟨r18, ?_⟩
    refine List.forall_mem_cons.mpr ⟨r19, ?_⟩
    refine List.forall_mem_cons.mpr ⟨r20, ?_⟩
    refine List.forall_mem_cons.mpr ⟨r21, ?_⟩
    refine List.forall_mem_cons.mpr ⟨r22, ?_⟩
    refine List.forall_mem_cons.mpr ⟨r23, ?_⟩
    refine List.forall_mem_cons.mpr ⟨r24, ?_⟩
    refine List.forall_mem_cons.mpr ⟨r25, ?_⟩
    refine List.forall_mem_cons.mpr ⟨r26, ?_⟩
    refine List.forall_mem_cons.mpr ⟨r27, ?_⟩
    refine List.forall_mem_cons.mpr ⟨r28, ?_⟩
    refine List.forall_mem_cons.mpr ⟨r29, ?_⟩
    refine List.forall_mem_cons.mpr ⟨r30, ?_⟩
    refine List.forall_mem_cons.mpr ⟨r31, ?_⟩
    refine List.forall_mem_cons.mpr ⟨r32, ?_⟩
    refine List.forall_mem_cons.mpr ⟨r33, ?_⟩
    refine List.forall_mem_cons.mpr ⟨r34, ?_⟩
    refine List.forall_mem_cons.mpr ⟨r35, ?_⟩
    refine List.forall_mem_cons.mpr ⟨r36, ?_⟩
    refine List.forall_mem_cons.mpr ⟨r37, ?_⟩
    refine List.forall_mem_cons.mpr ⟨r38, ?_⟩
    refine List.forall_mem_cons.mpr ⟨r39, ?_⟩
    refine List.forall_mem_cons.mpr ⟨r40, ?_⟩
    refine List.forall_mem_cons.mpr ⟨r41, ?_⟩
    refine List.forall_mem_cons.mpr ⟨r42, ?_⟩
    refine List.forall_mem_cons.mpr ⟨r43, ?_⟩
    refine List.forall_mem_cons.mpr ⟨r44, ?_⟩
    refine List.forall_mem_cons.mpr ⟨r45, ?_⟩
    refine List.forall_mem_cons.mpr ⟨r46, ?_⟩
    refine List.forall_mem_cons.mpr ⟨r47, ?_⟩
    refine List.forall_mem_cons.mpr ⟨r48, ?_⟩
    refine List.forall_mem_cons.mpr ⟨r49, ?_⟩
    refine List.forall_mem_cons.mpr ⟨r50, ?_⟩
    refine List.forall_mem_cons.mpr ⟨r51, ?_⟩
    refine List.forall_mem_cons.mpr ⟨r52, ?_⟩
    refine List.forall_mem_cons.mpr ⟨r53, ?_⟩
    refine List.forall_mem_cons.mpr ⟨r54, ?_⟩
    refine List.forall_mem_cons.mpr ⟨r55, ?_⟩
    refine List.forall_mem_cons.mpr ⟨r56, ?_⟩
    refine List.forall_mem_cons.mpr ⟨r57, ?_⟩
    refine List.forall_mem_cons.mpr ⟨r58, ?_⟩
    refine List.forall_mem_cons.mpr ⟨r59, ?_⟩
    refine List.forall_mem_cons.mpr ⟨r60, ?_⟩
    refine List.forall_mem_cons.mpr ⟨r61, ?_⟩
    refine List.forall_mem_cons.mpr ⟨r62, ?_⟩
    refine List.forall_mem_cons.mpr ⟨r63, ?_⟩
    refine List.forall_mem_cons.mpr ⟨r64, ?_⟩
    refine List.forall_mem_cons.mpr ⟨r65, ?_⟩
    refine List.forall_mem_cons.mpr ⟨r66, ?_⟩
    refine List.forall_mem_cons.mpr ⟨r67, ?_⟩
    refine List.forall_mem_cons.mpr ⟨r68, ?_⟩
    refine List.forall_mem_cons.mpr ⟨r69, ?_⟩
    refine List.forall_mem_cons.mpr ⟨r70, ?_⟩
    refine List.forall_mem_cons.mpr ⟨r71, ?_⟩
    refine List.forall_mem_cons.mpr ⟨r72, ?_⟩
    refine List.forall_mem_cons.mpr ⟨r73, ?_⟩
    refine List.forall_mem_cons.mpr ⟨r74, ?_⟩
    refine List.forall_mem_cons.mpr ⟨r75, ?_⟩
    refine List.forall_mem_cons.mpr ⟨r76, ?_⟩
    refine List.forall_mem_cons.mpr ⟨r77, ?_⟩
    refine List.forall_mem_cons.mpr ⟨r78, ?_⟩
    refine List.forall_mem_cons.mpr ⟨r79, ?_⟩
    refine List.forall_mem_cons.mpr ⟨r80, ?_⟩
    refine List.forall_mem_cons.mpr ⟨r81, ?_⟩
    refine List.forall_mem_cons.mpr ⟨r82, ?_⟩
    refine List.forall_mem_cons.mpr ⟨r83, ?_⟩
    refine List.forall_mem_cons.mpr ⟨r84, ?_⟩
    refine List.forall_mem_cons.mpr ⟨r85, ?_⟩
    refine List.forall_mem_cons.mpr ⟨r86, ?_⟩
    refine List.forall_mem_cons.mpr ⟨r87, ?_⟩
    refine List.forall_mem_cons.mpr ⟨r88, ?_⟩
    refine List.forall_mem_cons.mpr ⟨r89, ?_⟩
    refine List.forall_mem_cons.mpr ⟨r90, ?_⟩
    refine List.forall_mem_cons.mpr ⟨r91, ?_⟩
    refine List.forall_mem_cons.mpr ⟨r92, ?_⟩
    refine List.forall_mem_cons.mpr ⟨r93, ?_⟩
    refine List.forall_mem_cons.mpr ⟨r94, ?_⟩
    refine List.forall_mem_cons.mpr ⟨r95, ?_⟩
    refine List.forall_mem_cons.mpr ⟨r96, ?_⟩
    refine List.forall_mem_cons.mpr ⟨r97, ?_⟩
    refine List.forall_mem_cons.mpr ⟨r98, ?_⟩
    refine List.forall_mem_cons.mpr ⟨r99, ?_⟩
    refine List.forall_mem_cons.mpr ⟨r100, ?_⟩
    exact fun _ h => absurd h List.not_mem_nil
  intro k q hk
  obtain ⟨p, h1, rfl⟩ := wl_inv hk
  exact all p (List.mem_of_getElem? h1)
/-! addresses of new cells: apart -/
theorem adr_at {W : va_W} {n : Nat} {f : Nat → Nat} (hm : W.map Prod.fst = (List.range n).map f) {i : Nat} (hi : i < n) : ∃ e, W[i]? = some (f i, e) := by
  have h : (W.map Prod.fst)[i]? = some (f i) := by rw [hm, List.getElem?_map, List.getElem?_range hi]; rfl
  rw [List.getElem?_map] at h
  cases hw : W[i]? with
  | none => rw [hw] at h; cases h
  | some x =>
    rw [hw] at h
    obtain ⟨a, b⟩ := x
    have h1 : a = f i := Option.some.inj h
    subst h1
    exact ⟨b, rfl⟩
theorem RD_of {A : Nat → Prop} {W : va_W} {n : Nat} {f : Nat → Nat} {PL : List (Nat × Nat)} {ix : Nat → Nat → Nat} (hD : va_D A W) (hm : W.map Prod.fst = (List.range n).map f) (hlt : ∀ p ∈ PL, ix p.1 p.2 < n) (hnd : PL.Nodup) (hinj : ∀ p ∈ PL, ∀ q ∈ PL, ix p.1 p.2 = ix q.1 q.2 → p = q) : RD (rW (fun k i => f (ix k i)) PL) (fun k i => f (ix k i)) PL ∧ ∀ x, rW (fun k i => f (ix k i)) PL x → A x := by
  refine ⟨⟨hnd, fun p hp q hq e => ?_, fun p hp => ⟨p, hp, rfl⟩⟩, fun x hx => ?_⟩
  · obtain ⟨e1, h1⟩ := adr_at hm (hlt p hp)
    obtain ⟨e2, h2⟩ := adr_at hm (hlt q hq)
    exact hinj p hp q hq (hD.1 _ _ _ _ h1 h2 e)
  · obtain ⟨p, hp, rfl⟩ := hx
    obtain ⟨e1, h1⟩ := adr_at hm (hlt p hp)
    exact hD.2 _ _ h1
set_option maxRecDepth 100000 in
theorem adrC (ca : Nat → ClassId) (q b : Nat) (g f : Nat → Nat) : (WC ca q b g f).map Prod.fst = (List.range 101).map (FC q b g f) := by
  simp only [WC, cl_X10, cl_X8, cl_X6, cl_X0, cl_X3, cl_X1, cl_X7, cl_X2, cl_X4, List.nil_append, List.cons_append, List.append_assoc, List.map_cons, List.map_nil]
  rfl
theorem PLC_nd : PLC.Nodup := by decide +kernel
theorem ixC_lt : ∀ p ∈ PLC, ixC p.1 p.2 < 101 := by decide +kernel
theorem ixC_inj : ∀ p ∈ PLC, ∀ q ∈ PLC, ixC p.1 p.2 = ixC q.1 q.2 → p = q := by decide +kernel
theorem PLC_kinds : ∀ p ∈ PLC, ¬ p.1 = 5 ∧ ¬ p.1 = 29 ∧ p.1 ≠ 60 ∧ p.1 ≠ 61 := by decide +kernel
theorem PLC_bM : ∀ k, k < 62 → ∀ i, i < bM k → (k, i) ∈ PLC := by decide +kernel
theorem bM_big : ∀ k, bM k ≤ 17 ∧ (62 ≤ k → bM k = 0) := by
  intro k
  unfold bM
  split <;> first | exact ⟨by omega, fun _ => rfl⟩ | exact ⟨by omega, fun h => absurd h (by omega)⟩
theorem PLC_in (k i : Nat) (h : i < bM k) : (k, i) ∈ PLC := by
  obtain ⟨h1, h2⟩ := bM_big k
  by_cases hk : k < 62
  · exact PLC_bM k hk i h
  · have := h2 (by omega); omega
