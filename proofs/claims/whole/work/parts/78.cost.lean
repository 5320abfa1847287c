/-! the model: lays costs; cost -/
theorem mid_ok {N : Nat} {T : Trm} {S : Prs} {ld : Nat → Nat} {M : Mx} {w0 w : Mem} {fl t u v : Nat} {B : Nat → Nat → Nat → Prop} (rc : Mem → Int32 → Int32 → Option (Mem × Int32)) (kk : Mem → Int32 → Option (Mem × Int32)) (hn : tN T ≤ 24) (ht : t < tN T) (hu : u < tN T) (hv : v < tN T) (h : PS T S ld M w0 w fl (fun _ _ => True) B) : ∃ w' fl', (∀ X, CL w 64 (tN T) X → (∀ a b, a < tN T → b < tN T → fr (X a b)) → f_X9_lessens_194_128_s1 rc kk N w (nI fl) (nI v) (nI t) (nI u) (lI (mpl (X t v) (X v u))) = rc w' (nI fl') (nI (u + 1))) ∧ PS T S ld M w0 w' fl' (fun _ _ => True) (fun a b c => B a b c ∨ (a = v ∧ b = t ∧ c = u)) := by
  obtain ⟨X, h1, h2, h3, h4, h5, h6, h7⟩ := h
  have huq : ∀ Y, CL w 64 (tN T) Y → (∀ a b, a < tN T → b < tN T → fr (Y a b)) → mpl (Y t v) (Y v u) = mpl (X t v) (X v u) := by
    intro Y hY hYf
    have key : ∀ a b, a < tN T → b < tN T → Y a b = X a b := fun a b ha hb => by
      have e1 := h2 a b ha hb
      have e2 := hY a b ha hb
      have f1 := h3.1 a b ha hb
      have f2 := hYf a b ha hb
      unfold fr at f1 f2
      rw [e1] at e2
      exact ((lI_inj (by omega) (by omega)).mp e2).symm
    rw [key t v ht hv, key v u hv hu]
  have hic := mpl_ic h3 ht hu hv
  have hsf := mpl_fr (X t v) (X v u)
  have hxf := h3.1 t u ht hu
  have e64 := h2 t u ht hu
  have hfb : mpl (X t v) (X v u) < 9000000000000000000 ∧ X t u < 9000000000000000000 := by unfold fr at hsf hxf; omega
  generalize hse : mpl (X t v) (X v u) = s at *
  have hgo : f_X9_lessens_194_128_s1 rc kk N w (nI fl) (nI v) (nI t) (nI u) (lI s) = if X t u ≤ s then rc w (nI fl) (nI (u + 1)) else rc (sL w 64 0 (24 * t + u) (lI s)) (nI 1) (nI (u + 1)) := by
    have hi : inb (nI (24 * t + u)) 576 = true := inb_t (by omega) (by omega)
    have hcl : (nI (24 * t + u)).toNatClampNeg = 24 * t + u := cl_t (by omega)
    rw [f_X9_lessens_194_128_s1]
    simp only [f_X9_pair, Option.bind_some, li24, li1, q_mul, q_add, hi, hcl, e64, ↓reduceIte]
    by_cases z : X t u ≤ s
    · rw [if_pos (by rw [cmp_ge hfb.1 hfb.2]; exact z), if_pos z]
    · rw [if_neg (by rw [cmp_ge hfb.1 hfb.2]; exact z), if_neg z]
  by_cases z : X t u ≤ s
  · refine ⟨w, fl, fun Y hY hYf => by rw [huq Y hY hYf, hgo, if_pos z], X, h1, h2, h3, h4, h5, fun hz => ⟨(h6 hz).1, (h6 hz).2.1, fun a b c ha hb hc hab => ?_⟩, h7⟩
    rcases hab with hab | ⟨rfl, rfl, rfl⟩
    · exact (h6 hz).2.2 a b c ha hb hc hab
    · have hXM := (h6 hz).1
      rw [← hXM _ _ ht hv, ← hXM _ _ hv hu, ← hXM _ _ ht hu, hse]; exact z
  · refine ⟨sL w 64 0 (24 * t + u) (lI s), 1, fun Y hY hYf => by rw [huq Y hY hYf, hgo, if_neg z], up2 X t u s, h1.tr EqL.sl, fun a b ha hb => ?_, h3.up ht hu hsf (by omega) hic.1 hic.2, fun a b ha hb => ?_, by omega, fun hz => by omega, fun _ => ⟨t, u, ht, hu, ?_⟩⟩
    · rw [gL_sL']
      unfold up2
      by_cases e : a = t ∧ b = u
      · rw [if_pos (by omega), if_pos e]
      · rw [if_neg (by omega), if_neg e]; exact h2 a b ha hb
    · unfold up2
      have := h4 a b ha hb
      split
      · rename_i e
        rw [e.1, e.2] at this ⊢
        omega
      · exact this
    · have := h4 t u ht hu
      unfold up2
      rw [if_pos ⟨rfl, rfl⟩]; omega
theorem ways_ok {N : Nat} {T : Trm} {S : Prs} {ld : Nat → Nat} {M : Mx} {w0 : Mem} (hN : 30 < N) (kk : Mem → Int32 → Option (Mem × Int32)) (hT : MT w0 T) {fl : Nat} {w : Mem} (h : PS T S ld M w0 w fl (fun _ _ => True) (fun _ _ _ => False)) : ∃ w' fl', lp_X9_lessens_107 kk N N w (nI fl) (nI 0) = kk w' (nI fl') ∧ PS T S ld M w0 w' fl' (fun _ _ => True) (fun _ _ _ => True) := by
  have hn := hT.1
  have key := lpc (α := Mem × Int32) (tN T) (fun fu a v => lp_X9_lessens_107 kk N fu a.1 a.2 v) (fun a => kk a.1 a.2) (fun q a => ∃ fl, a.2 = nI fl ∧ PS T S ld M w0 a.1 fl (fun _ _ => True) (fun x _ _ => x < q)) ?_ ?_ 0 N (w, nI fl) (by omega) (by omega) ⟨fl, rfl, h.ext (fun _ _ _ _ z => z) (fun _ _ _ _ _ _ z => by omega)⟩
  · obtain ⟨a, ⟨fl, a1, a2⟩, a3⟩ := key
    exact ⟨a.1, fl, by rw [← a1]; exact a3, a2.ext (fun _ _ _ _ z => z) (fun a b c ha _ _ _ => ha)⟩
  · intro fu a ⟨fl, a1, a2⟩
    have e27 : gF a.1 9 27 0 = nI (tN T) := by obtain ⟨X, hE, -⟩ := a2; exact (hT.eq hE).2.2.1
    show lp_X9_lessens_107 kk N (fu + 1) a.1 a.2 (nI (tN T)) = kk a.1 a.2
    rw [lp_X9_lessens_107, e27, if_pos (of_eq_true (le_tt (by omega) (by omega) (Nat.le_refl _)))]
  · intro fu v a hv ⟨fl, a1, a2⟩
    have e27 : gF a.1 9 27 0 = nI (tN T) := by obtain ⟨X, hE, -⟩ := a2; exact (hT.eq hE).2.2.1
    have key2 := lpc (α := Mem × Int32) (tN T) (fun f2 b x => lp_X9_lessens_117 (fun (w_4 : Mem) (u1_4 : Int32) => (f_X9_lessens_240_107 (fun (w : Mem) (v1 : Int32) (v2 : Int32) => lp_X9_lessens_107 kk N fu w v1 v2) kk N w_4 u1_4 (nI v))) N (nI v) f2 b.1 b.2 x) (fun b => lp_X9_lessens_107 kk N fu b.1 b.2 (nI (v + 1))) (fun t b => ∃ fl, b.2 = nI fl ∧ PS T S ld M w0 b.1 fl (fun _ _ => True) (fun x y _ => x < v ∨ (x = v ∧ y < t))) ?_ ?_ 0 N a (by omega) (by omega) ⟨fl, a1, a2.ext (fun _ _ _ _ z => z) (fun x y c _ _ _ z => by omega)⟩
    · obtain ⟨b, ⟨fl2, b1, b2⟩, b3⟩ := key2
      refine ⟨b, ⟨fl2, b1, b2.ext (fun _ _ _ _ z => z) (fun x y c hx hy _ z => by omega)⟩, ?_⟩
      show lp_X9_lessens_107 kk N (fu + 1) a.1 a.2 (nI v) = lp_X9_lessens_107 kk N fu b.1 b.2 (nI (v + 1))
      rw [lp_X9_lessens_107, e27, if_neg (of_eq_false (le_tf (by omega) (by omega) hv)), li0]
      exact b3
    · intro f2 b ⟨fl2, b1, b2⟩
      have e27b : gF b.1 9 27 0 = nI (tN T) := by obtain ⟨X, hE, -⟩ := b2; exact (hT.eq hE).2.2.1
      show lp_X9_lessens_117 (fun (w_4 : Mem) (u1_4 : Int32) => (f_X9_lessens_240_107 (fun (w : Mem) (v1 : Int32) (v2 : Int32) => lp_X9_lessens_107 kk N fu w v1 v2) kk N w_4 u1_4 (nI v))) N (nI v) (f2 + 1) b.1 b.2 (nI (tN T)) = lp_X9_lessens_107 kk N fu b.1 b.2 (nI (v + 1))
      rw [lp_X9_lessens_117, e27b, if_pos (of_eq_true (le_tt (by omega) (by omega) (Nat.le_refl _))), f_X9_lessens_240_107, li1, q_add]
    · intro f2 t b ht ⟨fl2, b1, b2⟩
      have e27b : gF b.1 9 27 0 = nI (tN T) := by obtain ⟨X, hE, -⟩ := b2; exact (hT.eq hE).2.2.1
      generalize hk2 : (fun (w_4 : Mem) (u1_4 : Int32) => (f_X9_lessens_240_107 (fun (w : Mem) (v1 : Int32) (v2 : Int32) => lp_X9_lessens_107 kk N fu w v1 v2) kk N w_4 u1_4 (nI v))) = k2
      have key3 := lpc (α := Mem × Int32) (tN T) (fun f3 c x => lp_X9_lessens_128 (fun (w_5 : Mem) (u1_5 : Int32) => (f_X9_lessens_234_117 (fun (w : Mem) (v1 : Int32) (v3 : Int32) => lp_X9_lessens_117 k2 N (nI v) f2 w v1 v3) k2 N w_5 u1_5 (nI v) (nI t))) N (nI v) (nI t) f3 c.1 c.2 x) (fun c => lp_X9_lessens_117 k2 N (nI v) f2 c.1 c.2 (nI (t + 1))) (fun u c => ∃ fl, c.2 = nI fl ∧ PS T S ld M w0 c.1 fl (fun _ _ => True) (fun x y z => x < v ∨ (x = v ∧ (y < t ∨ (y = t ∧ z < u))))) ?_ ?_ 0 N b (by omega) (by omega) ⟨fl2, b1, b2.ext (fun _ _ _ _ z => z) (fun x y c _ _ _ z => by omega)⟩
      · obtain ⟨c, ⟨fl3, c1, c2⟩, c3⟩ := key3
        refine ⟨c, ⟨fl3, c1, c2.ext (fun _ _ _ _ z => z) (fun x y c hx hy hc z => by omega)⟩, ?_⟩
        show lp_X9_lessens_117 k2 N (nI v) (f2 + 1) b.1 b.2 (nI t) = lp_X9_lessens_117 k2 N (nI v) f2 c.1 c.2 (nI (t + 1))
        rw [lp_X9_lessens_117, e27b, if_neg (of_eq_false (le_tf (by omega) (by omega) ht)), li0]
        exact c3
      · intro f3 c ⟨fl3, c1, c2⟩
        have e27c : gF c.1 9 27 0 = nI (tN T) := by obtain ⟨X, hE, -⟩ := c2; exact (hT.eq hE).2.2.1
        show lp_X9_lessens_128 (fun (w_5 : Mem) (u1_5 : Int32) => (f_X9_lessens_234_117 (fun (w : Mem) (v1 : Int32) (v3 : Int32) => lp_X9_lessens_117 k2 N (nI v) f2 w v1 v3) k2 N w_5 u1_5 (nI v) (nI t))) N (nI v) (nI t) (f3 + 1) c.1 c.2 (nI (tN T)) = lp_X9_lessens_117 k2 N (nI v) f2 c.1 c.2 (nI (t + 1))
        rw [lp_X9_lessens_128, e27c, if_pos (of_eq_true (le_tt (by omega) (by omega) (Nat.le_refl _))), f_X9_lessens_234_117, li1, q_add]
      · intro f3 u c hu ⟨fl3, c1, c2⟩
        have e27c : gF c.1 9 27 0 = nI (tN T) := by obtain ⟨X, hE, -⟩ := c2; exact (hT.eq hE).2.2.1
        obtain ⟨X0, hE0, hC0, hI0, -⟩ := id c2
        generalize hk3 : (fun (w_5 : Mem) (u1_5 : Int32) => (f_X9_lessens_234_117 (fun (w : Mem) (v1 : Int32) (v3 : Int32) => lp_X9_lessens_117 k2 N (nI v) f2 w v1 v3) k2 N w_5 u1_5 (nI v) (nI t))) = k3
        obtain ⟨w', fl', d1, d2⟩ := mid_ok (N := N) (v := v) (fun (w : Mem) (v1 : Int32) (v4 : Int32) => lp_X9_lessens_128 k3 N (nI v) (nI t) f3 w v1 v4) k3 hn ht hu hv c2
        have d1' := d1 X0 hC0 hI0.1
        refine ⟨(w', nI fl'), ⟨fl', rfl, d2.ext (fun _ _ _ _ z => z) (fun x y c _ _ _ z => by omega)⟩, ?_⟩
        show lp_X9_lessens_128 k3 N (nI v) (nI t) (f3 + 1) c.1 c.2 (nI u) = lp_X9_lessens_128 k3 N (nI v) (nI t) f3 w' (nI fl') (nI (u + 1))
        have f1 := hI0.1 t v ht hv
        have f2 := hI0.1 v u hv hu
        have g1 := hC0 t v ht hv
        have g2 := hC0 v u hv hu
        unfold fr at f1 f2
        have hi1 : inb (nI (24 * t + v)) 576 = true := inb_t (by omega) (by omega)
        have hi2 : inb (nI (24 * v + u)) 576 = true := inb_t (by omega) (by omega)
        have hc1 : (nI (24 * t + v)).toNatClampNeg = 24 * t + v := cl_t (by omega)
        have hc2 : (nI (24 * v + u)).toNatClampNeg = 24 * v + u := cl_t (by omega)
        rw [lp_X9_lessens_128, e27c, if_neg (of_eq_false (le_tf (by omega) (by omega) hu)), c1]
        simp only [f_X9_pair, Option.bind_some, li24, q_mul, q_add, hi1, hi2, hc1, hc2, g1, g2, lF, ↓reduceIte]
        rw [← d1']
        unfold mpl
        by_cases z1 : 4000000000 ≤ X0 t v
        · rw [if_pos (by rw [cmp_ge (by omega) (by omega)]; exact z1), if_neg (by omega)]
        · rw [if_neg (by rw [cmp_ge (by omega) (by omega)]; exact z1)]
          by_cases z2 : X0 v u < 4000000000
          · rw [if_pos (by rw [cmp_lt (by omega) (by omega)]; exact z2), lI_add, held_ok (by omega), Option.bind_some, if_pos (by omega)]
          · rw [if_neg (by rw [cmp_lt (by omega) (by omega)]; exact z2), if_neg (by omega)]
