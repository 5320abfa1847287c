/-! the model: lessens -/
theorem msum_ext {T : Trm} {C D : Mx} {t u : Nat} : ∀ q, (∀ k, k < q → C (tP T t k) (tP T u k) = D (tP T t k) (tP T u k)) → msum T C t u q = msum T D t u q
  | 0, _ => rfl
  | q + 1, h => by rw [msum, msum, msum_ext q (fun k hk => h k (by omega)), h q (by omega)]
theorem sd_ext {T : Trm} {S : Prs} {C D : Mx} (hT : TOK T) {t u : Nat} (ht : t < tN T) (hu : u < tN T) (h : ∀ a b, a < tN T → b < tN T → C a b = D a b) : sd T S C t u = sd T S D t u := by
  unfold sd sP
  by_cases z : tF T t = tF T u
  · rw [if_pos z, if_pos z, msum_ext _ (fun k hk => h _ _ (parts_lt hT ht hu z hk).1 (parts_lt hT ht hu z hk).2)]
  · rw [if_neg z, if_neg z]
/-- in the midst of a turn that began with M -/
def PS (T : Trm) (S : Prs) (ld : Nat → Nat) (M : Mx) (w0 w : Mem) (fl : Nat) (A : Nat → Nat → Prop) (B : Nat → Nat → Nat → Prop) : Prop :=
  ∃ X, EqL w0 w ∧ CL w 64 (tN T) X ∧ IC T S ld X ∧ Und (tN T) X M ∧ fl < 2 ∧ (fl = 0 → (∀ t u, t < tN T → u < tN T → X t u = M t u) ∧ (∀ a b, a < tN T → b < tN T → A a b → gL w 65 0 (24 * a + b) = lI (sd T S M a b) ∧ M a b ≤ sd T S M a b) ∧ ∀ a b c, a < tN T → b < tN T → c < tN T → B a b c → M b c ≤ mpl (M b a) (M a c)) ∧ (fl = 1 → ∃ t u, t < tN T ∧ u < tN T ∧ X t u < M t u)
theorem PS.ext {T : Trm} {S : Prs} {ld : Nat → Nat} {M : Mx} {w0 w : Mem} {fl : Nat} {A A' : Nat → Nat → Prop} {B B' : Nat → Nat → Nat → Prop} (h : PS T S ld M w0 w fl A B) (hA : ∀ a b, a < tN T → b < tN T → A' a b → A a b) (hB : ∀ a b c, a < tN T → b < tN T → c < tN T → B' a b c → B a b c) : PS T S ld M w0 w fl A' B' := by
  obtain ⟨X, h1, h2, h3, h4, h5, h6, h7⟩ := h
  exact ⟨X, h1, h2, h3, h4, h5, fun z => ⟨(h6 z).1, fun a b ha hb hab => (h6 z).2.1 a b ha hb (hA a b ha hb hab), fun a b c ha hb hc hab => (h6 z).2.2 a b c ha hb hc (hB a b c ha hb hc hab)⟩, h7⟩
theorem fl01 {fl : Nat} (h : fl < 2) : fl = 0 ∨ fl = 1 := by omega
/-- a pair's side -/
theorem s3_ok {N : Nat} {T : Trm} {S : Prs} {ld : Nat → Nat} {M : Mx} {w0 w : Mem} {fl t u s : Nat} {A : Nat → Nat → Prop} {B : Nat → Nat → Nat → Prop} (rc : Mem → Int32 → Int32 → Option (Mem × Int32)) (kk : Mem → Int32 → Option (Mem × Int32)) (hT : TOK T) (hn : tN T ≤ 24) (hL : LDC T S ld) (ht : t < tN T) (hu : u < tN T) (hB : ∀ a b c, ¬ B a b c) (h : PS T S ld M w0 w fl A B) (hs : ∀ X, CL w 64 (tN T) X → (∀ a b, a < tN T → b < tN T → fr (X a b)) → s = sd T S X t u) : ∃ w' fl', f_X9_lessens_46_14_s3 rc kk N w (nI fl) (nI t) (nI u) (lI s) (nI (24 * t + u)) = rc w' (nI fl') (nI (u + 1)) ∧ PS T S ld M w0 w' fl' (fun a b => A a b ∨ (a = t ∧ b = u)) B := by
  obtain ⟨X, h1, h2, h3, h4, h5, h6, h7⟩ := h
  have es := hs X h2 h3.1
  have hic := sd_ic hT hL h3 ht hu
  rw [← es] at hic
  have hsf := sd_fr T S X t u
  rw [← es] at hsf
  have hxf := h3.1 t u ht hu
  have e64 := h2 t u ht hu
  have g65 : gL (sL w 65 0 (24 * t + u) (lI s)) 65 0 (24 * t + u) = lI s := by rw [gL_sL', if_pos ⟨rfl, rfl, rfl⟩]
  have g64 : gL (sL w 65 0 (24 * t + u) (lI s)) 64 0 (24 * t + u) = lI (X t u) := by rw [gL_sL', if_neg (by omega)]; exact e64
  have hCL : CL (sL w 65 0 (24 * t + u) (lI s)) 64 (tN T) X := fun a b ha hb => by rw [gL_sL', if_neg (by omega)]; exact h2 a b ha hb
  have hfb : s < 9000000000000000000 ∧ X t u < 9000000000000000000 := by unfold fr at hsf hxf; omega
  have hgo : f_X9_lessens_46_14_s3 rc kk N w (nI fl) (nI t) (nI u) (lI s) (nI (24 * t + u)) = if X t u ≤ s then rc (sL w 65 0 (24 * t + u) (lI s)) (nI fl) (nI (u + 1)) else rc (sL (sL w 65 0 (24 * t + u) (lI s)) 64 0 (24 * t + u) (lI s)) (nI 1) (nI (u + 1)) := by
    have hi : inb (nI (24 * t + u)) 576 = true := inb_t (by omega) (by omega)
    have hcl : (nI (24 * t + u)).toNatClampNeg = 24 * t + u := cl_t (by omega)
    rw [f_X9_lessens_46_14_s3]
    simp only [f_X9_pair, Option.bind_some, li24, li1, q_mul, q_add, hi, hcl, g65, g64, ↓reduceIte]
    by_cases z : X t u ≤ s
    · rw [if_pos (by rw [cmp_ge hfb.1 hfb.2]; exact z), if_pos z]
    · rw [if_neg (by rw [cmp_ge hfb.1 hfb.2]; exact z), if_neg z]
  rw [hgo]
  by_cases z : X t u ≤ s
  · rw [if_pos z]
    refine ⟨_, fl, rfl, X, h1.tr EqL.sl, hCL, h3, h4, h5, fun hz => ⟨(h6 hz).1, fun a b ha hb hab => ?_, fun a b c _ _ _ q => absurd q (hB a b c)⟩, h7⟩
    have hXM := (h6 hz).1
    by_cases e : a = t ∧ b = u
    · obtain ⟨rfl, rfl⟩ := e
      rw [g65, ← sd_ext hT ha hb hXM, ← es, ← hXM a b ha hb]
      exact ⟨rfl, z⟩
    · have hA := hab.resolve_right e
      rw [gL_sL', if_neg (by omega)]
      exact (h6 hz).2.1 a b ha hb hA
  · rw [if_neg z]
    refine ⟨_, 1, rfl, up2 X t u s, (h1.tr EqL.sl).tr EqL.sl, fun a b ha hb => ?_, h3.up ht hu hsf (by omega) hic.1 hic.2, fun a b ha hb => ?_, by omega, fun hz => by omega, fun _ => ⟨t, u, ht, hu, ?_⟩⟩
    · rw [gL_sL']
      unfold up2
      by_cases e : a = t ∧ b = u
      · rw [if_pos (by omega), if_pos e]
      · rw [if_neg (by omega), if_neg e]; exact hCL a b ha hb
    · unfold up2
      have := h4 a b ha hb
      split
      · rename_i e
        rw [e.1, e.2] at this ⊢
        omega
      · exact this
    · have := h4 t u ht hu
      unfold up2
      rw [if_pos ⟨rfl, rfl⟩]; omega
theorem sides_ok {N : Nat} {T : Trm} {S : Prs} {ld : Nat → Nat} {M : Mx} {w0 : Mem} (hN : 30 < N) (kk : Mem → Int32 → Option (Mem × Int32)) (hT : MT w0 T) (hSS : MSS w0 (tN T) S) (hL : LDC T S ld) {w : Mem} (h : PS T S ld M w0 w 0 (fun _ _ => False) (fun _ _ _ => False)) : ∃ w' fl, lp_X9_lessens_4 kk N N w (nI 0) (nI 0) = kk w' (nI fl) ∧ PS T S ld M w0 w' fl (fun _ _ => True) (fun _ _ _ => False) := by
  have hn := hT.1
  have key := lpc (α := Mem × Int32) (tN T) (fun fu a v => lp_X9_lessens_4 kk N fu a.1 a.2 v) (fun a => kk a.1 a.2) (fun q a => ∃ fl, a.2 = nI fl ∧ PS T S ld M w0 a.1 fl (fun x _ => x < q) (fun _ _ _ => False)) ?_ ?_ 0 N (w, nI 0) (by omega) (by omega) ⟨0, rfl, h.ext (fun a b _ _ hab => by omega) (fun _ _ _ _ _ _ z => z)⟩
  · obtain ⟨a, ⟨fl, a1, a2⟩, a3⟩ := key
    exact ⟨a.1, fl, by rw [← a1]; exact a3, a2.ext (fun a b ha _ _ => ha) (fun _ _ _ _ _ _ z => z)⟩
  · intro fu a ⟨fl, a1, a2⟩
    obtain ⟨X, hE, -⟩ := a2
    have e27 := (hT.eq hE).2.2.1
    show lp_X9_lessens_4 kk N (fu + 1) a.1 a.2 (nI (tN T)) = kk a.1 a.2
    rw [lp_X9_lessens_4]
    simp (disch := omega) only [↓lm1, ↓lm2, eq_n1, eq_n2, n1_eq, n2_eq, n1_n2, n2_n1, n1_lt, n2_lt, n1_le, lt_n1, lt_n2, inb_t, cl_t, le_tt, le_tf, lt_tt, lt_tf, eq_tt, eq_tf, q_add, q_mul, li0, li1, li2, li3, li4, li5, li6, li7, li8, li12, li16, li24, li48, li500, gF_sA, gA_sF, gF_sF, gR_sA, gR_sF, gL_sA, gL_sF, gA_sA, shl_t, or_t, and_t, sbit_t, ubit_t, b01_0, b01_1, Option.bind_some, ↓reduceIte, eq_self, ne_eq, not_true_eq_false, Bool.false_eq_true, not_false_eq_true, true_and, and_true, false_and, and_false, if_pos, if_neg, e27]
  · intro fu t a ht ⟨fl, a1, a2⟩
    have e27 : gF a.1 9 27 0 = nI (tN T) := by obtain ⟨X, hE, -⟩ := a2; exact (hT.eq hE).2.2.1
    have key2 := lpc (α := Mem × Int32) (tN T) (fun f2 b v => lp_X9_lessens_14 (fun (w_26 : Mem) (u1_26 : Int32) => (f_X9_lessens_99_4 (fun (w : Mem) (v1 : Int32) (v2 : Int32) => lp_X9_lessens_4 kk N fu w v1 v2) kk N w_26 u1_26 (nI t))) N (nI t) f2 b.1 b.2 v) (fun b => lp_X9_lessens_4 kk N fu b.1 b.2 (nI (t + 1))) (fun u b => ∃ fl, b.2 = nI fl ∧ PS T S ld M w0 b.1 fl (fun x y => x < t ∨ (x = t ∧ y < u)) (fun _ _ _ => False)) ?_ ?_ 0 N a (by omega) (by omega) ⟨fl, a1, a2.ext (fun x y _ _ hxy => by omega) (fun _ _ _ _ _ _ z => z)⟩
    · obtain ⟨b, ⟨fl2, b1, b2⟩, b3⟩ := key2
      refine ⟨b, ⟨fl2, b1, b2.ext (fun x y hx hy hxy => by omega) (fun _ _ _ _ _ _ z => z)⟩, ?_⟩
      show lp_X9_lessens_4 kk N (fu + 1) a.1 a.2 (nI t) = lp_X9_lessens_4 kk N fu b.1 b.2 (nI (t + 1))
      rw [lp_X9_lessens_4, e27, if_neg (of_eq_false (le_tf (by omega) (by omega) ht)), li0]
      exact b3
    · intro f2 b ⟨fl2, b1, b2⟩
      have e27b : gF b.1 9 27 0 = nI (tN T) := by obtain ⟨X, hE, -⟩ := b2; exact (hT.eq hE).2.2.1
      show lp_X9_lessens_14 (fun (w_26 : Mem) (u1_26 : Int32) => (f_X9_lessens_99_4 (fun (w : Mem) (v1 : Int32) (v2 : Int32) => lp_X9_lessens_4 kk N fu w v1 v2) kk N w_26 u1_26 (nI t))) N (nI t) (f2 + 1) b.1 b.2 (nI (tN T)) = lp_X9_lessens_4 kk N fu b.1 b.2 (nI (t + 1))
      rw [lp_X9_lessens_14, e27b, if_pos (of_eq_true (le_tt (by omega) (by omega) (Nat.le_refl _))), f_X9_lessens_99_4, li1, q_add]
    · intro f2 u b hu ⟨fl2, b1, b2⟩
      have e27b : gF b.1 9 27 0 = nI (tN T) := by obtain ⟨X, hE, -⟩ := b2; exact (hT.eq hE).2.2.1
      have hTb : MT b.1 T := by obtain ⟨X, hE, -⟩ := b2; exact hT.eq hE
      have hSb : MSS b.1 (tN T) S := by obtain ⟨X, hE, -⟩ := b2; exact hSS.eq hE
      obtain ⟨X0, hE0, hC0, hI0, -⟩ := id b2
      obtain ⟨w', fl', d1, d2⟩ := s3_ok (N := N) (s := sd T S X0 t u) (fun (w : Mem) (v1 : Int32) (v3 : Int32) => lp_X9_lessens_14 (fun (w_26 : Mem) (u1_26 : Int32) => (f_X9_lessens_99_4 (fun (w : Mem) (v1 : Int32) (v2 : Int32) => lp_X9_lessens_4 kk N fu w v1 v2) kk N w_26 u1_26 (nI t))) N (nI t) f2 w v1 v3) (fun (w_26 : Mem) (u1_26 : Int32) => (f_X9_lessens_99_4 (fun (w : Mem) (v1 : Int32) (v2 : Int32) => lp_X9_lessens_4 kk N fu w v1 v2) kk N w_26 u1_26 (nI t))) hTb.2.1 hn hL ht hu (fun _ _ _ z => z) b2 (fun X hX hXf => sd_ext hTb.2.1 ht hu (fun a b ha hb => by
        have e1 := hC0 a b ha hb
        have e2 := hX a b ha hb
        have f1 := hI0.1 a b ha hb
        have f2 := hXf a b ha hb
        unfold fr at f1 f2
        rw [e1] at e2
        exact (lI_inj (by omega) (by omega)).mp e2))
      refine ⟨(w', nI fl'), ⟨fl', rfl, d2.ext (fun x y _ _ hxy => by omega) (fun _ _ _ _ _ _ z => z)⟩, ?_⟩
      show lp_X9_lessens_14 (fun (w_26 : Mem) (u1_26 : Int32) => (f_X9_lessens_99_4 (fun (w : Mem) (v1 : Int32) (v2 : Int32) => lp_X9_lessens_4 kk N fu w v1 v2) kk N w_26 u1_26 (nI t))) N (nI t) (f2 + 1) b.1 b.2 (nI u) = lp_X9_lessens_14 (fun (w_26 : Mem) (u1_26 : Int32) => (f_X9_lessens_99_4 (fun (w : Mem) (v1 : Int32) (v2 : Int32) => lp_X9_lessens_4 kk N fu w v1 v2) kk N w_26 u1_26 (nI t))) N (nI t) f2 w' (nI fl') (nI (u + 1))
      rw [← d1, lp_X9_lessens_14, e27b, if_neg (of_eq_false (le_tf (by omega) (by omega) hu)), f_X9_pair, Option.bind_some, li24, q_mul, q_add, b1]
      by_cases z : t = u
      · subst z
        rw [if_pos rfl, show sd T S X0 t t = 0 by unfold sd; rw [if_pos rfl], ← l0]
      · rw [if_neg (of_eq_false (eq_tf (by omega) (by omega) z)), sideOf_ok hN hTb hSb hC0 hI0.1 ht hu, Option.bind_some, show sd T S X0 t u = min (sS S t u) (sP T X0 t u) by unfold sd; rw [if_neg z]]
