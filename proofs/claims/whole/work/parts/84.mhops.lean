/-! the model: hops -/
def tgM (T : Trm) (S : Prs) (X : Mx) (hd : Prop) (u s v : Nat) : Prop := s ≠ v ∧ sd T S X s v < 4000000000 ∧ X v u < 4000000000 ∧ (hd ∨ sd T S X s v + X v u = X s u)
theorem wt_ld {T : Trm} {S : Prs} {ld : Nat → Nat} {D : Mx} (hL : LDC T S ld) {a v : Nat} (ha : a < tN T) (hv : v < tN T) (h : wt T S ld D a v ≠ 1000000001) : ld a = ld v := by
  rcases wt_in h with (h | h) | h
  · exact hL.2.1 _ _ h
  · exact (hL.2.1 _ _ h).symm
  · exact hL.1.2.2.2 a v ha hv ⟨h.2.1, eqParts_iff.mp h.2.2⟩
theorem hp_ld {T : Trm} {S : Prs} {ld : Nat → Nat} {D : Mx} {hd : Prop} {u : Nat} (hL : LDC T S ld) : ∀ l s, s < tN T → Hp (tN T) (tg (wt T S ld D) D hd u) u l s → ld s = ld u
  | 0, s, _, h => by rw [show s = u from h]
  | l + 1, s, hs, h => by
    rcases h with h | ⟨v, hv, h1, h2⟩
    · exact hp_ld hL l s hs h
    · exact (wt_ld hL hs hv h1.2.1).trans (hp_ld hL l v hv h2)
theorem tg_iff {T : Trm} {S : Prs} {ld : Nat → Nat} {X D : Mx} {hd : Prop} {u s v : Nat} (hT : TOK T) (hL : LDC T S ld) (hX : IC T S ld X) (hfin : ∀ t u, t < tN T → u < tN T → (X t u < 4000000000 ↔ ld t = ld u)) (hD : ∀ t u, t < tN T → u < tN T → D t u = min 1000000000 (X t u)) (hu : u < tN T) (hs : s < tN T) (hv : v < tN T) (hvu : ld v = ld u) : tg (wt T S ld D) D hd u s v ↔ tgM T S X hd u s v := by
  unfold tg tgM
  by_cases e : s = v
  · exact ⟨fun h => absurd e h.1, fun h => absurd e h.1⟩
  · have h1 := sd_wt hT hX hfin hD hs hv e
    have f1 := (hfin v u hv hu).mpr hvu
    have g1 := hX.1 v u hv hu
    have d1 := hD v u hv hu
    have d2 := hD s u hs hu
    have hwb : wt T S ld D s v ≤ 1000000001 := wt_leN
    have g2 := hX.1 s u hs hu
    unfold fr at g1 g2
    by_cases z : wt T S ld D s v = 1000000001
    · rw [h1, if_pos z]
      exact ⟨fun h => absurd z h.2.1, fun h => absurd h.2.1 (by omega)⟩
    · rw [h1, if_neg z]
      have f2 := (hfin s u hs hu).mpr ((wt_ld hL hs hv z).trans hvu)
      constructor
      · intro h
        exact ⟨e, by omega, f1, h.2.2.imp id (fun q => by omega)⟩
      · intro h
        exact ⟨e, z, h.2.2.2.imp id (fun q => by omega)⟩
theorem hp_iff {T : Trm} {S : Prs} {ld : Nat → Nat} {X D : Mx} {hd : Prop} {u : Nat} (hT : TOK T) (hL : LDC T S ld) (hX : IC T S ld X) (hfin : ∀ t u, t < tN T → u < tN T → (X t u < 4000000000 ↔ ld t = ld u)) (hD : ∀ t u, t < tN T → u < tN T → D t u = min 1000000000 (X t u)) (hu : u < tN T) : ∀ l s, s < tN T → (Hp (tN T) (tg (wt T S ld D) D hd u) u l s ↔ Hp (tN T) (tgM T S X hd u) u l s)
  | 0, s, _ => Iff.rfl
  | l + 1, s, hs => by
    have ih := hp_iff hT hL hX hfin hD hu (hd := hd) l
    constructor
    · intro h
      rcases h with h | ⟨v, hv, h1, h2⟩
      · exact Or.inl ((ih s hs).mp h)
      · exact Or.inr ⟨v, hv, (tg_iff hT hL hX hfin hD hu hs hv (hp_ld hL l v hv h2)).mp h1, (ih v hv).mp h2⟩
    · intro h
      rcases h with h | ⟨v, hv, h1, h2⟩
      · exact Or.inl ((ih s hs).mpr h)
      · exact Or.inr ⟨v, hv, (tg_iff hT hL hX hfin hD hu hs hv ((hfin v u hv hu).mp h1.2.2.1)).mpr h1, (ih v hv).mpr h2⟩
def EqH (w v : Mem) : Prop := (∀ k j i, gF v k j i = gF w k j i) ∧ (∀ k i, k ≠ 66 → gA v k i = gA w k i) ∧ ∀ k i, gL v k i = gL w k i
theorem EqH.rf {w : Mem} : EqH w w := ⟨fun _ _ _ => rfl, fun _ _ _ => rfl, fun _ _ => rfl⟩
theorem EqH.tr {w v u : Mem} (h : EqH w v) (g : EqH v u) : EqH w u := ⟨fun k j i => (g.1 k j i).trans (h.1 k j i), fun k i z => (g.2.1 k i z).trans (h.2.1 k i z), fun k i => (g.2.2 k i).trans (h.2.2 k i)⟩
theorem EqH.sa {w : Mem} {x : Nat} {v : Int32} : EqH w (sA w 66 0 x v) := ⟨fun _ _ _ => rfl, fun k i z => by funext y; rw [gA_sA, if_neg (fun q => z q.1)], fun _ _ => rfl⟩
theorem EqH.km {w v : Mem} (h : EqH w v) (s : Nat) : KM s w v := ⟨fun k j i _ => h.1 k j i, fun k i z => h.2.1 k i (by omega), fun p _ => ⟨by rw [h.2.1 48 0 (by omega)], by rw [h.2.1 49 0 (by omega)]⟩⟩
/-- what isNext needs -/
def NX (w : Mem) (T : Trm) (S : Prs) (X : Mx) (hd : Prop) : Prop := tN T ≤ 24 ∧ gF w 9 27 0 = nI (tN T) ∧ gF w 9 52 0 = nI (b01 hd) ∧ CL w 64 (tN T) X ∧ (∀ a b, a < tN T → b < tN T → fr (X a b)) ∧ ∀ t u, t < tN T → u < tN T → gL w 65 0 (24 * t + u) = lI (sd T S X t u)
theorem NX.eq {w v : Mem} {T : Trm} {S : Prs} {X : Mx} {hd : Prop} (h : NX w T S X hd) (g : EqH w v) : NX v T S X hd := ⟨h.1, (g.1 _ _ _).trans h.2.1, (g.1 _ _ _).trans h.2.2.1, fun t u ht hu => by rw [g.2.2]; exact h.2.2.2.1 t u ht hu, h.2.2.2.2.1, fun t u ht hu => by rw [g.2.2]; exact h.2.2.2.2.2 t u ht hu⟩
theorem isNext_ok {N s v u : Nat} {w : Mem} {T : Trm} {S : Prs} {X : Mx} {hd : Prop} (h : NX w T S X hd) (hs : s < tN T) (hv : v < tN T) (hu : u < tN T) : f_X9_isNext N w (nI s) (nI v) (nI u) = some (nI (b01 (tgM T S X hd u s v))) := by
  obtain ⟨hn, h27, h52, h64, hf, h65⟩ := h
  have a1 := h65 s v hs hv
  have a2 := h64 v u hv hu
  have a3 := h64 s u hs hu
  have b1 := sd_fr T S X s v
  have b2 := hf v u hv hu
  have b3 := hf s u hs hu
  unfold fr at b1 b2 b3
  have i1 : inb (nI (24 * s + v)) 576 = true := inb_t (by omega) (by omega)
  have i2 : inb (nI (24 * v + u)) 576 = true := inb_t (by omega) (by omega)
  have i3 : inb (nI (24 * s + u)) 576 = true := inb_t (by omega) (by omega)
  have c1 : (nI (24 * s + v)).toNatClampNeg = 24 * s + v := cl_t (by omega)
  have c2 : (nI (24 * v + u)).toNatClampNeg = 24 * v + u := cl_t (by omega)
  have c3 : (nI (24 * s + u)).toNatClampNeg = 24 * s + u := cl_t (by omega)
  rw [f_X9_isNext]
  simp only [f_X9_pair, Option.bind_some, li24, q_mul, q_add, i1, i2, i3, c1, c2, c3, a1, a2, a3, h52, ↓reduceIte]
  by_cases e : s = v
  · rw [if_pos (by rw [e]), b01_f (fun q => q.1 e)]; rfl
  · rw [if_neg (of_eq_false (eq_tf (by omega) (by omega) e)), lF]
    by_cases y1 : 4000000000 ≤ sd T S X s v
    · rw [if_pos (by rw [cmp_ge (by omega) (by omega)]; exact y1), b01_f (fun q => by have := q.2.1; omega)]; rfl
    · rw [if_neg (by rw [cmp_ge (by omega) (by omega)]; exact y1)]
      by_cases y2 : 4000000000 ≤ X v u
      · rw [if_pos (by rw [cmp_ge (by omega) (by omega)]; exact y2), b01_f (fun q => by have := q.2.2.1; omega)]; rfl
      · rw [if_neg (by rw [cmp_ge (by omega) (by omega)]; exact y2)]
        by_cases z : hd
        · rw [b01_t z, if_neg (by decide), b01_t ⟨e, by omega, by omega, Or.inl z⟩]; rfl
        · rw [b01_f z, if_pos (show (nI 0 : Int32) = 0 from rfl), lI_add]
          by_cases x : sd T S X s v + X v u = X s u
          · rw [if_pos (by rw [cmp_eq (by omega) (by omega)]; exact x), b01_t ⟨e, by omega, by omega, Or.inr x⟩]; rfl
          · rw [if_neg (by rw [cmp_eq (by omega) (by omega)]; exact x), b01_f (fun q => x (q.2.2.2.resolve_left z))]; rfl
/-- hops: sound, and complete to q -/
def HO (w0 w : Mem) (n : Nat) (R : Nat → Nat → Prop) (u : Nat) (C : Nat → Nat → Prop) : Prop := ∃ H : Nat → Nat, EqH w0 w ∧ (∀ s, s < n → gA w 66 0 s = nI (H s)) ∧ (∀ s, s < n → H s ≤ 24 ∧ (H s < 24 → Hp n R u (H s) s)) ∧ ∀ k s, s < n → C k s → H s ≤ k
theorem HO.ext {w0 w : Mem} {n u : Nat} {R : Nat → Nat → Prop} {C C' : Nat → Nat → Prop} (h : HO w0 w n R u C) (hC : ∀ k s, s < n → C' k s → C k s) : HO w0 w n R u C' := by
  obtain ⟨H, h1, h2, h3, h4⟩ := h
  exact ⟨H, h1, h2, h3, fun k s hs hc => h4 k s hs (hC k s hs hc)⟩
theorem laysHops_ok {N u : Nat} {w : Mem} {T : Trm} {S : Prs} {X : Mx} {hd : Prop} (hN : 60 < N) (h : NX w T S X hd) (hu : u < tN T) : ∃ w', f_X9_laysHops N w (nI u) = some w' ∧ HO w w' (tN T) (tgM T S X hd u) u (fun k s => k ≤ tN T ∧ Hp (tN T) (tgM T S X hd u) u k s) := by
  have hn := h.1
  have round : ∀ (kk : Mem → Option Mem) fu q a, q < tN T → HO w a (tN T) (tgM T S X hd u) u (fun k s => k ≤ q ∧ Hp (tN T) (tgM T S X hd u) u k s) → ∃ a', lp_X9_laysHops_35 kk N (nI u) (fu + 1) a (nI q) = lp_X9_laysHops_35 kk N (nI u) fu a' (nI (q + 1)) ∧ HO w a' (tN T) (tgM T S X hd u) u (fun k s => k ≤ q + 1 ∧ Hp (tN T) (tgM T S X hd u) u k s) := by
    intro kk fu q a hq hH
    have e27 : gF a 9 27 0 = nI (tN T) := by obtain ⟨H, hE, -⟩ := hH; exact (hE.1 _ _ _).trans h.2.1
    have key := lpc (α := Mem) (tN T) (fun f2 b v => lp_X9_laysHops_45 (fun (w_3 : Mem) => (f_X9_laysHops_121_35 (fun (w : Mem) (v2 : Int32) => lp_X9_laysHops_35 kk N (nI u) fu w v2) kk N w_3 (nI u) (nI q))) N (nI u) (nI q) f2 b v) (fun b => lp_X9_laysHops_35 kk N (nI u) fu b (nI (q + 1))) (fun s0 b => HO w b (tN T) (tgM T S X hd u) u (fun k s => (k ≤ q ∨ (k = q + 1 ∧ s < s0)) ∧ Hp (tN T) (tgM T S X hd u) u k s)) ?_ ?_ 0 N a (by omega) (by omega) (hH.ext (fun k s hs hc => ⟨by omega, hc.2⟩))
    · obtain ⟨b, b1, b2⟩ := key
      refine ⟨b, ?_, b1.ext (fun k s hs hc => ⟨by omega, hc.2⟩)⟩
      rw [lp_X9_laysHops_35, e27, if_neg (of_eq_false (le_tf (by omega) (by omega) hq)), li0]
      exact b2
    · intro f2 b hb
      have e27b : gF b 9 27 0 = nI (tN T) := by obtain ⟨H, hE, -⟩ := hb; exact (hE.1 _ _ _).trans h.2.1
      show lp_X9_laysHops_45 _ N (nI u) (nI q) (f2 + 1) b (nI (tN T)) = _
      rw [lp_X9_laysHops_45, e27b, if_pos (of_eq_true (le_tt (by omega) (by omega) (Nat.le_refl _))), f_X9_laysHops_121_35, li1, q_add]
    · intro f2 s b hs hb
      have e27b : gF b 9 27 0 = nI (tN T) := by obtain ⟨H, hE, -⟩ := hb; exact (hE.1 _ _ _).trans h.2.1
      generalize hk2 : (fun (w_3 : Mem) => (f_X9_laysHops_121_35 (fun (w : Mem) (v2 : Int32) => lp_X9_laysHops_35 kk N (nI u) fu w v2) kk N w_3 (nI u) (nI q))) = k2
      have key2 := lpc (α := Mem) (tN T) (fun f3 c v => lp_X9_laysHops_56 (fun (w_4 : Mem) => (f_X9_laysHops_115_45 (fun (w : Mem) (v3 : Int32) => lp_X9_laysHops_45 k2 N (nI u) (nI q) f2 w v3) k2 N w_4 (nI u) (nI q) (nI s))) N (nI u) (nI q) (nI s) f3 c v) (fun c => lp_X9_laysHops_45 k2 N (nI u) (nI q) f2 c (nI (s + 1))) (fun v0 c => HO w c (tN T) (tgM T S X hd u) u (fun k x => ((k ≤ q ∨ (k = q + 1 ∧ x < s)) ∧ Hp (tN T) (tgM T S X hd u) u k x) ∨ (k = q + 1 ∧ x = s ∧ ∃ v, v < v0 ∧ tgM T S X hd u s v ∧ Hp (tN T) (tgM T S X hd u) u q v))) ?_ ?_ 0 N b (by omega) (by omega) (hb.ext (fun k x hx hc => by
        rcases hc with hc | ⟨_, _, v, hv, _⟩
        · exact hc
        · omega))
      · obtain ⟨c, c1, c2⟩ := key2
        refine ⟨c, ?_, ?_⟩
        · obtain ⟨H, g1, g2, g3, g4⟩ := c1
          refine ⟨H, g1, g2, g3, fun k x hx hc => ?_⟩
          by_cases e : k = q + 1 ∧ x = s
          · obtain ⟨rfl, rfl⟩ := e
            rcases hc.2 with y | ⟨v, hv, y1, y2⟩
            · have := g4 q x hx (Or.inl ⟨Or.inl (Nat.le_refl _), y⟩); omega
            · exact g4 (q + 1) x hx (Or.inr ⟨rfl, rfl, v, hv, y1, y2⟩)
          · exact g4 k x hx (Or.inl ⟨by omega, hc.2⟩)
        · show lp_X9_laysHops_45 k2 N (nI u) (nI q) (f2 + 1) b (nI s) = lp_X9_laysHops_45 k2 N (nI u) (nI q) f2 c (nI (s + 1))
          rw [lp_X9_laysHops_45, e27b, if_neg (of_eq_false (le_tf (by omega) (by omega) hs)), li0]
          exact c2
      · intro f3 c hc
        have e27c : gF c 9 27 0 = nI (tN T) := by obtain ⟨H, hE, -⟩ := hc; exact (hE.1 _ _ _).trans h.2.1
        show lp_X9_laysHops_56 _ N (nI u) (nI q) (nI s) (f3 + 1) c (nI (tN T)) = _
        rw [lp_X9_laysHops_56, e27c, if_pos (of_eq_true (le_tt (by omega) (by omega) (Nat.le_refl _))), f_X9_laysHops_115_45, li1, q_add]
      · intro f3 v c hv hc
        obtain ⟨H, g1, g2, g3, g4⟩ := hc
        have e27c : gF c 9 27 0 = nI (tN T) := (g1.1 _ _ _).trans h.2.1
        have hNX := h.eq g1
        generalize hk3 : (fun (w_4 : Mem) => (f_X9_laysHops_115_45 (fun (w : Mem) (v3 : Int32) => lp_X9_laysHops_45 k2 N (nI u) (nI q) f2 w v3) k2 N w_4 (nI u) (nI q) (nI s))) = k3
        have is1 : inb (nI s) 24 = true := inb_t (by omega) (by omega)
        have is2 : inb (nI v) 24 = true := inb_t (by omega) (by omega)
        have cs1 : (nI s).toNatClampNeg = s := cl_t (by omega)
        have cs2 : (nI v).toNatClampNeg = v := cl_t (by omega)
        have hgo : (H v + 1 < H s ∧ tgM T S X hd u s v → lp_X9_laysHops_56 k3 N (nI u) (nI q) (nI s) (f3 + 1) c (nI v) = lp_X9_laysHops_56 k3 N (nI u) (nI q) (nI s) f3 (sA c 66 0 s (nI (H v + 1))) (nI (v + 1))) ∧ (¬ (H v + 1 < H s ∧ tgM T S X hd u s v) → lp_X9_laysHops_56 k3 N (nI u) (nI q) (nI s) (f3 + 1) c (nI v) = lp_X9_laysHops_56 k3 N (nI u) (nI q) (nI s) f3 c (nI (v + 1))) := by
          have b1 := (g3 s hs).1
          have b2 := (g3 v hv).1
          rw [lp_X9_laysHops_56, e27c, if_neg (of_eq_false (le_tf (by omega) (by omega) hv)), if_pos is2, if_pos is1, cs1, cs2, g2 s hs, g2 v hv, li1, q_add, q_add]
          by_cases z : H s ≤ H v + 1
          · rw [if_pos (of_eq_true (le_tt (by omega) (by omega) z))]
            exact ⟨fun q => by omega, fun _ => rfl⟩
          · rw [if_neg (of_eq_false (le_tf (by omega) (by omega) (by omega))), isNext_ok hNX hs hv hu, Option.bind_some]
            by_cases y : tgM T S X hd u s v
            · rw [b01_t y, if_neg (by decide)]
              exact ⟨fun _ => rfl, fun q => absurd ⟨by omega, y⟩ q⟩
            · rw [b01_f y, if_pos (show (nI 0 : Int32) = 0 from rfl)]
              exact ⟨fun q => absurd q.2 y, fun _ => rfl⟩
        by_cases z : H v + 1 < H s ∧ tgM T S X hd u s v
        · refine ⟨sA c 66 0 s (nI (H v + 1)), ⟨fun x => if x = s then H v + 1 else H x, g1.tr EqH.sa, fun x hx => ?_, fun x hx => ?_, fun k x hx hc => ?_⟩, hgo.1 z⟩
          · show _ = nI (if x = s then H v + 1 else H x)
            rw [gA_sA]
            by_cases e : x = s
            · rw [if_pos ⟨rfl, rfl, e⟩, if_pos e]
            · rw [if_neg (by omega), if_neg e]; exact g2 x hx
          · show (if x = s then H v + 1 else H x) ≤ 24 ∧ ((if x = s then H v + 1 else H x) < 24 → Hp (tN T) (tgM T S X hd u) u (if x = s then H v + 1 else H x) x)
            by_cases e : x = s
            · rw [if_pos e, e]
              have := (g3 s hs).1
              exact ⟨by omega, fun _ => Or.inr ⟨v, hv, z.2, (g3 v hv).2 (by omega)⟩⟩
            · rw [if_neg e]; exact g3 x hx
          · show (if x = s then H v + 1 else H x) ≤ k
            have old : ∀ k, ((k ≤ q ∨ (k = q + 1 ∧ x < s)) ∧ Hp (tN T) (tgM T S X hd u) u k x) ∨ (k = q + 1 ∧ x = s ∧ ∃ v', v' < v ∧ tgM T S X hd u s v' ∧ Hp (tN T) (tgM T S X hd u) u q v') → (if x = s then H v + 1 else H x) ≤ k := fun k hk => by
              have := g4 k x hx hk
              by_cases e : x = s
              · rw [if_pos e]; rw [e] at this; omega
              · rw [if_neg e]; exact this
            rcases hc with hc | ⟨e1, e2, v', hv', y1, y2⟩
            · exact old k (Or.inl hc)
            · by_cases e : v' = v
              · subst e
                have := g4 q v' hv (Or.inl ⟨Or.inl (Nat.le_refl _), y2⟩)
                rw [if_pos e2]; omega
              · exact old k (Or.inr ⟨e1, e2, v', by omega, y1, y2⟩)
        · refine ⟨c, ⟨H, g1, g2, g3, fun k x hx hc => ?_⟩, hgo.2 z⟩
          rcases hc with hc | ⟨e1, e2, v', hv', y1, y2⟩
          · exact g4 k x hx (Or.inl hc)
          · by_cases e : v' = v
            · subst e
              have := g4 q v' hv (Or.inl ⟨Or.inl (Nat.le_refl _), y2⟩)
              have h2 : ¬ (H v' + 1 < H s) := fun q => z ⟨q, y1⟩
              rw [e2]; omega
            · exact g4 k x hx (Or.inr ⟨e1, e2, v', by omega, y1, y2⟩)
  have key0 := lpc (α := Mem) (tN T) (fun fu a v => lp_X9_laysHops_2 (fun (w_1 : Mem) => (f_X9_laysHops_33 N w_1 (nI u))) N (nI u) fu a v) (fun a => f_X9_laysHops_33 N a (nI u)) (fun q a => EqH w a ∧ ∀ s, s < q → gA a 66 0 s = nI (if s = u then 0 else 24)) ?_ ?_ 0 N w (by omega) (by omega) ⟨EqH.rf, fun s hs => absurd hs (Nat.not_lt_zero s)⟩
  · obtain ⟨a, ⟨a1, a2⟩, a3⟩ := key0
    have hH0 : HO w a (tN T) (tgM T S X hd u) u (fun k s => k ≤ 0 ∧ Hp (tN T) (tgM T S X hd u) u k s) := by
      refine ⟨fun s => if s = u then 0 else 24, a1, a2, fun s hs => ?_, fun k s hs hc => ?_⟩
      · show (if s = u then 0 else 24) ≤ 24 ∧ ((if s = u then 0 else 24) < 24 → Hp (tN T) (tgM T S X hd u) u (if s = u then 0 else 24) s)
        by_cases e : s = u
        · rw [if_pos e]; exact ⟨by omega, fun _ => e⟩
        · rw [if_neg e]; exact ⟨by omega, fun q => absurd q (by omega)⟩
      · have e : k = 0 := by omega
        subst e
        have e2 : s = u := hc.2
        show (if s = u then 0 else 24) ≤ 0
        rw [if_pos e2]; omega
    have key := lpc (α := Mem) (tN T) (fun fu a v => lp_X9_laysHops_35 (fun (w_2 : Mem) => (f_X9_laysHops_127 N w_2)) N (nI u) fu a v) (fun a => some a) (fun q a => HO w a (tN T) (tgM T S X hd u) u (fun k s => k ≤ q ∧ Hp (tN T) (tgM T S X hd u) u k s)) ?_ ?_ 0 N a (by omega) (by omega) hH0
    · obtain ⟨b, b1, b2⟩ := key
      refine ⟨b, ?_, b1⟩
      rw [f_X9_laysHops, li0, a3, f_X9_laysHops_33, li0]
      exact b2
    · intro fu b hb
      have e27b : gF b 9 27 0 = nI (tN T) := by obtain ⟨H, hE, -⟩ := hb; exact (hE.1 _ _ _).trans h.2.1
      show lp_X9_laysHops_35 _ N (nI u) (fu + 1) b (nI (tN T)) = some b
      rw [lp_X9_laysHops_35, e27b, if_pos (of_eq_true (le_tt (by omega) (by omega) (Nat.le_refl _))), f_X9_laysHops_127]
    · intro fu q b hq hb
      obtain ⟨b', c1, c2⟩ := round (fun (w_2 : Mem) => (f_X9_laysHops_127 N w_2)) fu q b hq hb
      exact ⟨b', c2, c1⟩
  · intro fu a ⟨a1, a2⟩
    have e27a : gF a 9 27 0 = nI (tN T) := (a1.1 _ _ _).trans h.2.1
    show lp_X9_laysHops_2 _ N (nI u) (fu + 1) a (nI (tN T)) = _
    rw [lp_X9_laysHops_2, e27a, if_pos (of_eq_true (le_tt (by omega) (by omega) (Nat.le_refl _)))]
  · intro fu q a hq ⟨a1, a2⟩
    have e27a : gF a 9 27 0 = nI (tN T) := (a1.1 _ _ _).trans h.2.1
    refine ⟨sA a 66 0 q (nI (if q = u then 0 else 24)), ⟨a1.tr EqH.sa, fun s hs => ?_⟩, ?_⟩
    · rw [gA_sA]
      by_cases e : s = q
      · rw [if_pos ⟨rfl, rfl, e⟩, e]
      · rw [if_neg (by omega)]; exact a2 s (by omega)
    · show lp_X9_laysHops_2 (fun (w_1 : Mem) => (f_X9_laysHops_33 N w_1 (nI u))) N (nI u) (fu + 1) a (nI q) = lp_X9_laysHops_2 (fun (w_1 : Mem) => (f_X9_laysHops_33 N w_1 (nI u))) N (nI u) fu (sA a 66 0 q (nI (if q = u then 0 else 24))) (nI (q + 1))
      rw [lp_X9_laysHops_2, e27a, if_neg (of_eq_false (le_tf (by omega) (by omega) hq))]
      by_cases e : q = u
      · rw [if_pos (by rw [e]), if_pos (inb_t (by omega) (by omega)), cl_t (by omega), li0, li1, q_add, if_pos e]
      · rw [if_neg (of_eq_false (eq_tf (by omega) (by omega) e)), if_pos (inb_t (by omega) (by omega)), cl_t (by omega), li24, li1, q_add, if_neg e]
