/-! the class's answers, alone: what hangs on a term -/
def hgB (F : Fst) (t s : Nat) : Bool := match F s with | some (u, _) => decide (u = t) | none => false
theorem ct_mono (p : Nat → Bool) : ∀ d a, fb_ct p a ≤ fb_ct p (a + d)
  | 0, a => Nat.le_refl _
  | d + 1, a => by
    have := ct_mono p d a
    by_cases h : p (a + d) = true
    · have e := ct_t (n := a + d) h
      show fb_ct p a ≤ fb_ct p (a + d + 1)
      omega
    · have e := ct_f (n := a + d) h
      show fb_ct p a ≤ fb_ct p (a + d + 1)
      omega
theorem ct_le (p : Nat → Bool) : ∀ n, fb_ct p n ≤ n
  | 0 => Nat.le_refl _
  | n + 1 => by
    have := ct_le p n
    by_cases h : p n = true
    · have e := ct_t (n := n) h; omega
    · have e := ct_f (n := n) h; omega
theorem oN_hg {F : Fst} {n t s : Nat} (hn : n ≤ 24) (ht : t < n) (hF : ∀ s y z, F s = some (y, z) → y < n) : (oN (F s) = nI t) ↔ hgB F t s = true := by
  unfold hgB oN
  cases h : F s with
  | none => exact ⟨fun z => absurd z.symm (nI_n1 (by omega)), fun z => by cases z⟩
  | some y =>
    obtain ⟨u, c⟩ := y
    have hu := hF s u c h
    show nI u = nI t ↔ decide (u = t) = true
    rw [decide_eq_true_iff]
    exact nI_inj_iff (by omega) (by omega)
section HUNG
variable {N f n t c : Nat} {w : Mem} {F : Fst}
theorem hung_at (hn : n ≤ 24) (h26 : gF w 2 6 f = nI n) (h19 : ∀ s, s < n → gA w 19 f s = oN (F s)) (hF : ∀ s y z, F s = some (y, z) → y < n) (ht : t < n) {s : Nat} (hs : s < n) (hp : hgB F t s = true) (hc : fb_ct (hgB F t) s = c) : ∀ (d q g : Nat), q + d = s → d + 1 < g → lp_X2_hangingOn_5 (f_X2_hangingOn_42 N w f) N w f (nI t) (nI c) g (nI (fb_ct (hgB F t) q)) (nI q) = some (nI s) := by
  intro d
  induction d with
  | zero =>
    intro q g hq hg
    obtain ⟨g, rfl⟩ : ∃ g', g = g' + 1 := ⟨g - 1, by omega⟩
    have : q = s := by omega
    subst this
    rw [lp_X2_hangingOn_5, h26]
    refine oie (nI_ge hs (by omega)) (oit (inb_nI (by omega) (by omega)) ?_)
    rw [nI_clamp (by omega), h19 q hs]
    exact oit ((oN_hg hn ht hF).mpr hp) (oit (by rw [hc]) rfl)
  | succ d ih =>
    intro q g hq hg
    obtain ⟨g, rfl⟩ : ∃ g', g = g' + 1 := ⟨g - 1, by omega⟩
    have hm := ct_mono (hgB F t) d (q + 1)
    have hcq := ct_le (hgB F t) q
    rw [show q + 1 + d = s by omega, hc] at hm
    have hi := ih (q + 1) g (by omega) (by omega)
    rw [lp_X2_hangingOn_5, h26]
    refine oie (nI_ge (by omega) (by omega)) (oit (inb_nI (by omega) (by omega)) ?_)
    rw [nI_clamp (by omega), h19 q (by omega), nI1 q]
    by_cases z : hgB F t q = true
    · have e := ct_t (n := q) z
      rw [e] at hi hm
      refine oit ((oN_hg hn ht hF).mpr z) (oie (fun z2 => ?_) ?_)
      · have hcs := ct_le (hgB F t) s
        have := (nI_inj_iff (by omega) (by omega)).mp z2
        omega
      · rw [nI1]; exact hi
    · have e := ct_f (n := q) z
      rw [e] at hi
      exact oie (fun z2 => z ((oN_hg hn ht hF).mp z2)) hi
theorem hung_no (hn : n ≤ 24) (h26 : gF w 2 6 f = nI n) (h19 : ∀ s, s < n → gA w 19 f s = oN (F s)) (hF : ∀ s y z, F s = some (y, z) → y < n) (ht : t < n) (hc : fb_ct (hgB F t) n ≤ c) (hc9 : c < 1000) : ∀ (d q g : Nat), q + d = n → d < g → lp_X2_hangingOn_5 (f_X2_hangingOn_42 N w f) N w f (nI t) (nI c) g (nI (fb_ct (hgB F t) q)) (nI q) = some n2 := by
  intro d
  induction d with
  | zero =>
    intro q g hq hg
    obtain ⟨g, rfl⟩ : ∃ g', g = g' + 1 := ⟨g - 1, by omega⟩
    have : q = n := by omega
    subst this
    rw [lp_X2_hangingOn_5, h26]
    exact oit (nI_le (Nat.le_refl _) (by omega)) rfl
  | succ d ih =>
    intro q g hq hg
    obtain ⟨g, rfl⟩ : ∃ g', g = g' + 1 := ⟨g - 1, by omega⟩
    have hm := ct_mono (hgB F t) d (q + 1)
    have hcq := ct_le (hgB F t) q
    rw [show q + 1 + d = n by omega] at hm
    have hi := ih (q + 1) g (by omega) (by omega)
    rw [lp_X2_hangingOn_5, h26]
    refine oie (nI_ge (by omega) (by omega)) (oit (inb_nI (by omega) (by omega)) ?_)
    rw [nI_clamp (by omega), h19 q (by omega), nI1 q]
    by_cases z : hgB F t q = true
    · have e := ct_t (n := q) z
      rw [e] at hi hm
      refine oit ((oN_hg hn ht hF).mpr z) (oie (fun z2 => ?_) ?_)
      · have := (nI_inj_iff (by omega) (by omega)).mp z2
        omega
      · rw [nI1]; exact hi
    · have e := ct_f (n := q) z
      rw [e] at hi
      exact oie (fun z2 => z ((oN_hg hn ht hF).mp z2)) hi
end HUNG
theorem xhung {N f nf t s k : Nat} {tk : Nat → Nat} {R A : List Row} {NL : List (List Nat)} {tp : List Nat} {w : Mem} (hN : 276 < N) (h : RelX w f nf tk R A NL tp) (ht : t < (cL (run tk c0 (R ++ A))).length) (hW : FW (frJ (cJ (run tk c0 (R ++ A)))) (cL (run tk c0 (R ++ A))).length (ldJ (cJ (run tk c0 (R ++ A)))) (cJ (run tk c0 (R ++ A))).length) (hk : k < 1000) :
    (∀ s, s < (cL (run tk c0 (R ++ A))).length → hgB (frJ (cJ (run tk c0 (R ++ A)))) t s = true → fb_ct (hgB (frJ (cJ (run tk c0 (R ++ A)))) t) s = k → f_X8_hung N w (nI t) (nI k) = some (xAns w (nI 0), nI s)) ∧
    (fb_ct (hgB (frJ (cJ (run tk c0 (R ++ A)))) t) (cL (run tk c0 (R ++ A))).length ≤ k → f_X8_hung N w (nI t) (nI k) = some (xAns w (nI 0), n2)) := by
  have hg := h.g5
  have h1 := h.trm N ht
  obtain ⟨⟨hf, h5, h6⟩, ⟨⟨xT, xG, xF⟩, xS, xQ, xD⟩, -⟩ := id h
  have hn : (cL (run tk c0 (R ++ A))).length ≤ 24 := xT.1
  have hF : ∀ s y z, frJ (cJ (run tk c0 (R ++ A))) s = some (y, z) → y < (cL (run tk c0 (R ++ A))).length := fun s y z e => by
    obtain ⟨⟨rk, hrk⟩, -⟩ := hW
    exact (hrk s y z e).2.1
  refine ⟨fun s hs hp hc => ?_, fun hc => ?_⟩
  · have e := hung_at (N := N) (f := f) (w := w) hn xF.2.1 xF.2.2.2.2.1 hF ht hs hp hc s 0 N (by omega) (by omega)
    rw [f_X8_hung]
    refine obind h1 (oie nz1 (oit (nI_pos' (by omega)) (oit hg ?_)))
    rw [h5, f_X2_hangingOn]
    exact obind e (answer_x N w _)
  · have e := hung_no (N := N) (f := f) (w := w) hn xF.2.1 xF.2.2.2.2.1 hF ht hc hk _ 0 N (Nat.zero_add _) (by omega)
    rw [f_X8_hung]
    refine obind h1 (oie nz1 (oit (nI_pos' (by omega)) (oit hg ?_)))
    rw [h5, f_X2_hangingOn]
    exact obind e (answer_x N w _)
