/-! the law: how many are left -/
theorem count1021 {N n : Nat} {w : Mem} {sx : Nat × (Nat → Int32)} {v4 v5 v7 v8 v9 v10 v11 : Int32} {d : Nat → Nat} (k : Int32 → Option (Mem × Int32)) (hN : 40 < N) (hn : n ≤ 9) (h9 : gF w 9 5 0 = nI n) (hd : ∀ i, i < n → d i ≤ i) (hr : ∀ i, i < n → gA w 45 0 i = nI (d i)) : lp_L_law_1021 k N w sx v4 v5 v7 v8 v9 v10 v11 N (nI 0) (nI 0) = k (nI (cntG n d)) := by
  let J : Nat → Int32 → Prop := fun q m => m = nI (cntG q d)
  obtain ⟨m, hJ, e⟩ := lpc n (fun g m q => lp_L_law_1021 k N w sx v4 v5 v7 v8 v9 v10 v11 g m q) k J (fun g m _ => by
    show lp_L_law_1021 k N w sx v4 v5 v7 v8 v9 v10 v11 (g + 1) m (nI n) = _
    rw [lp_L_law_1021, h9]
    exact oit (nI_le (Nat.le_refl _) (by omega)) rfl) (fun g q m hq hm => by
    have dq := hd q hq
    have hm : m = nI (cntG q d) := hm
    subst hm
    by_cases z : d q = q
    · refine ⟨nI (cntG (q + 1) d), rfl, ?_⟩
      show lp_L_law_1021 k N w sx v4 v5 v7 v8 v9 v10 v11 (g + 1) _ (nI q) = _
      rw [lp_L_law_1021, h9]
      refine oie (nI_ge hq (by omega)) (oit (inb_nI (by omega) (by omega)) ?_)
      rw [nI_clamp (by omega), hr q hq, z, nI1, nI1, show cntG (q + 1) d = cntG q d + 1 from by rw [cntG, if_pos z]]
      exact oit rfl rfl
    · refine ⟨nI (cntG (q + 1) d), rfl, ?_⟩
      show lp_L_law_1021 k N w sx v4 v5 v7 v8 v9 v10 v11 (g + 1) _ (nI q) = _
      rw [lp_L_law_1021, h9]
      refine oie (nI_ge hq (by omega)) (oit (inb_nI (by omega) (by omega)) ?_)
      rw [nI_clamp (by omega), hr q hq, nI1 q, show nI (cntG q d) + (0 : Int32) = nI (cntG q d) from n_add _ 0, show cntG (q + 1) d = cntG q d from by rw [cntG, if_neg z]; rfl]
      exact oie (fun y => z ((nI_inj_iff (by omega) (by omega)).mp y)) rfl) 0 N (nI 0) (by omega) (by omega) rfl
  have hJ : m = nI (cntG n d) := hJ
  rw [← hJ]; exact e
