/-! acts: join, part, make, undo -/
theorem cL_mono (tk : Nat → Nat) : ∀ (rs : List Row) (c : Core), (cL c).length ≤ (cL (run tk c rs)).length
  | [], _ => Nat.le_refl _
  | r :: rs, c => by
    have ih := cL_mono tk rs (stp tk c r)
    refine Nat.le_trans ?_ ih
    cases r with
    | inl x => show (cL c).length ≤ (cL c ++ [x]).length; rw [List.length_append]; omega
    | inr y =>
      obtain ⟨bb, a, b⟩ := y
      cases bb <;> exact Nat.le_refl _
theorem RelX.act {wx w1 w2 w3 : Mem} {f nf : Nat} {tk : Nat → Nat} {R A : List Row} {NL : List (List Nat)} {tp : List Nat} (h : RelX wx f nf tk R A NL tp) (r : Row) (n1' : Fr (fun k j i => k = 1 ∧ j = 11 ∧ i = f) (fun k i => (k = 17 ∨ k = 18) ∧ i = f) wx w1) (hA : ∀ v, FrX f w1 v → AS v f tk (run tk c0 R) (A ++ [r])) (h2 : FrX f w1 w2) (hK : XK w2 f tk (run tk c0 (R ++ (A ++ [r])))) (hnm : ∀ t, t < (cL (run tk c0 (R ++ (A ++ [r])))).length → gA w2 34 f t = nI (wn (NL.getD t []))) (h3 : Fr (fun k j i => k = 0 ∧ j = 4 ∧ i = 0) (fun _ _ => False) w2 w3) (hc : gF w3 0 4 0 = nI 0 ∨ (gF w3 0 4 0 = nI 1 ∧ CO w3 tk (run tk c0 (R ++ (A ++ [r]))))) : RelX w3 f nf tk R (A ++ [r]) NL tp := by
  obtain ⟨⟨a1, a2, a3⟩, -, a5, a6, a7, a8, -⟩ := h
  have hR : ∀ k j i, gR w3 k j i = gR wx k j i := fun k j i => (h3.2.2.2 k j i).trans ((h2.2.2.2 k j i).trans (n1'.2.2.2 k j i))
  have hAs := hA w2 h2
  refine ⟨⟨a1, (hR _ _ _).trans a2, (hR _ _ _).trans a3⟩, hK.fr h3 (fun _ _ _ z => by omega) (fun _ _ z => z.elim), ⟨a5.1, ?_, fun g hg => ?_⟩, ⟨hAs.1, (h3.1 _ _ _ (fun z => by omega)).trans hAs.2.1, fun p r hp => ?_⟩, fun t ht => ?_, ⟨?_, fun i hi => ?_⟩, hc⟩
  · exact (h3.1 _ _ _ (fun z => by omega)).trans ((h2.1 _ _ _ (fun z => by omega)).trans ((n1'.1 _ _ _ (fun z => by omega)).trans a5.2.1))
  · rw [h3.2.1 31 f (fun z => z), h2.2.1 31 f (fun z => by omega), n1'.2.1 31 f (fun z => by omega)]; exact a5.2.2 g hg
  · rw [h3.2.1 17 f (fun z => z), h3.2.1 18 f (fun z => z)]; exact hAs.2.2 p r hp
  · rw [h3.2.1 34 f (fun z => z)]; exact hnm t ht
  · exact (h3.1 _ _ _ (fun z => by omega)).trans ((h2.1 _ _ _ (fun z => by omega)).trans ((n1'.1 _ _ _ (fun z => by omega)).trans a8.1))
  · rw [h3.2.1 30 0 (fun z => z), h2.2.1 30 0 (fun z => by omega), n1'.2.1 30 0 (fun z => by omega)]; exact a8.2 i hi
theorem okRs_at {tk : Nat → Nat} {nf : Nat} {rs : List Row} {c : Core} {p : Nat} {r : Row} (h : okRs tk nf c rs) (hp : rs[p]? = some r) : okR tk nf (run tk c (rs.take p)) r := by
  rw [← List.take_append_drop p rs, drop_at hp] at h
  exact (okRs_app.mp h).2.1
/-- the model's words for a row -/
def actD (its a b c d : Int32) : Row → Prop
  | .inl (fn, ps) => its = nI 0 ∧ a = nI fn ∧ ps.length ≤ 3 ∧ ∀ k, k < ps.length → ar3 b c d k = nI (ps.getD k 0)
  | .inr (true, x, y) => its = nI 1 ∧ a = nI x ∧ b = nI y
  | .inr (false, x, y) => its = nI 2 ∧ a = nI x ∧ b = nI y
theorem acts_lt {tk : Nat → Nat} {nf : Nat} {R A : List Row} {r : Row} (hC : CI tk nf (run tk c0 (R ++ A))) (hr : okR tk nf (run tk c0 (R ++ A)) r) : A.length < 44 := by
  have e := run_len tk (R ++ A) c0
  have hC2 := hC.st hr
  have e2 := run_len tk ((R ++ A) ++ [r]) c0
  rw [run_snoc] at e2
  have q1 := hC2.1.2.1
  have q2 := hC2.2.2.1.1
  have q3 := hC2.2.2.2.1.1
  rw [tN_mk] at q1
  have e0 : (cL c0).length + (cS c0).length + (cQ c0).length = 0 := rfl
  rw [List.length_append, List.length_append] at e2
  have : [r].length = 1 := rfl
  omega
theorem RelP.act {nf : Nat} {tk : Nat → Nat} {R A : List Row} {NL : List (List Nat)} {tp : List Nat} {r : Row} (h : RelP nf tk R A NL tp) (hr : okR tk nf (run tk c0 (R ++ A)) r) : RelP nf tk R (A ++ [r]) NL tp :=
  ⟨by rw [← List.append_assoc]; exact okRs_snoc.mpr ⟨h.1, hr⟩, h.2⟩
theorem run_act (tk : Nat → Nat) (R A : List Row) (r : Row) : run tk c0 (R ++ (A ++ [r])) = stp tk (run tk c0 (R ++ A)) r := by rw [← List.append_assoc, run_snoc]
theorem settled_fr (w : Mem) : Fr (fun k j i => k = 0 ∧ j = 4 ∧ i = 0) (fun _ _ => False) w (sF w 0 4 0 (nI 0)) := ⟨fun k j i z => by rw [gF_sF, if_neg z], fun _ _ _ => rfl, fun _ _ => rfl, fun _ _ _ => rfl⟩
