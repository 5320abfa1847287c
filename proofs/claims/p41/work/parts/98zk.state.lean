/-! the law's state: the class, Told, draws -/
theorem ci5 {rs : List Row} (hok : okRs tk5 5 c0 rs) : CI tk5 5 (run tk5 c0 rs) := (CI.zero (by omega) (fun g hg => by
  have : g = 0 ∨ g = 1 ∨ g = 2 ∨ g = 3 ∨ g = 4 := by omega
  rcases this with rfl | rfl | rfl | rfl | rfl <;> decide)).rn hok
theorem lo9 {rs : List Row} (hok : okRs tk5 5 c0 rs) (h9 : (cL (run tk5 c0 rs)).length ≤ 9) : LO9 (cL (run tk5 c0 rs)) := by
  obtain ⟨h1, h2, h3, h4, h5, h6⟩ := ci5 hok
  refine ⟨h9, fun i hi => ⟨(h5 i hi).1, (h5 i hi).2, fun k hk => ?_⟩⟩
  exact h1.1 i hi k hk
/-- what a look leaves of Told -/
theorem TD.kx {w v : Mem} {a : Nat} {L : Tl} {S : Prs} (h : TD w a L S) (hk : KX w v) : TD v a L S := by
  obtain ⟨⟨h1, h2, h3⟩, h4⟩ := h
  exact ⟨⟨(hk.1 _ _ _ (by omega)).trans h1, (hk.1 _ _ _ (by omega)).trans h2, (hk.1 _ _ _ (by omega)).trans h3⟩, h4.to (fun k x k1 k2 _ => by rw [hk.2.1 _ _ (by omega)]) (fun k x k1 k2 _ => by rw [hk.2.1 _ _ (by omega)])⟩
theorem TD.mv {w v : Mem} {a : Nat} {L : Tl} {S : Prs} (h : TD w a L S) (h1 : ∀ k j i, 9 ≤ k → gF v k j i = gF w k j i) (h2 : ∀ k i, 40 ≤ k → gA v k i = gA w k i) : TD v a L S := by
  obtain ⟨⟨g1, g2, g3⟩, g4⟩ := h
  exact ⟨⟨(h1 _ _ _ (by omega)).trans g1, (h1 _ _ _ (by omega)).trans g2, (h1 _ _ _ (by omega)).trans g3⟩, g4.to (fun k x k1 k2 _ => by rw [h2 _ _ (by omega)]) (fun k x k1 k2 _ => by rw [h2 _ _ (by omega)])⟩
/-- Told's closes, the class beside it -/
theorem RelX.f45 {w v : Mem} {f nf : Nat} {tk : Nat → Nat} {R A : List Row} {NL : List (List Nat)} {tp : List Nat} (h : RelX w f nf tk R A NL tp) (hf : Fr45 w v) : RelX v f nf tk R A NL tp := by
  obtain ⟨⟨a1, a2, a3⟩, a4, a5, a6, a7, a8, a9⟩ := h
  refine ⟨⟨a1, (hf.2.2.2 _ _ _).trans a2, (hf.2.2.2 _ _ _).trans a3⟩, a4.fr hf (fun _ _ _ z => z.elim) (fun _ _ z => by omega), ⟨a5.1, (hf.1 _ _ _ (fun z => z)).trans a5.2.1, fun g hg => by rw [hf.2.1 31 f (by omega)]; exact a5.2.2 g hg⟩, ⟨a6.1, (hf.1 _ _ _ (fun z => z)).trans a6.2.1, fun p r hp => by rw [hf.2.1 17 f (by omega), hf.2.1 18 f (by omega)]; exact a6.2.2 p r hp⟩, fun t ht => by rw [hf.2.1 34 f (by omega)]; exact a7 t ht, ⟨(hf.1 _ _ _ (fun z => z)).trans a8.1, fun i hi => by rw [hf.2.1 30 0 (by omega)]; exact a8.2 i hi⟩, ?_⟩
  rcases a9 with e | ⟨e, e2, D, e3, e4⟩
  · exact Or.inl ((hf.1 _ _ _ (fun z => z)).trans e)
  · exact Or.inr ⟨(hf.1 _ _ _ (fun z => z)).trans e, (hf.1 _ _ _ (fun z => z)).trans e2, D, e3, fun t u ht hu => by rw [hf.2.1 10 0 (by omega), hf.2.1 11 0 (by omega)]; exact e4 t u ht hu⟩
theorem TD.f45 {w v : Mem} {a : Nat} {L : Tl} {S : Prs} (h : TD w a L S) (hf : Fr45 w v) : TD v a L S := by
  obtain ⟨⟨h1, h2, h3⟩, h4⟩ := h
  exact ⟨⟨(hf.1 _ _ _ (fun z => z)).trans h1, (hf.1 _ _ _ (fun z => z)).trans h2, (hf.1 _ _ _ (fun z => z)).trans h3⟩, h4.f45 hf⟩
/-- the leads of the joins are the least of the closure -/
theorem ldJ_E {tk : Nat → Nat} {nf : Nat} {c : Core} (h : CI tk nf c) : ∀ i, i < (cL c).length → ldJ (cJ c) i = ldE (mkT tk (cL c)) (inS (cS c)) i := fun i hi =>
  (ldE_uniq (T := mkT tk (cL c)) h.1.1 h.1.2.2.2.1 (fun i j h1 h2 => h.2.1 i j h1 h2) i hi).symm
theorem ldE_full {T : Trm} {S : Prs} : ldE T (Pk S (full S.length)) = ldE T (inS S) := by
  have e : Pk S (full S.length) = inS S := by funext i j; exact propext (pk_full i j)
  rw [e]
