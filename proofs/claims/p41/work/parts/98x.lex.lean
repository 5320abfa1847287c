/-! the tokens of the letters that are told -/
def TKs (tp : List Nat) (n : Nat) : Nat → List Kd → Prop
  | _, [] => True
  | q, K :: Ks => ∃ p q', NT tp n q p q' K ∧ TKs tp n q' Ks
def lexes (suf : List Nat) (Ks : List Kd) : Prop := ∀ (A tl tp : List Nat) (q n : Nat), tp = A ++ (suf ++ tl) → q = A.length → n = A.length + suf.length → TKs tp n q Ks
theorem gd_at {A suf tl tp : List Nat} (h : tp = A ++ (suf ++ tl)) {i j : Nat} (hj : j = A.length + i) (hi : i < suf.length) : tp.getD j 0 = suf.getD i 0 := by
  rw [h, gd_r (by omega), gd_l (by omega), show j - A.length = i by omega]
theorem gd_sp {sp : List Nat} (hsp : ∀ c ∈ sp, c = 32) {rest : List Nat} {i : Nat} (hi : i < sp.length) : (sp ++ rest).getD i 0 = 32 := by
  rw [gd_l hi, List.getD_eq_getElem?_getD, List.getElem?_eq_getElem hi]
  exact hsp _ (List.getElem_mem hi)
theorem lex_word {sp wd rest : List Nat} {Ks : List Kd} (hsp : ∀ c ∈ sp, c = 32) (hw : WOK wd) (hr : rest = [] ∨ ∃ c r, rest = c :: r ∧ ¬ (97 ≤ c ∧ c ≤ 122)) (h : lexes rest Ks) : lexes (sp ++ (wd ++ rest)) (.word wd :: Ks) := by
  intro A tl tp q n htp hq hn
  have hL : (sp ++ (wd ++ rest)).length = sp.length + (wd.length + rest.length) := by rw [List.length_append, List.length_append]
  have w1 := hw.1
  have g : ∀ i j, j = A.length + i → i < sp.length + (wd.length + rest.length) → tp.getD j 0 = (sp ++ (wd ++ rest)).getD i 0 := fun i j e hi => gd_at htp e (by rw [hL]; exact hi)
  have gw : ∀ i, i < wd.length → tp.getD (A.length + sp.length + i) 0 = wd.getD i 0 := fun i hi => by
    rw [g (sp.length + i) _ (by omega) (by omega), gd_r (by omega), gd_l (by omega), show sp.length + i - sp.length = i by omega]
  have lw : ∀ i, i < wd.length → 97 ≤ wd.getD i 0 ∧ wd.getD i 0 ≤ 122 := fun i hi => by
    rw [List.getD_eq_getElem?_getD, List.getElem?_eq_getElem hi]
    exact hw.2.2 _ (List.getElem_mem hi)
  have l0 := lw 0 (by omega)
  have g0 := gw 0 (by omega)
  refine ⟨A.length + sp.length, A.length + sp.length + wd.length, Or.inr (Or.inl ⟨⟨by omega, by omega, fun k k1 k2 => ?_, Or.inr ?_⟩, by omega, ?_, ⟨by omega, by omega, fun k k1 k2 => ?_, ?_⟩, by have := hw.2.1; omega, ?_⟩), ?_⟩
  · show tp.getD k 0 = 32
    rw [g (k - A.length) k (by omega) (by omega)]
    exact gd_sp hsp (by omega)
  · show ¬ tp.getD (A.length + sp.length) 0 = 32
    rw [Nat.add_zero] at g0
    rw [g0]; omega
  · show 97 ≤ tp.getD (A.length + sp.length) 0 ∧ _
    rw [Nat.add_zero] at g0
    rw [g0]; exact l0
  · show 97 ≤ tp.getD k 0 ∧ tp.getD k 0 ≤ 122
    have := gw (k - (A.length + sp.length)) (by omega)
    rw [show A.length + sp.length + (k - (A.length + sp.length)) = k by omega] at this
    rw [this]; exact lw _ (by omega)
  · rcases hr with e | ⟨c, r, e, hc⟩
    · left; rw [hn, hL, e]; show _ = A.length + (sp.length + (wd.length + 0)); omega
    · right
      show ¬ (97 ≤ tp.getD (A.length + sp.length + wd.length) 0 ∧ _)
      rw [g (sp.length + wd.length) _ (by omega) (by rw [e]; show _ < _ + (_ + (r.length + 1)); omega), gd_r (by omega), gd_r (by omega), show sp.length + wd.length - sp.length - wd.length = 0 by omega, e]
      exact hc
  · show some (Sum.inl wd) = some (Sum.inl (cut tp (A.length + sp.length) (A.length + sp.length + wd.length)))
    have e1 : tp = (A ++ sp ++ wd) ++ (rest ++ tl) := by rw [htp]; simp only [List.append_assoc]
    unfold cut
    rw [e1, List.take_left' (by rw [List.length_append, List.length_append]), List.drop_left' (by rw [List.length_append])]
  · exact h (A ++ (sp ++ wd)) tl tp _ n (by rw [htp]; simp only [List.append_assoc]) (by simp only [List.length_append]; omega) (by simp only [List.length_append] at hn ⊢; omega)
theorem lex_sgn {sp rest : List Nat} {c : Nat} {Ks : List Kd} (hsp : ∀ c ∈ sp, c = 32) (hc : sig c) (h : lexes rest Ks) : lexes (sp ++ (c :: rest)) (.sgn c :: Ks) := by
  intro A tl tp q n htp hq hn
  have hL : (sp ++ (c :: rest)).length = sp.length + (rest.length + 1) := by rw [List.length_append]; rfl
  have g : ∀ i j, j = A.length + i → i < sp.length + (rest.length + 1) → tp.getD j 0 = (sp ++ (c :: rest)).getD i 0 := fun i j e hi => gd_at htp e (by rw [hL]; exact hi)
  have gc : tp.getD (A.length + sp.length) 0 = c := by rw [g sp.length _ rfl (by omega), gd_r (Nat.le_refl _), Nat.sub_self]; rfl
  have hc2 : c = 59 ∨ c = 44 ∨ c = 61 ∨ c = 40 ∨ c = 41 := hc
  refine ⟨A.length + sp.length, A.length + sp.length + 1, Or.inr (Or.inr (Or.inr (Or.inr (Or.inr (Or.inl ⟨⟨by omega, by omega, fun k k1 k2 => ?_, Or.inr ?_⟩, by omega, ?_, ?_, ?_, rfl, ?_⟩))))), ?_⟩
  · show tp.getD k 0 = 32
    rw [g (k - A.length) k (by omega) (by omega)]
    exact gd_sp hsp (by omega)
  · show ¬ tp.getD (A.length + sp.length) 0 = 32
    rw [gc]; omega
  · show ¬ (97 ≤ tp.getD (A.length + sp.length) 0 ∧ _)
    rw [gc]; omega
  · show ¬ (48 ≤ tp.getD (A.length + sp.length) 0 ∧ _)
    rw [gc]; omega
  · rw [gc]; exact hc
  · rw [gc]
  · exact h (A ++ (sp ++ [c])) tl tp _ n (by rw [htp]; simp only [List.append_assoc, List.cons_append, List.nil_append]) (by simp only [List.length_append, List.length_cons, List.length_nil]; omega) (by simp only [List.length_append, List.length_cons, List.length_nil] at hn ⊢; omega)
theorem lex_dig {sp rest : List Nat} {d : Nat} {Ks : List Kd} (hsp : ∀ c ∈ sp, c = 32) (hd : d ≤ 9) (hr : rest = [] ∨ ∃ c r, rest = c :: r ∧ ¬ (48 ≤ c ∧ c ≤ 57)) (h : lexes rest Ks) : lexes (sp ++ ((48 + d) :: rest)) (.dig d :: Ks) := by
  intro A tl tp q n htp hq hn
  have hL : (sp ++ ((48 + d) :: rest)).length = sp.length + (rest.length + 1) := by rw [List.length_append]; rfl
  have g : ∀ i j, j = A.length + i → i < sp.length + (rest.length + 1) → tp.getD j 0 = (sp ++ ((48 + d) :: rest)).getD i 0 := fun i j e hi => gd_at htp e (by rw [hL]; exact hi)
  have gc : tp.getD (A.length + sp.length) 0 = 48 + d := by rw [g sp.length _ rfl (by omega), gd_r (Nat.le_refl _), Nat.sub_self]; rfl
  refine ⟨A.length + sp.length, A.length + sp.length + 1, Or.inr (Or.inr (Or.inr (Or.inl ⟨⟨by omega, by omega, fun k k1 k2 => ?_, Or.inr ?_⟩, by omega, ?_, ?_, rfl, ?_⟩))), ?_⟩
  · show tp.getD k 0 = 32
    rw [g (k - A.length) k (by omega) (by omega)]
    exact gd_sp hsp (by omega)
  · show ¬ tp.getD (A.length + sp.length) 0 = 32
    rw [gc]; omega
  · show 48 ≤ tp.getD (A.length + sp.length) 0 ∧ tp.getD (A.length + sp.length) 0 ≤ 57
    rw [gc]; omega
  · intro z
    have z2 : 48 ≤ tp.getD (A.length + sp.length + 1) 0 ∧ tp.getD (A.length + sp.length + 1) 0 ≤ 57 := z.2
    rcases hr with e | ⟨c, r, e, hc⟩
    · have := z.1; rw [hn, hL, e] at this; exact absurd this (by show ¬ _ < _ + (_ + (0 + 1)); omega)
    · rw [g (sp.length + 1) _ (by omega) (by rw [e]; show _ < _ + (r.length + 1 + 1); omega), gd_r (by omega), show sp.length + 1 - sp.length = 1 by omega, e] at z2
      exact hc z2
  · rw [gc, show 48 + d - 48 = d by omega]
  · exact h (A ++ (sp ++ [48 + d])) tl tp _ n (by rw [htp]; simp only [List.append_assoc, List.cons_append, List.nil_append]) (by simp only [List.length_append, List.length_cons, List.length_nil]; omega) (by simp only [List.length_append, List.length_cons, List.length_nil] at hn ⊢; omega)
theorem lex_end : lexes [] [.eot] := by
  intro A tl tp q n htp hq hn
  have e : n = q := by rw [hn, hq]; rfl
  exact ⟨q, q, Or.inl ⟨⟨by omega, by omega, fun k k1 k2 => by omega, Or.inl rfl⟩, e, e, rfl⟩, trivial⟩
/-! the rows' tokens -/
def tkp : List Nat → List Kd
  | [] => []
  | [a] => [.sgn 40, .word [107 + a], .sgn 41]
  | a :: b :: _ => [.sgn 40, .word [107 + a], .sgn 44, .word [107 + b], .sgn 41]
def tkr (t : Nat) : Row → List Kd
  | .inl x => [.word kwT, .word [107 + t], .sgn 61, .word [fch x.1]] ++ tkp x.2
  | .inr x => [.word kwS, .word [107 + x.2.1], .word [107 + x.2.2]]
def tks : Nat → List Row → List Kd
  | _, [] => [.eot]
  | t, r :: rs => .sgn 59 :: (tkr t r ++ tks (nx9 t r) rs)
def GR (t : Nat) : Row → Prop
  | .inl x => t < 12 ∧ x.1 < 5 ∧ ∀ k, k < x.2.length → x.2.getD k 0 < 12
  | .inr x => x.2.1 < 12 ∧ x.2.2 < 12
def GRs : Nat → List Row → Prop
  | _, [] => True
  | t, r :: rs => GR t r ∧ GRs (nx9 t r) rs
theorem w1_ok {x : Nat} (h : x < 12) : WOK [107 + x] := ⟨Nat.le_refl 1, by show 1 ≤ 6; omega, fun c hc => by rw [List.mem_singleton] at hc; omega⟩
theorem fch_ok : ∀ f, f < 5 → WOK [fch f] := fun f hf => ⟨Nat.le_refl 1, by show 1 ≤ 6; omega, fun c hc => by
  rw [List.mem_singleton] at hc
  have : f = 0 ∨ f = 1 ∨ f = 2 ∨ f = 3 ∨ f = 4 := by omega
  subst hc
  rcases this with rfl | rfl | rfl | rfl | rfl <;> decide⟩
def sB (rest : List Nat) : Prop := rest = [] ∨ ∃ r, rest = 59 :: r
theorem sB.l {rest : List Nat} (h : sB rest) : rest = [] ∨ ∃ c r, rest = c :: r ∧ ¬ (97 ≤ c ∧ c ≤ 122) := h.imp id (fun ⟨r, e⟩ => ⟨59, r, e, by omega⟩)
theorem sB.d {rest : List Nat} (h : sB rest) : rest = [] ∨ ∃ c r, rest = c :: r ∧ ¬ (48 ≤ c ∧ c ≤ 57) := h.imp id (fun ⟨r, e⟩ => ⟨59, r, e, by omega⟩)
theorem nl_c {c : Nat} {r : List Nat} (h : ¬ (97 ≤ c ∧ c ≤ 122)) : c :: r = [] ∨ ∃ c' r', c :: r = c' :: r' ∧ ¬ (97 ≤ c' ∧ c' ≤ 122) := Or.inr ⟨c, r, rfl, h⟩
theorem sp0 : ∀ c ∈ ([] : List Nat), c = 32 := fun c h => absurd h List.not_mem_nil
theorem sp1 : ∀ c ∈ ([32] : List Nat), c = 32 := fun c h => List.mem_singleton.mp h
theorem lex_prt {ps rest : List Nat} {Ks : List Kd} (hp : ps.length ≤ 2) (hb : ∀ k, k < ps.length → ps.getD k 0 < 12) (hr : sB rest) (h : lexes rest Ks) : lexes (prt ps ++ rest) (tkp ps ++ Ks) ∧ (prt ps ++ rest = [] ∨ ∃ c r, prt ps ++ rest = c :: r ∧ ¬ (97 ≤ c ∧ c ≤ 122)) := by
  match ps, hp, hb with
  | [], _, _ => exact ⟨h, hr.l⟩
  | [a], _, hb =>
    have ha := hb 0 (by show 0 < 1; omega)
    refine ⟨?_, nl_c (by omega)⟩
    have s3 := lex_sgn (sp := []) (c := 41) sp0 (by right; right; right; right; rfl) h
    have s2 := lex_word (sp := []) sp0 (w1_ok ha) (nl_c (c := 41) (by omega)) s3
    exact lex_sgn (sp := [32]) (c := 40) sp1 (by right; right; right; left; rfl) s2
  | [a, b], _, hb =>
    have ha := hb 0 (by show 0 < 2; omega)
    have hb2 := hb 1 (by show 1 < 2; omega)
    refine ⟨?_, nl_c (by omega)⟩
    have s5 := lex_sgn (sp := []) (c := 41) sp0 (by right; right; right; right; rfl) h
    have s4 := lex_word (sp := [32]) sp1 (w1_ok hb2) (nl_c (c := 41) (by omega)) s5
    have s3 := lex_sgn (sp := []) (c := 44) sp0 (by right; left; rfl) s4
    have s2 := lex_word (sp := []) sp0 (w1_ok ha) (nl_c (c := 44) (by omega)) s3
    exact lex_sgn (sp := [32]) (c := 40) sp1 (by right; right; right; left; rfl) s2
  | _ :: _ :: _ :: _, hp, _ => exact absurd hp (by show ¬ _ + 1 + 1 + 1 ≤ 2; omega)
theorem lex_row {t : Nat} {r : Row} {rest : List Nat} {Ks : List Kd} (hg : GR t r) (h2 : ∀ x, r = .inl x → x.2.length ≤ 2) (hr : sB rest) (h : lexes rest Ks) : lexes (lin t r ++ rest) (.sgn 59 :: (tkr t r ++ Ks)) := by
  rcases r with ⟨f, ps⟩ | ⟨b, u, v⟩
  · obtain ⟨p1, p2⟩ := lex_prt (h2 _ rfl) hg.2.2 hr h
    have s4 := lex_word (sp := [32]) sp1 (fch_ok f hg.2.1) p2 p1
    have s3 := lex_sgn (sp := [32]) (c := 61) sp1 (by right; right; left; rfl) s4
    have s2 := lex_word (sp := [32]) sp1 (w1_ok hg.1) (nl_c (c := 32) (by omega)) s3
    have s1 := lex_word (sp := []) sp0 kwT_ok (nl_c (c := 32) (by omega)) s2
    have s0 := lex_sgn (sp := []) (c := 59) sp0 (Or.inl rfl) s1
    have e : lin t (.inl (f, ps)) ++ rest = [] ++ (59 :: ([] ++ (kwT ++ ([32] ++ ([107 + t] ++ ([32] ++ (61 :: ([32] ++ ([fch f] ++ (prt ps ++ rest)))))))))) := by
      show ([59, 116, 101, 114, 109, 32] ++ [107 + t] ++ [32, 61, 32] ++ [fch f] ++ prt ps) ++ rest = _
      simp only [kwT, List.append_assoc, List.cons_append, List.nil_append]
    rw [e]
    exact s0
  · have s3 := lex_word (sp := [32]) sp1 (w1_ok hg.2) hr.l h
    have s2 := lex_word (sp := [32]) sp1 (w1_ok hg.1) (nl_c (c := 32) (by omega)) s3
    have s1 := lex_word (sp := []) sp0 kwS_ok (nl_c (c := 32) (by omega)) s2
    have s0 := lex_sgn (sp := []) (c := 59) sp0 (Or.inl rfl) s1
    have e : lin t (.inr (b, u, v)) ++ rest = [] ++ (59 :: ([] ++ (kwS ++ ([32] ++ ([107 + u] ++ ([32] ++ ([107 + v] ++ rest))))))) := by
      show ([59, 115, 97, 109, 101, 32] ++ [107 + u] ++ [32] ++ [107 + v]) ++ rest = _
      simp only [kwS, List.append_assoc, List.cons_append, List.nil_append]
    rw [e]
    exact s0
theorem lns_B : ∀ (rs : List Row) (t : Nat), sB (lns t rs)
  | [], _ => Or.inl rfl
  | r :: rs, t => Or.inr (by
    rcases r with x | x
    · exact ⟨_, rfl⟩
    · exact ⟨_, rfl⟩)
theorem lex_rows : ∀ (rs : List Row) (t : Nat), GRs t rs → (∀ x, .inl x ∈ rs → x.2.length ≤ 2) → lexes (lns t rs) (tks t rs)
  | [], t, _, _ => lex_end
  | r :: rs, t, hg, h2 => lex_row hg.1 (fun x e => h2 x (by rw [e]; exact List.mem_cons_self)) (lns_B rs _) (lex_rows rs _ hg.2 (fun x hx => h2 x (List.mem_cons_of_mem _ hx)))
def bTk : List Kd := [.word kwF, .word [97], .dig 0, .sgn 59, .word kwF, .word [98], .dig 0, .sgn 59, .word kwF, .word [99], .dig 0, .sgn 59, .word kwF, .word [102], .dig 1, .sgn 59, .word kwF, .word [103], .dig 2]
theorem lex_fun {f d : Nat} {rest : List Nat} {Ks : List Kd} (hf : f < 5) (hd : d ≤ 9) (hr : sB rest) (h : lexes rest Ks) : lexes (kwF ++ ([32] ++ ([fch f] ++ ([32] ++ ((48 + d) :: rest))))) (.word kwF :: .word [fch f] :: .dig d :: Ks) := by
  have s3 := lex_dig (sp := [32]) sp1 hd hr.d h
  have s2 := lex_word (sp := [32]) sp1 (fch_ok f hf) (nl_c (c := 32) (by omega)) s3
  exact lex_word (sp := []) sp0 kwF_ok (nl_c (c := 32) (by omega)) s2
theorem lex_all {rs : List Row} (hg : GRs 0 rs) (h2 : ∀ x, .inl x ∈ rs → x.2.length ≤ 2) : lexes (BASE ++ lns 0 rs) (bTk ++ tks 0 rs) := by
  have s5 := lex_fun (f := 4) (d := 2) (by omega) (by omega) (lns_B rs 0) (lex_rows rs 0 hg h2)
  have s4 := lex_fun (f := 3) (d := 1) (by omega) (by omega) (Or.inr ⟨_, rfl⟩) (lex_sgn (sp := []) (c := 59) sp0 (Or.inl rfl) s5)
  have s3 := lex_fun (f := 2) (d := 0) (by omega) (by omega) (Or.inr ⟨_, rfl⟩) (lex_sgn (sp := []) (c := 59) sp0 (Or.inl rfl) s4)
  have s2 := lex_fun (f := 1) (d := 0) (by omega) (by omega) (Or.inr ⟨_, rfl⟩) (lex_sgn (sp := []) (c := 59) sp0 (Or.inl rfl) s3)
  exact lex_fun (f := 0) (d := 0) (by omega) (by omega) (Or.inr ⟨_, rfl⟩) (lex_sgn (sp := []) (c := 59) sp0 (Or.inl rfl) s2)
