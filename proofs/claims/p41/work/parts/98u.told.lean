/-! the law's text(): what it tells, what it writes -/
theorem obind {α β : Type} {x : Option α} {a : α} {f : α → Option β} {r : Option β} (h : x = some a) (hr : f a = r) : Option.bind x f = r := by rw [h]; exact hr
theorem oif {α : Type} {c : Prop} [Decidable c] {x r : Option α} (hc : c) (h : x = r) : (if c then x else none) = r := by rw [if_pos hc]; exact h
theorem oit {α : Type} {c : Prop} [Decidable c] {x y r : Option α} (hc : c) (h : x = r) : (if c then x else y) = r := by rw [if_pos hc]; exact h
theorem oie {α : Type} {c : Prop} [Decidable c] {x y r : Option α} (hc : ¬ c) (h : y = r) : (if c then x else y) = r := by rw [if_neg hc]; exact h
theorem i_nat (x : Int32) : x = nI x.toBitVec.toNat := Int32.toBitVec_inj.mp (by
  show x.toBitVec = BitVec.ofNat 32 x.toBitVec.toNat
  rw [BitVec.ofNat_toNat, BitVec.setWidth_eq])
theorem and_max (x : Int32) : ∃ v, v < 2147483648 ∧ x &&& (2147483647 : Int32) = nI v := by
  refine ⟨x.toBitVec.toNat % 2 ^ 31, Nat.mod_lt _ (by decide), ?_⟩
  rw [← fa_mask, ← i_nat]; rfl
theorem next_ok {N a lo hi : Nat} {w : Mem} {sx : Nat × (Nat → Int32)} (hs : sx.1 < 2 ^ 31) (ha : gF w 46 1 0 = nI a) (h9 : a < 1000) (h : lo ≤ hi) (hh : hi < 1000) : ∃ d, lo ≤ d ∧ d ≤ hi ∧ f_X9_next N w sx (nI lo) (nI hi) = some (sF w 46 1 0 (nI (a + 1)), nI d) := by
  have e2 : (nI hi - nI lo) + (1 : Int32) = nI (hi - lo + 1) := by rw [n_sub h]; exact n_add _ 1
  have key : ∀ v, v < 2147483648 → ∃ d, lo ≤ d ∧ d ≤ hi ∧ f_X9_next_28_s1 N w sx (nI lo) (nI hi) (nI v) = some (sF w 46 1 0 (nI (a + 1)), nI d) := fun v hv => by
    have hm : v % (hi - lo + 1) < hi - lo + 1 := Nat.mod_lt _ (by omega)
    refine ⟨lo + v % (hi - lo + 1), by omega, by omega, ?_⟩
    rw [f_X9_next_28_s1, e2, if_neg (nI_ne0 (by omega) (by omega)), ha, pk_rem (by omega) (by omega) (by omega), n_add, show (1 : Int32) = nI 1 from rfl, n_add]
  rw [f_X9_next, ha]
  by_cases z : sx.1 ≤ a
  · rw [if_pos (nI_le z (by omega))]
    exact key 0 (by omega)
  · rw [if_neg (nI_ge (by omega) hs), nI_clamp (by omega), if_pos (inb_nI (by omega) (by omega))]
    obtain ⟨v, h1, h2⟩ := and_max (sx.2 a)
    rw [h2]
    exact key v h1
theorem i2c_k : ∀ k, k < 128 → i2c (nI k) = nI k := by
  have key : ∀ c : Fin 128, i2c (nI c.val) = nI c.val := by decide +kernel
  exact fun k hk => key ⟨k, hk⟩
theorem name_ok {N x : Nat} {w : Mem} (hx : x < 20) : f_X10_name N w (nI x) = some (nI (107 + x)) := by
  rw [f_X10_name, show (107 : Int32) = nI 107 from rfl, n_add, i2c_k _ (by omega)]
theorem gd_l {a b : List Nat} {j : Nat} (h : j < a.length) : (a ++ b).getD j 0 = a.getD j 0 := by rw [List.getD_eq_getElem?_getD, List.getD_eq_getElem?_getD, List.getElem?_append_left h]
theorem gd_r {a b : List Nat} {j : Nat} (h : a.length ≤ j) : (a ++ b).getD j 0 = b.getD (j - a.length) 0 := by rw [List.getD_eq_getElem?_getD, List.getD_eq_getElem?_getD, List.getElem?_append_right h]
/-! letters -/
def LT (w : Mem) (ls : List Nat) : Prop := lenT w = ls.length ∧ ∀ j, j < ls.length → ltT w j = ls.getD j 0 ∧ ls.getD j 0 < 256
theorem LT.to {w v : Mem} {ls : List Nat} (h : LT w ls) (h1 : gF v 60 0 0 = gF w 60 0 0) (h2 : gA v 60 0 = gA w 60 0) : LT v ls := by
  have e1 : lenT v = lenT w := by unfold lenT; rw [h1]
  have e2 : ltT v = ltT w := by funext j; unfold ltT; rw [h2]
  unfold LT; rw [e1, e2]; exact h
theorem LT.S {w : Mem} {ls cs : List Nat} (h : LT w ls) (hl : ls.length + cs.length ≤ 480) (hc : ∀ c ∈ cs, c < 256) : LT (apS w cs) (ls ++ cs) := by
  obtain ⟨h1, h2⟩ := h
  refine ⟨by rw [apS_len _ _ (by omega), h1, List.length_append], fun j hj => ?_⟩
  rw [List.length_append] at hj
  rw [apS_lt _ _ _ (by omega) hc, h1]
  by_cases z : j < ls.length
  · rw [if_neg (by omega), gd_l z]; exact h2 j z
  · rw [if_pos (by omega), gd_r (by omega)]
    refine ⟨rfl, hc _ ?_⟩
    rw [List.getD_eq_getElem?_getD, List.getElem?_eq_getElem (by omega)]
    exact List.getElem_mem (by omega)
theorem LT.C {w : Mem} {ls : List Nat} {c : Nat} (h : LT w ls) (hl : ls.length + 1 ≤ 480) (hc : c < 256) : LT (apC w (nI c)) (ls ++ [c]) := h.S (cs := [c]) hl (by simpa using hc)
theorem gF_apC {w : Mem} {x : Int32} {k j i : Nat} (h : k ≠ 60) : gF (apC w x) k j i = gF w k j i := by unfold apC; rw [gF_sF, if_neg (fun z => h z.1)]; rfl
theorem gA_apC {w : Mem} {x : Int32} {k i : Nat} (h : k ≠ 60) : gA (apC w x) k i = gA w k i := by unfold apC; rw [gA_sF]; unfold sA; rw [gA_sAf, if_neg (fun z => h z.1)]
abbrev FTp : Nat → Nat → Nat → Prop := fun k _ _ => k = 9 ∨ k = 46 ∨ k = 60
abbrev FTq : Nat → Nat → Prop := fun k _ => (40 ≤ k ∧ k ≤ 45) ∨ k = 60
theorem FT_C (w : Mem) (x : Int32) : Fr (fun k _ _ => k = 60) (fun k _ => k = 60) w (apC w x) := ⟨fun k j i z => gF_apC z, fun k i z => gA_apC z, fun _ _ => rfl, fun _ _ _ => rfl⟩
theorem FT_S : ∀ (cs : List Nat) (w : Mem), Fr (fun k _ _ => k = 60) (fun k _ => k = 60) w (apS w cs)
  | [], w => Fr.rf
  | c :: cs, w => (FT_C w (nI c)).tr (FT_S cs (apC w (nI c)))
/-! what is told -/
def TDm (w : Mem) (L : Tl) (S : Prs) : Prop := (∀ i, i < L.length → gA w 40 0 i = nI (tlF L i) ∧ (tlP L i).length ≤ 2 ∧ ∀ k, k < (tlP L i).length → gA w (41 + k) 0 i = nI ((tlP L i).getD k 0)) ∧ ∀ k i j, S[k]? = some (i, j) → gA w 43 0 k = nI i ∧ gA w 44 0 k = nI j
theorem TDm.to {w v : Mem} {L : Tl} {S : Prs} (h : TDm w L S) (h1 : ∀ k x, 40 ≤ k → k ≤ 42 → x < L.length → gA v k 0 x = gA w k 0 x) (h2 : ∀ k x, 43 ≤ k → k ≤ 44 → x < S.length → gA v k 0 x = gA w k 0 x) : TDm v L S := by
  refine ⟨fun i hi => ⟨by rw [h1 40 i (by omega) (by omega) hi]; exact (h.1 i hi).1, (h.1 i hi).2.1, fun k hk => ?_⟩, fun k i j e => ?_⟩
  · have := (h.1 i hi).2.1
    rw [h1 (41 + k) i (by omega) (by omega) hi]
    exact (h.1 i hi).2.2 k hk
  · have hk := (List.getElem?_eq_some_iff.mp e).1
    rw [h2 43 k (by omega) (by omega) hk, h2 44 k (by omega) (by omega) hk]
    exact h.2 k i j e
def HG (w0 w : Mem) (n a : Nat) (L : Tl) (S : Prs) (p : List (Nat × Nat × Nat)) (ls : List Nat) : Prop :=
  (gF w 9 5 0 = nI n ∧ gF w 9 6 0 = nI S.length ∧ gF w 46 1 0 = nI a) ∧ TDm w L S ∧ (∀ q ∈ p, (40 ≤ q.1 ∧ q.1 ≤ 44) ∧ gA w q.1 0 q.2.1 = nI q.2.2) ∧ LT w ls ∧ Fr FTp FTq w0 w
section HGS
variable {w0 w : Mem} {n a N : Nat} {L : Tl} {S : Prs} {p : List (Nat × Nat × Nat)} {ls : List Nat} {sx : Nat × (Nat → Int32)}
theorem HG.get (h : HG w0 w n a L S p ls) {k x v : Nat} (hq : (k, x, v) ∈ p) : gA w k 0 x = nI v := (h.2.2.1 _ hq).2
theorem HG.next (h : HG w0 w n a L S p ls) (hs : sx.1 < 2 ^ 31) (h9 : a < 1000) (N : Nat) {lo hi : Nat} (hl : lo ≤ hi) (hh : hi < 1000) : ∃ d v, lo ≤ d ∧ d ≤ hi ∧ f_X9_next N w sx (nI lo) (nI hi) = some (v, nI d) ∧ HG w0 v n (a + 1) L S p ls := by
  obtain ⟨⟨h1, h2, h3⟩, h4, h5, h6, h7⟩ := h
  obtain ⟨d, d1, d2, e⟩ := next_ok (N := N) (w := w) hs h3 h9 hl hh
  refine ⟨d, _, d1, d2, e, ⟨?_, ?_, ?_⟩, h4.to (fun _ _ _ _ _ => rfl) (fun _ _ _ _ _ => rfl), h5, h6.to (by rw [gF_sF, if_neg (by omega)]) rfl, h7.tr ⟨fun k j i z => by rw [gF_sF, if_neg (by omega)], fun _ _ _ => rfl, fun _ _ => rfl, fun _ _ _ => rfl⟩⟩
  · rw [gF_sF, if_neg (by omega)]; exact h1
  · rw [gF_sF, if_neg (by omega)]; exact h2
  · rw [gF_sF, if_pos ⟨rfl, rfl, rfl⟩]
theorem HG.as (h : HG w0 w n a L S p ls) {cs : List Nat} (hl : ls.length + cs.length ≤ 480) (hc : ∀ c ∈ cs, c < 256) : HG w0 (apS w cs) n a L S p (ls ++ cs) := by
  obtain ⟨⟨h1, h2, h3⟩, h4, h5, h6, h7⟩ := h
  have hf := FT_S cs w
  refine ⟨⟨(hf.1 _ _ _ (by omega)).trans h1, (hf.1 _ _ _ (by omega)).trans h2, (hf.1 _ _ _ (by omega)).trans h3⟩, h4.to (fun k x _ _ _ => by rw [hf.2.1 _ _ (by omega)]) (fun k x _ _ _ => by rw [hf.2.1 _ _ (by omega)]), fun q hq => ⟨(h5 q hq).1, by have := (h5 q hq).1; rw [hf.2.1 _ _ (by omega)]; exact (h5 q hq).2⟩, h6.S hl hc, h7.tr (hf.mono (fun _ _ _ z => by omega) (fun _ _ z => by omega))⟩
theorem HG.ac (h : HG w0 w n a L S p ls) {c : Nat} (hl : ls.length + 1 ≤ 480) (hc : c < 256) : HG w0 (apC w (nI c)) n a L S p (ls ++ [c]) := h.as (cs := [c]) hl (by simpa using hc)
theorem HG.len (h : HG w0 w n a L S p ls) : lenT w = ls.length := h.2.2.2.1.1
theorem HG.st (h : HG w0 w n a L S p ls) {k x v : Nat} (hk : 40 ≤ k ∧ k ≤ 44) (h1 : k ≤ 42 → L.length ≤ x) (h2 : 43 ≤ k → S.length ≤ x) (h3 : ∀ q ∈ p, ¬ (q.1 = k ∧ q.2.1 = x)) : HG w0 (sA w k 0 x (nI v)) n a L S ((k, x, v) :: p) ls := by
  obtain ⟨hA, h4, h5, h6, h7⟩ := h
  refine ⟨hA, h4.to (fun k2 x2 _ _ _ => by rw [gA_sA, if_neg (by omega)]) (fun k2 x2 _ _ _ => by rw [gA_sA, if_neg (by omega)]), fun q hq => ?_, h6.to rfl (by unfold sA; rw [gA_sAf, if_neg (by omega)]), h7.tr ⟨fun _ _ _ _ => rfl, fun k2 i z => by rw [gA_sA_ne (fun z2 => z (by omega))], fun _ _ => rfl, fun _ _ _ => rfl⟩⟩
  rcases List.mem_cons.mp hq with e | e
  · subst e; exact ⟨hk, by rw [gA_sA, if_pos ⟨rfl, rfl, rfl⟩]⟩
  · refine ⟨(h5 q e).1, ?_⟩
    rw [gA_sA, if_neg (fun z => h3 q e ⟨z.1, z.2.2⟩)]
    exact (h5 q e).2
theorem HG.pT (h : HG w0 w n a L S p ls) {f : Nat} {ps : List Nat} (h1 : (40, L.length, f) ∈ p) (h2 : ps.length ≤ 2) (h3 : ∀ k, k < ps.length → (41 + k, L.length, ps.getD k 0) ∈ p) : HG w0 w n a (L ++ [(f, ps)]) S p ls := by
  have hg := fun k x v (hq : (k, x, v) ∈ p) => h.get hq
  obtain ⟨hA, h4, h5, h6, h7⟩ := h
  refine ⟨hA, ⟨fun i hi => ?_, h4.2⟩, h5, h6, h7⟩
  rw [List.length_append, List.length_singleton] at hi
  by_cases z : i < L.length
  · rw [tlF_snoc z, tlP_snoc z]; exact h4.1 i z
  · have e : i = L.length := by omega
    subst e
    rw [tlF_last, tlP_last]
    exact ⟨hg _ _ _ h1, h2, fun k hk => hg _ _ _ (h3 k hk)⟩
theorem HG.pS (h : HG w0 w n a L S p ls) {i j : Nat} (h1 : (43, S.length, i) ∈ p) (h2 : (44, S.length, j) ∈ p) : HG w0 (sF w 9 6 0 (nI (S.length + 1))) n a L (S ++ [(i, j)]) p ls := by
  have hg := fun k x v (hq : (k, x, v) ∈ p) => h.get hq
  obtain ⟨⟨a1, a2, a3⟩, h4, h5, h6, h7⟩ := h
  refine ⟨⟨by rw [gF_sF, if_neg (by omega)]; exact a1, by rw [gF_sF, if_pos ⟨rfl, rfl, rfl⟩, List.length_append]; rfl, by rw [gF_sF, if_neg (by omega)]; exact a3⟩, ⟨h4.1, fun k i' j' e => ?_⟩, h5, h6.to (by rw [gF_sF, if_neg (by omega)]) rfl, h7.tr ⟨fun k j i z => by rw [gF_sF, if_neg (by omega)], fun _ _ _ => rfl, fun _ _ => rfl, fun _ _ _ => rfl⟩⟩
  by_cases z : k < S.length
  · rw [List.getElem?_append_left z] at e; exact h4.2 k i' j' e
  · have hk := (List.getElem?_eq_some_iff.mp e).1
    rw [List.length_append, List.length_singleton] at hk
    have e2 : k = S.length := by omega
    subst e2
    rw [List.getElem?_append_right (Nat.le_refl _), Nat.sub_self] at e
    cases e
    exact ⟨hg _ _ _ h1, hg _ _ _ h2⟩
theorem HG.n5 (h : HG w0 w n a L S p ls) (v : Nat) : HG w0 (sF w 9 5 0 (nI v)) v a L S p ls := by
  obtain ⟨⟨a1, a2, a3⟩, h4, h5, h6, h7⟩ := h
  exact ⟨⟨by rw [gF_sF, if_pos ⟨rfl, rfl, rfl⟩], by rw [gF_sF, if_neg (by omega)]; exact a2, by rw [gF_sF, if_neg (by omega)]; exact a3⟩, ⟨h4.1, h4.2⟩, h5, h6.to (by rw [gF_sF, if_neg (by omega)]) rfl, h7.tr ⟨fun k j i z => by rw [gF_sF, if_neg (by omega)], fun _ _ _ => rfl, fun _ _ => rfl, fun _ _ _ => rfl⟩⟩
theorem HG.fg (h : HG w0 w n a L S p ls) : HG w0 w n a L S [] ls := ⟨h.1, h.2.1, (fun q hq => absurd hq List.not_mem_nil), h.2.2.2⟩
end HGS
