/-! text: the parts of a term -/
def FrP (at_ : Nat) (w v : Mem) : Prop := Fr (fun k j i => k = 9 ∧ (14 ≤ j ∧ j ≤ 19) ∧ i = 0) (fun k i => k = 43 ∧ i = 0) w v ∧ ∀ x, x < at_ + 1 → gA v 43 0 x = gA w 43 0 x
theorem FrP.tr {a : Nat} {w v u : Mem} (h : FrP a w v) (k : FrP a v u) : FrP a w u := ⟨h.1.tr k.1, fun x z => (k.2 x z).trans (h.2 x z)⟩
theorem Fr9.p {a : Nat} {w v : Mem} (h : Fr9 w v) : FrP a w v := ⟨h.mono (fun _ _ _ z => by omega) (fun _ _ z => z.elim), fun x _ => by rw [h.2.1 _ _ (fun z => z)]⟩
theorem mE_p {a : Nat} (w : Mem) (e : Int32) : FrP a w (mE w e) := ⟨⟨fun k j i z => by unfold mE; rw [gF_sF, if_neg (by omega), gF_sF, if_neg (by omega)], fun _ _ _ => rfl, fun _ _ => rfl, fun _ _ _ => rfl⟩, fun _ _ => rfl⟩
theorem FrP.A {a x : Nat} {w : Mem} {y : Int32} (h : a + 1 ≤ x) : FrP a w (sA w 43 0 x y) := ⟨⟨fun _ _ _ _ => rfl, fun k i z => by rw [gA_sA_ne (fun e => z e)], fun _ _ => rfl, fun _ _ _ => rfl⟩, fun z hz => by rw [gA_sA, if_neg (by omega)]⟩
theorem FrP.n {a : Nat} {w v : Mem} (h : FrP a w v) (ha : 192 ≤ a) : FrNn w v := ⟨fun k j i z => h.1.1 k j i (by omega), fun k i z => h.1.2.1 k i (by omega), fun x _ => by rw [h.1.2.1 41 0 (by omega)], fun x _ => by rw [h.1.2.1 42 0 (by omega)], fun x hx => h.2 x (by omega), fun x _ => by rw [h.1.2.1 44 0 (by omega)]⟩
theorem LO.pre {Fx Fm : Mem → Mem → Prop} {wx0 wm0 wx wm : Mem} {ox om : Option (Mem × Int32)} {G G' : Mem → Mem → Prop} (h : LO Fx Fm wx wm ox om G') (tx : ∀ {a b c : Mem}, Fx a b → Fx b c → Fx a c) (tm : ∀ {a b c : Mem}, Fm a b → Fm b c → Fm a c) (hx : Fx wx0 wx) (hm : Fm wm0 wm) (hG : ∀ vx vm, G' vx vm → G vx vm) : LO Fx Fm wx0 wm0 ox om G := by
  obtain ⟨vx, vm, a, b, c⟩ := h
  refine ⟨vx, vm, tx hx a, tm hm b, ?_⟩
  rcases c with ⟨c1, c2, c3⟩ | c
  · exact Or.inl ⟨c1, c2, hG _ _ c3⟩
  · exact Or.inr c
def PI (wx wm : Mem) (a : Nat) (ps : List Nat) (m : Nat) : Prop := ∀ j, j < ps.length → ps.getD j 0 < m ∧ gA wx 29 0 j = nI (ps.getD j 0) ∧ gA wm 43 0 (a + 1 + j) = nI (ps.getD j 0)
theorem PI.mem {wx wm vx vm : Mem} {a m : Nat} {ps : List Nat} (h : PI wx wm a ps m) (hx : gA vx 29 0 = gA wx 29 0) (hm : gA vm 43 0 = gA wm 43 0) : PI vx vm a ps m := fun j hj => by rw [hx, hm]; exact h j hj
