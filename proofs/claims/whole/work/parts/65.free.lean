/-! free: pairs of terms that could be made one -/
theorem sm_swap (g : Nat → Nat → Nat) (m : Nat) : ∀ n, fb_sm (fun i => fb_sm (fun j => g i j) m) n = fb_sm (fun j => fb_sm (fun i => g i j) n) m
  | 0 => by
    show 0 = fb_sm (fun _ => 0) m
    rw [fb_sm_const]; omega
  | n + 1 => by
    rw [fb_sm_succ, sm_swap g m n, ← fb_sm_add]
    rfl
theorem sm_one {f : Nat → Nat} {x : Nat} : ∀ n, x < n → (∀ k, k < n → k ≠ x → f k = 0) → fb_sm f n = f x
  | 0, h, _ => by omega
  | n + 1, h, h0 => by
    rw [fb_sm_succ]
    by_cases e : x = n
    · subst e
      rw [fb_sm_cong (g := fun _ => 0) (fun k hk => h0 k (by omega) (by omega)), fb_sm_const]; omega
    · rw [sm_one n (by omega) (fun k hk => h0 k (by omega)), h0 n (by omega) (fun q => e q.symm)]; omega
theorem ct_sm (p : Nat → Bool) : ∀ n, fb_ct p n = fb_sm (fun k => if p k then 1 else 0) n
  | 0 => rfl
  | n + 1 => by rw [fb_ct_succ, fb_sm_succ, ct_sm p n]
theorem sm_mulr (f : Nat → Nat) (c : Nat) : ∀ n, fb_sm (fun k => f k * c) n = fb_sm f n * c
  | 0 => by show 0 = 0 * c; omega
  | n + 1 => by rw [fb_sm_succ, fb_sm_succ, sm_mulr f c n, Nat.add_mul]
/-- how many are in the group of b -/
def gm (ld : Nat → Nat) (n b : Nat) : Nat := fb_ct (fun s => decide (ld s = ld b)) n
theorem fiber {n : Nat} {ld : Nat → Nat} (hC : Can n ld) (H : Nat → Nat) : fb_sm (fun j => H (ld j)) n = fb_sm (fun b => if ld b = b then gm ld n b * H b else 0) n := by
  have h1 : ∀ b, b < n → (if ld b = b then gm ld n b * H b else 0) = fb_sm (fun j => if ld j = b then H b else 0) n := by
    intro b hb
    by_cases e : ld b = b
    · rw [if_pos e]
      unfold gm
      rw [ct_sm, ← sm_mulr]
      refine fb_sm_cong (fun k hk => ?_)
      rw [e]
      by_cases z : ld k = b
      · simp [z]
      · simp [z]
    · rw [if_neg e]
      rw [fb_sm_cong (g := fun _ => 0) (fun k hk => if_neg (fun z => e (by rw [← z]; exact (hC k hk).2))), fb_sm_const]; omega
  rw [fb_sm_cong h1, sm_swap (fun b j => if ld j = b then H b else 0)]
  refine fb_sm_cong (fun j hj => ?_)
  have := (hC j hj).1
  rw [sm_one (x := ld j) n (by omega) (fun k hk hne => if_neg (fun z => hne z.symm)), if_pos rfl]
/-- a sum over pairs, the first below the second -/
def dsm (g : Nat → Nat → Nat) (n : Nat) : Nat := fb_sm (fun i => fb_sm (fun j => if i < j then g i j else 0) n) n
theorem dsm_two {g : Nat → Nat → Nat} (n : Nat) (hs : ∀ i j, i < n → j < n → g i j = g j i) (h0 : ∀ i, i < n → g i i = 0) : fb_sm (fun i => fb_sm (fun j => g i j) n) n = 2 * dsm g n := by
  have h1 : fb_sm (fun i => fb_sm (fun j => g i j) n) n = dsm g n + fb_sm (fun i => fb_sm (fun j => if j < i then g i j else 0) n) n := by
    unfold dsm
    rw [← fb_sm_add]
    refine fb_sm_cong (fun i hi => ?_)
    rw [← fb_sm_add]
    refine fb_sm_cong (fun j hj => ?_)
    rcases Nat.lt_trichotomy i j with q | q | q
    · rw [if_pos q, if_neg (by omega)]; omega
    · subst q; simp [h0 i hi]
    · rw [if_neg (by omega), if_pos q]; omega
  have h2 : fb_sm (fun i => fb_sm (fun j => if j < i then g i j else 0) n) n = dsm g n := by
    rw [sm_swap (fun i j => if j < i then g i j else 0)]
    unfold dsm
    refine fb_sm_cong (fun i hi => fb_sm_cong (fun j hj => ?_))
    by_cases q : i < j
    · rw [if_pos q, if_pos q, hs j i hj hi]
    · rw [if_neg q, if_neg q]
  rw [h1, h2]; omega
/-- pairs of terms of different groups, counted by groups -/
theorem pairs_groups {n : Nat} {ld : Nat → Nat} (hC : Can n ld) (P : Nat → Nat → Nat) (hs : ∀ i j, i < n → j < n → P i j = P j i) (hg : ∀ i j, i < n → j < n → P i j = P (ld i) (ld j)) : dsm (fun i j => if ld i = ld j then 0 else P i j) n = dsm (fun a b => if ld a = a ∧ ld b = b then gm ld n a * gm ld n b * P a b else 0) n := by
  have hl : ∀ i, i < n → ld i < n := fun i hi => by have := (hC i hi).1; omega
  have e1 : fb_sm (fun i => fb_sm (fun j => if ld i = ld j then 0 else P i j) n) n = fb_sm (fun a => fb_sm (fun b => if ld a = a ∧ ld b = b then (if a = b then 0 else gm ld n a * gm ld n b * P a b) else 0) n) n := by
    have s1 : ∀ i, i < n → fb_sm (fun j => if ld i = ld j then 0 else P i j) n = fb_sm (fun b => if ld b = b then gm ld n b * (if ld i = b then 0 else P (ld i) b) else 0) n := by
      intro i hi
      rw [← fiber hC (fun b => if ld i = b then 0 else P (ld i) b)]
      refine fb_sm_cong (fun j hj => ?_)
      by_cases z : ld i = ld j
      · rw [if_pos z, if_pos z]
      · rw [if_neg z, if_neg z]; exact hg i j hi hj
    rw [fb_sm_cong s1, fiber hC (fun a => fb_sm (fun b => if ld b = b then gm ld n b * (if a = b then 0 else P a b) else 0) n)]
    refine fb_sm_cong (fun a ha => ?_)
    by_cases za : ld a = a
    · rw [if_pos za, Nat.mul_comm, ← sm_mulr]
      refine fb_sm_cong (fun b hb => ?_)
      by_cases zb : ld b = b
      · by_cases zab : a = b
        · subst zab; simp [za]
        · simp only [zb, za, zab, and_self, if_true, if_false]
          rw [Nat.mul_comm (gm ld n a) (gm ld n b), Nat.mul_assoc, Nat.mul_assoc, Nat.mul_comm (P a b)]
      · simp [zb]
    · rw [if_neg za]
      rw [fb_sm_cong (g := fun _ => 0) (fun k hk => if_neg (fun z => za z.1)), fb_sm_const]; omega
  have t1 := dsm_two (g := fun i j => if ld i = ld j then 0 else P i j) n (fun i j hi hj => by
    show (if ld i = ld j then 0 else P i j) = (if ld j = ld i then 0 else P j i)
    by_cases z : ld i = ld j
    · rw [if_pos z, if_pos z.symm]
    · rw [if_neg z, if_neg (fun q => z q.symm)]; exact hs i j hi hj) (fun i hi => if_pos rfl)
  have t2 := dsm_two (g := fun a b => if ld a = a ∧ ld b = b then (if a = b then 0 else gm ld n a * gm ld n b * P a b) else 0) n (fun a b ha hb => by
    show (if ld a = a ∧ ld b = b then (if a = b then 0 else gm ld n a * gm ld n b * P a b) else 0) = (if ld b = b ∧ ld a = a then (if b = a then 0 else gm ld n b * gm ld n a * P b a) else 0)
    by_cases z : ld a = a ∧ ld b = b
    · rw [if_pos z, if_pos (⟨z.2, z.1⟩ : ld b = b ∧ ld a = a)]
      by_cases zab : a = b
      · rw [if_pos zab, if_pos zab.symm]
      · rw [if_neg zab, if_neg (fun q => zab q.symm), hs a b ha hb, Nat.mul_comm (gm ld n a)]
    · rw [if_neg z, if_neg (fun q : ld b = b ∧ ld a = a => z ⟨q.2, q.1⟩)]) (fun a ha => by
    show (if ld a = a ∧ ld a = a then (if a = a then 0 else gm ld n a * gm ld n a * P a a) else 0) = 0
    by_cases z : ld a = a ∧ ld a = a
    · rw [if_pos z, if_pos rfl]
    · rw [if_neg z])
  have t3 : dsm (fun a b => if ld a = a ∧ ld b = b then (if a = b then 0 else gm ld n a * gm ld n b * P a b) else 0) n = dsm (fun a b => if ld a = a ∧ ld b = b then gm ld n a * gm ld n b * P a b else 0) n := by
    unfold dsm
    refine fb_sm_cong (fun a ha => fb_sm_cong (fun b hb => ?_))
    by_cases q : a < b
    · have hab : ¬ a = b := by omega
      simp only [q, if_true, hab, if_false]
    · simp only [q, if_false]
  rw [← t3]
  omega
/-- no clash, were a same of i and j there -/
noncomputable def frP (T : Trm) (S Q : Prs) (i j : Nat) : Nat := b01 (fcl (ldE T (Ew S i j)) Q = none)
theorem ew_mono {T : Trm} {S : Prs} (hT : TOK T) (hS : PRok (tN T) S) {i j i' j' : Nat} (hi : i < tN T) (hj : j < tN T) (hi' : i' < tN T) (hj' : j' < tN T) (h1 : Cg T (inS S) i i') (h2 : Cg T (inS S) j j') : ∀ x y, Cg T (Ew S i j) x y → Cg T (Ew S i' j') x y := by
  intro x y h
  refine cg_trans hT (fun a b hab => ?_) h
  rcases hab with q | ⟨rfl, rfl⟩
  · exact cg_in (Or.inl q)
  · have hc := cg_congr T hT (Ew S i' j')
    have g1 : Cg T (Ew S i' j') a i' := cg_mono (fun _ _ z => Or.inl z) h1
    have g2 : Cg T (Ew S i' j') b j' := cg_mono (fun _ _ z => Or.inl z) h2
    have g3 : Cg T (Ew S i' j') i' j' := cg_in (Or.inr ⟨rfl, rfl⟩)
    exact hc.2.2.1 a i' b hi hi' hj g1 (hc.2.2.1 i' j' b hi' hj' hj g3 (hc.2.1 b j' hj hj' g2))
theorem ldE_cong {T : Trm} {E E' : Nat → Nat → Prop} (h : ∀ x y, Cg T E x y ↔ Cg T E' x y) : ldE T E = ldE T E' := by
  funext i
  unfold ldE
  have : (fun j => @decide (Cg T E j i) (Classical.propDecidable _)) = (fun j => @decide (Cg T E' j i) (Classical.propDecidable _)) := by
    funext j
    have e : Cg T E j i = Cg T E' j i := propext (h j i)
    by_cases z : Cg T E j i
    · rw [(@decide_eq_true_iff _ (Classical.propDecidable _)).mpr z, (@decide_eq_true_iff _ (Classical.propDecidable _)).mpr (e ▸ z)]
    · rw [(@decide_eq_false_iff_not _ (Classical.propDecidable _)).mpr z, (@decide_eq_false_iff_not _ (Classical.propDecidable _)).mpr (e ▸ z)]
  rw [this]
theorem frP_cong {T : Trm} {S Q : Prs} (hT : TOK T) (hS : PRok (tN T) S) {i j i' j' : Nat} (hi : i < tN T) (hj : j < tN T) (hi' : i' < tN T) (hj' : j' < tN T) (h1 : Cg T (inS S) i i') (h2 : Cg T (inS S) j j') : frP T S Q i j = frP T S Q i' j' := by
  have hc := cg_congr T hT (inS S)
  unfold frP
  rw [ldE_cong (fun x y => ⟨ew_mono hT hS hi hj hi' hj' h1 h2 x y, ew_mono hT hS hi' hj' hi hj (hc.2.1 _ _ hi hi' h1) (hc.2.1 _ _ hj hj' h2) x y⟩)]
theorem frP_symm {T : Trm} {S Q : Prs} (hT : TOK T) {i j : Nat} (hi : i < tN T) (hj : j < tN T) : frP T S Q i j = frP T S Q j i := by
  have key : ∀ a b, a < tN T → b < tN T → ∀ x y, Cg T (Ew S a b) x y → Cg T (Ew S b a) x y := by
    intro a b ha hb x y h
    refine cg_trans hT (fun p q hpq => ?_) h
    rcases hpq with z | ⟨rfl, rfl⟩
    · exact cg_in (Or.inl z)
    · exact (cg_congr T hT (Ew S q p)).2.1 q p hb ha (cg_in (Or.inr ⟨rfl, rfl⟩))
  unfold frP
  rw [ldE_cong (fun x y => ⟨key i j hi hj x y, key j i hj hi x y⟩)]
theorem gm_le (ld : Nat → Nat) (n b : Nat) : gm ld n b ≤ n := fb_ct_le _ _
theorem b01_le (P : Prop) : b01 P ≤ 1 := by have := b01_lt P; omega
set_option maxHeartbeats 8000000 in
theorem op_free {N : Nat} {wx wm : Mem} (hN : 276 < N) (h : Rel wx wm) : Op (f_X8_free N wx) (f_X9_free N wm) := by
  have hT := h.thrown
  obtain ⟨f, nf, tk, R, A, NL, tp, hC, q1, q2⟩ := id hT
  have hCI := hC.ci
  have hX := hC.1
  have hM := hC.2.1
  have hn : tN (cT tk R A) ≤ 24 := hCI.1.2.1
  have hTO : TOK (cT tk R A) := hCI.1.1
  have hSok : PRok (tN (cT tk R A)) (cSs tk R A) := hCI.2.2.1.2
  have hCan : Can (tN (cT tk R A)) (ldJ (cJ (run tk c0 (R ++ A)))) := hCI.1.2.2.2.1
  have hcg := hCI.2.1
  generalize hld : ldJ (cJ (run tk c0 (R ++ A))) = ld at hCan hcg
  generalize hQ : cQ (run tk c0 (R ++ A)) = Q
  -- what one pair gives
  let gM : Nat → Nat → Nat := fun i j => if ld i = ld j then 0 else frP (cT tk R A) (cSs tk R A) Q i j
  let gX : Nat → Nat → Nat := fun a b => if ld a = a ∧ ld b = b then gm ld (tN (cT tk R A)) a * gm ld (tN (cT tk R A)) b * frP (cT tk R A) (cSs tk R A) Q a b else 0
  have hEq : dsm gM (tN (cT tk R A)) = dsm gX (tN (cT tk R A)) := by
    refine pairs_groups hCan (frP (cT tk R A) (cSs tk R A) Q) (fun i j hi hj => frP_symm hTO hi hj) (fun i j hi hj => ?_)
    have li := hCan i hi
    have lj := hCan j hj
    refine frP_cong hTO hSok hi hj (by omega) (by omega) ?_ ?_
    · exact (hcg i (ld i) hi (show ld i < tN (cT tk R A) by omega)).mp li.2.symm
    · exact (hcg j (ld j) hj (show ld j < tN (cT tk R A) by omega)).mp lj.2.symm
  have gX_le : ∀ a b, gX a b ≤ 576 := by
    intro a b
    show (if ld a = a ∧ ld b = b then gm ld (tN (cT tk R A)) a * gm ld (tN (cT tk R A)) b * frP (cT tk R A) (cSs tk R A) Q a b else 0) ≤ 576
    split
    · have h1 := Nat.mul_le_mul (gm_le ld (tN (cT tk R A)) a) (gm_le ld (tN (cT tk R A)) b)
      have h2 := Nat.mul_le_mul h1 (b01_le (fcl (ldE (cT tk R A) (Ew (cSs tk R A) a b)) Q = none))
      have h3 : tN (cT tk R A) * tN (cT tk R A) * 1 ≤ 24 * 24 * 1 := Nat.mul_le_mul (Nat.mul_le_mul hn hn) (Nat.le_refl _)
      exact Nat.le_trans h2 h3
    · omega
  have gM_le : ∀ a b, gM a b ≤ 1 := by
    intro a b
    show (if ld a = ld b then 0 else frP (cT tk R A) (cSs tk R A) Q a b) ≤ 1
    split
    · omega
    · exact b01_le _
  have bnd : ∀ (g : Nat → Nat → Nat) (c : Nat), (∀ a b, g a b ≤ c) → c ≤ 576 → ∀ i j, i ≤ 24 → j ≤ 24 → fb_sm (fun i => fb_sm (fun j => if i < j then g i j else 0) (tN (cT tk R A))) i + fb_sm (fun j => if i < j then g i j else 0) j ≤ 1000000 := by
    intro g c hg hc i j hi hj
    have in1 : ∀ i m, fb_sm (fun j => if i < j then g i j else 0) m ≤ m * c := fun i m => fb_sm_bound (fun k hk => by
      by_cases z : i < k
      · rw [if_pos z]; exact hg i k
      · rw [if_neg z]; omega)
    have h1 : fb_sm (fun i => fb_sm (fun j => if i < j then g i j else 0) (tN (cT tk R A))) i ≤ i * (24 * 576) := fb_sm_bound (fun k hk => Nat.le_trans (in1 k _) (Nat.mul_le_mul hn hc))
    have h2 := Nat.le_trans (in1 i j) (Nat.mul_le_mul hj hc)
    have h3 : i * (24 * 576) ≤ 24 * (24 * 576) := Nat.mul_le_mul hi (Nat.le_refl _)
    omega
  -- the class
  have isFreeX : ∀ w, KX wx w → ∀ a b, a < tN (cT tk R A) → b < tN (cT tk R A) → ∃ w', f_X8_isFree N w (nI a) (nI b) = some (w', nI (frP (cT tk R A) (cSs tk R A) Q a b)) ∧ KX wx w' ∧ gF w' 8 7 0 = gF w 8 7 0 ∧ gF w' 8 9 0 = gF w 8 9 0 := by
    intro w hw a b ha hb
    have hw' := hX.kx hw
    obtain ⟨w1, a1, a2, a3⟩ := copyFrom_ok hw'.2.1.1.2.1 N (g := 0) (by omega)
    have k1 : KX w w1 := a3.kx (fun k j i z => by omega) (fun k i z => by omega)
    have h1 := hw'.kx k1
    obtain ⟨w2, ld', b1, b2, b3, b4⟩ := supposeSame_ok (E := inS (cSs tk R A)) hN h1.2.1.1.1 a2 hCI.2.1 (fun i j hij => hCI.2.2.1.2 i j hij) ha hb
    have k2 : KX w1 w2 := b4.kx (fun k j i z => by omega) (fun k i z => by omega)
    have h2 := h1.kx k2
    have b2' := b2.toE hTO b3
    have e2 := fcX (N := N) h2.2.1.2.2.1 b2' (by omega)
    rw [hQ] at e2
    have h5 := hw'.1.2.1
    have g5 := h1.1.2.1
    have g5' := h2.1.2.1
    have hf := hw'.1.1
    have e2' : f_X1_firstClash N w2 f 0 = some (oI (fcl (ldE (cT tk R A) (Ew (cSs tk R A) a b)) Q)) := e2
    refine ⟨w2, ?_, (hw.tr k1).tr k2, (b4.1 _ _ _ (fun z => by omega)).trans (a3.1 _ _ _ (fun z => by omega)), (b4.1 _ _ _ (fun z => by omega)).trans (a3.1 _ _ _ (fun z => by omega))⟩
    have hpos : (nI 0 ≤ n2) = False := eq_false (by decide)
    rw [f_X8_isFree]
    unfold frP
    cases hz : fcl (ldE (cT tk R A) (Ew (cSs tk R A) a b)) Q with
    | none =>
      have e3 : f_X1_firstClash N w2 f 0 = some n2 := by rw [e2', hz]; rfl
      rw [b01_t rfl]
      simp (disch := omega) only [↓lm1, ↓lm2, eq_n1, eq_n2, n1_eq, n2_eq, n1_n2, n2_n1, n1_lt, n2_lt, n1_le, lt_n1, lt_n2, inb_t, cl_t, le_tt, le_tf, lt_tt, lt_tf, eq_tt, eq_tf, q_add, q_mul, li0, li1, li2, li3, li4, li5, li6, li7, li8, li12, li16, li24, li48, li500, gF_sA, gA_sF, gF_sF, gR_sA, gR_sF, gL_sA, gL_sF, gA_sA, shl_t, or_t, and_t, sbit_t, ubit_t, b01_0, b01_1, Option.bind_some, ↓reduceIte, eq_self, ne_eq, not_true_eq_false, Bool.false_eq_true, not_false_eq_true, true_and, and_true, false_and, and_false, if_pos, if_neg, h5, a1, g5, b1, g5', e3, hpos]
    | some z =>
      have hz8 : z < 8 := by
        have := List.findIdx?_eq_some_iff_getElem.mp hz
        obtain ⟨hlt, -⟩ := this
        have h8 := hCI.2.2.2.1.1
        rw [hQ] at h8
        omega
      have e3 : f_X1_firstClash N w2 f 0 = some (nI z) := by rw [e2', hz]; rfl
      rw [b01_f (fun q => by cases q)]
      simp (disch := omega) only [↓lm1, ↓lm2, eq_n1, eq_n2, n1_eq, n2_eq, n1_n2, n2_n1, n1_lt, n2_lt, n1_le, lt_n1, lt_n2, inb_t, cl_t, le_tt, le_tf, lt_tt, lt_tf, eq_tt, eq_tf, q_add, q_mul, li0, li1, li2, li3, li4, li5, li6, li7, li8, li12, li16, li24, li48, li500, gF_sA, gA_sF, gF_sF, gR_sA, gR_sF, gL_sA, gL_sF, gA_sA, shl_t, or_t, and_t, sbit_t, ubit_t, b01_0, b01_1, Option.bind_some, ↓reduceIte, eq_self, ne_eq, not_true_eq_false, Bool.false_eq_true, not_false_eq_true, true_and, and_true, false_and, and_false, if_pos, if_neg, h5, a1, g5, b1, g5', e3]
  have innerX : ∀ (k : Mem → Int32 → Option (Mem × Int32)) (i : Nat), i < tN (cT tk R A) → ∀ r fuel j w s, i < j → j + r = tN (cT tk R A) → r < fuel → KX wx w → s = fb_sm (fun i => fb_sm (fun j => if i < j then gX i j else 0) (tN (cT tk R A))) i + fb_sm (fun j => if i < j then gX i j else 0) j → ∃ w', lp_X8_free_22 k N (nI i) fuel w (nI s) (nI j) = k w' (nI (fb_sm (fun i => fb_sm (fun j => if i < j then gX i j else 0) (tN (cT tk R A))) (i + 1))) ∧ KX wx w' ∧ gF w' 8 7 0 = gF w 8 7 0 ∧ gF w' 8 9 0 = gF w 8 9 0 := by
    intro k i hi r
    induction r with
    | zero =>
      intro fuel j w s hij hj hf hw hs
      obtain ⟨f', rfl⟩ : ∃ f, fuel = f + 1 := ⟨fuel - 1, by omega⟩
      have hw' := hX.kx hw
      have h5 := hw'.1.2.1
      have hf2 := hw'.1.1
      have x10 : gF w 7 10 f = nI (tN (cT tk R A)) := hw'.2.1.1.1.2.2.1
      have e : j = tN (cT tk R A) := by omega
      subst e
      refine ⟨w, ?_, hw, rfl, rfl⟩
      rw [fb_sm_succ, ← hs, lp_X8_free_22]
      simp (disch := omega) only [↓lm1, ↓lm2, eq_n1, eq_n2, n1_eq, n2_eq, n1_n2, n2_n1, n1_lt, n2_lt, n1_le, lt_n1, lt_n2, inb_t, cl_t, le_tt, le_tf, lt_tt, lt_tf, eq_tt, eq_tf, q_add, q_mul, li0, li1, li2, li3, li4, li5, li6, li7, li8, li12, li16, li24, li48, li500, gF_sA, gA_sF, gF_sF, gR_sA, gR_sF, gL_sA, gL_sF, gA_sA, shl_t, or_t, and_t, sbit_t, ubit_t, b01_0, b01_1, Option.bind_some, ↓reduceIte, eq_self, ne_eq, not_true_eq_false, Bool.false_eq_true, not_false_eq_true, true_and, and_true, false_and, and_false, if_pos, if_neg, h5, x10]
    | succ r ih =>
      intro fuel j w s hij hj hf hw hs
      obtain ⟨f', rfl⟩ : ∃ f, fuel = f + 1 := ⟨fuel - 1, by omega⟩
      have hw' := hX.kx hw
      have h5 := hw'.1.2.1
      have hf2 := hw'.1.1
      have x10 : gF w 7 10 f = nI (tN (cT tk R A)) := hw'.2.1.1.1.2.2.1
      have hG := hw'.2.1.1.2.1
      rw [hld] at hG
      have ei := hG.2.2.2.2 i hi
      have ej := hG.2.2.2.2 j (show j < tN (cT tk R A) by omega)
      have li := (hCan i hi).1
      have lj := (hCan j (by omega)).1
      have hsb : s ≤ 1000000 := by rw [hs]; exact bnd gX 576 gX_le (by omega) i j (by omega) (by omega)
      have nxt : ∀ v x, KX wx v → gX i j = x → ∃ w', lp_X8_free_22 k N (nI i) f' v (nI (s + x)) (nI (j + 1)) = k w' (nI (fb_sm (fun i => fb_sm (fun j => if i < j then gX i j else 0) (tN (cT tk R A))) (i + 1))) ∧ KX wx w' ∧ gF w' 8 7 0 = gF v 8 7 0 ∧ gF w' 8 9 0 = gF v 8 9 0 := by
        intro v x hv hx
        refine ih f' (j + 1) v (s + x) (by omega) (by omega) (by omega) hv ?_
        rw [fb_sm_succ, if_pos hij, hx, hs]; omega
      by_cases zi : ld i = i
      · by_cases zj : ld j = j
        · obtain ⟨v, a1, a2, a3, a4⟩ := isFreeX w hw i j hi (by omega)
          have hv' := hX.kx a2
          have g5 := hv'.1.2.1
          have hGv := hv'.2.1.1.2.1
          rw [hld] at hGv
          have m1 := members_ok (N := N) (t := i) hGv (by omega) hi
          have m2 := members_ok (N := N) (t := j) hGv (by omega) (show j < tN (cT tk R A) by omega)
          have m1' : f_X3_members N v (2 + f) (nI i) = some (nI (gm ld (tN (cT tk R A)) i)) := m1
          have m2' : f_X3_members N v (2 + f) (nI j) = some (nI (gm ld (tN (cT tk R A)) j)) := m2
          have hgx : gX i j = gm ld (tN (cT tk R A)) i * gm ld (tN (cT tk R A)) j * frP (cT tk R A) (cSs tk R A) Q i j := if_pos ⟨zi, zj⟩
          have ei' : gA w 25 (2 + f) i = nI i := by rw [ei, zi]
          have ej' : gA w 25 (2 + f) j = nI j := by rw [ej, zj]
          by_cases zf : fcl (ldE (cT tk R A) (Ew (cSs tk R A) i j)) Q = none
          · have hfr : frP (cT tk R A) (cSs tk R A) Q i j = 1 := b01_t zf
            rw [hfr] at a1 hgx
            obtain ⟨w', e1, e2, e3, e4⟩ := nxt v _ a2 hgx
            refine ⟨w', ?_, e2, e3.trans a3, e4.trans a4⟩
            rw [Nat.mul_one] at e1
            rw [lp_X8_free_22, ← e1]
            simp (disch := omega) only [↓lm1, ↓lm2, eq_n1, eq_n2, n1_eq, n2_eq, n1_n2, n2_n1, n1_lt, n2_lt, n1_le, lt_n1, lt_n2, inb_t, cl_t, le_tt, le_tf, lt_tt, lt_tf, eq_tt, eq_tf, q_add, q_mul, li0, li1, li2, li3, li4, li5, li6, li7, li8, li12, li16, li24, li48, li500, gF_sA, gA_sF, gF_sF, gR_sA, gR_sF, gL_sA, gL_sF, gA_sA, shl_t, or_t, and_t, sbit_t, ubit_t, b01_0, b01_1, Option.bind_some, ↓reduceIte, eq_self, ne_eq, not_true_eq_false, Bool.false_eq_true, not_false_eq_true, true_and, and_true, false_and, and_false, if_pos, if_neg, h5, x10, ei', ej', a1, g5, m1', m2']
          · have hfr : frP (cT tk R A) (cSs tk R A) Q i j = 0 := b01_f zf
            rw [hfr] at a1 hgx
            obtain ⟨w', e1, e2, e3, e4⟩ := nxt v _ a2 hgx
            refine ⟨w', ?_, e2, e3.trans a3, e4.trans a4⟩
            rw [Nat.mul_zero, Nat.add_zero] at e1
            rw [lp_X8_free_22, ← e1]
            simp (disch := omega) only [↓lm1, ↓lm2, eq_n1, eq_n2, n1_eq, n2_eq, n1_n2, n2_n1, n1_lt, n2_lt, n1_le, lt_n1, lt_n2, inb_t, cl_t, le_tt, le_tf, lt_tt, lt_tf, eq_tt, eq_tf, q_add, q_mul, li0, li1, li2, li3, li4, li5, li6, li7, li8, li12, li16, li24, li48, li500, gF_sA, gA_sF, gF_sF, gR_sA, gR_sF, gL_sA, gL_sF, gA_sA, shl_t, or_t, and_t, sbit_t, ubit_t, b01_0, b01_1, Option.bind_some, ↓reduceIte, eq_self, ne_eq, not_true_eq_false, Bool.false_eq_true, not_false_eq_true, true_and, and_true, false_and, and_false, if_pos, if_neg, h5, x10, ei', ej', a1]
        · obtain ⟨w', e1, e2⟩ := nxt w 0 hw (if_neg (fun q => zj q.2))
          refine ⟨w', ?_, e2⟩
          have ei' : gA w 25 (2 + f) i = nI i := by rw [ei, zi]
          rw [Nat.add_zero] at e1
          rw [lp_X8_free_22, ← e1]
          simp (disch := omega) only [↓lm1, ↓lm2, eq_n1, eq_n2, n1_eq, n2_eq, n1_n2, n2_n1, n1_lt, n2_lt, n1_le, lt_n1, lt_n2, inb_t, cl_t, le_tt, le_tf, lt_tt, lt_tf, eq_tt, eq_tf, q_add, q_mul, li0, li1, li2, li3, li4, li5, li6, li7, li8, li12, li16, li24, li48, li500, gF_sA, gA_sF, gF_sF, gR_sA, gR_sF, gL_sA, gL_sF, gA_sA, shl_t, or_t, and_t, sbit_t, ubit_t, b01_0, b01_1, Option.bind_some, ↓reduceIte, eq_self, ne_eq, not_true_eq_false, Bool.false_eq_true, not_false_eq_true, true_and, and_true, false_and, and_false, if_pos, if_neg, h5, x10, ei', ej]
      · obtain ⟨w', e1, e2⟩ := nxt w 0 hw (if_neg (fun q => zi q.1))
        refine ⟨w', ?_, e2⟩
        rw [Nat.add_zero] at e1
        rw [lp_X8_free_22, ← e1]
        simp (disch := omega) only [↓lm1, ↓lm2, eq_n1, eq_n2, n1_eq, n2_eq, n1_n2, n2_n1, n1_lt, n2_lt, n1_le, lt_n1, lt_n2, inb_t, cl_t, le_tt, le_tf, lt_tt, lt_tf, eq_tt, eq_tf, q_add, q_mul, li0, li1, li2, li3, li4, li5, li6, li7, li8, li12, li16, li24, li48, li500, gF_sA, gA_sF, gF_sF, gR_sA, gR_sF, gL_sA, gL_sF, gA_sA, shl_t, or_t, and_t, sbit_t, ubit_t, b01_0, b01_1, Option.bind_some, ↓reduceIte, eq_self, ne_eq, not_true_eq_false, Bool.false_eq_true, not_false_eq_true, true_and, and_true, false_and, and_false, if_pos, if_neg, h5, x10, ei]
  have sm_start : ∀ (g : Nat → Nat → Nat) (i : Nat), fb_sm (fun j => if i < j then g i j else 0) (i + 1) = 0 := by
    intro g i
    rw [fb_sm_cong (g := fun _ => 0) (fun k hk => if_neg (by omega)), fb_sm_const]; omega
  have outerX : ∀ r fuel i w, i + r = tN (cT tk R A) → r < fuel → KX wx w → ∃ w', lp_X8_free_4 (fun (w_1 : Mem) (u1_1 : Int32) => (f_X8_free_115 N w_1 u1_1)) N fuel w (nI (fb_sm (fun i => fb_sm (fun j => if i < j then gX i j else 0) (tN (cT tk R A))) i)) (nI i) = some (w', nI (dsm gX (tN (cT tk R A)))) ∧ KX wx w' ∧ gF w' 8 7 0 = gF w 8 7 0 ∧ gF w' 8 9 0 = gF w 8 9 0 := by
    intro r
    induction r with
    | zero =>
      intro fuel i w hi hf hw
      obtain ⟨f', rfl⟩ : ∃ f, fuel = f + 1 := ⟨fuel - 1, by omega⟩
      have hw' := hX.kx hw
      have h5 := hw'.1.2.1
      have hf2 := hw'.1.1
      have x10 : gF w 7 10 f = nI (tN (cT tk R A)) := hw'.2.1.1.1.2.2.1
      have e : i = tN (cT tk R A) := by omega
      subst e
      refine ⟨w, ?_, hw, rfl, rfl⟩
      rw [lp_X8_free_4]
      simp (disch := omega) only [↓lm1, ↓lm2, eq_n1, eq_n2, n1_eq, n2_eq, n1_n2, n2_n1, n1_lt, n2_lt, n1_le, lt_n1, lt_n2, inb_t, cl_t, le_tt, le_tf, lt_tt, lt_tf, eq_tt, eq_tf, q_add, q_mul, li0, li1, li2, li3, li4, li5, li6, li7, li8, li12, li16, li24, li48, li500, gF_sA, gA_sF, gF_sF, gR_sA, gR_sF, gL_sA, gL_sF, gA_sA, shl_t, or_t, and_t, sbit_t, ubit_t, b01_0, b01_1, Option.bind_some, ↓reduceIte, eq_self, ne_eq, not_true_eq_false, Bool.false_eq_true, not_false_eq_true, true_and, and_true, false_and, and_false, if_pos, if_neg, h5, x10]
      rfl
    | succ r ih =>
      intro fuel i w hi hf hw
      obtain ⟨f', rfl⟩ : ∃ f, fuel = f + 1 := ⟨fuel - 1, by omega⟩
      have hw' := hX.kx hw
      have h5 := hw'.1.2.1
      have hf2 := hw'.1.1
      have x10 : gF w 7 10 f = nI (tN (cT tk R A)) := hw'.2.1.1.1.2.2.1
      obtain ⟨w1, a1, a2, a3, a4⟩ := innerX (fun (w_3 : Mem) (u1_3 : Int32) => (f_X8_free_109_4 (fun (w : Mem) (v1 : Int32) (v2 : Int32) => lp_X8_free_4 (fun (w_1 : Mem) (u1_1 : Int32) => (f_X8_free_115 N w_1 u1_1)) N f' w v1 v2) (fun (w_1 : Mem) (u1_1 : Int32) => (f_X8_free_115 N w_1 u1_1)) N w_3 u1_3 (nI i))) i (by omega) (tN (cT tk R A) - (i + 1)) N (i + 1) w _ (by omega) (by omega) (by omega) hw rfl
      rw [sm_start, Nat.add_zero] at a1
      obtain ⟨w2, b1, b2, b3, b4⟩ := ih f' (i + 1) w1 (by omega) (by omega) a2
      refine ⟨w2, ?_, b2, b3.trans a3, b4.trans a4⟩
      rw [lp_X8_free_4, ← b1]
      simp (disch := omega) only [↓lm1, ↓lm2, eq_n1, eq_n2, n1_eq, n2_eq, n1_n2, n2_n1, n1_lt, n2_lt, n1_le, lt_n1, lt_n2, inb_t, cl_t, le_tt, le_tf, lt_tt, lt_tf, eq_tt, eq_tf, q_add, q_mul, li0, li1, li2, li3, li4, li5, li6, li7, li8, li12, li16, li24, li48, li500, gF_sA, gA_sF, gF_sF, gR_sA, gR_sF, gL_sA, gL_sF, gA_sA, shl_t, or_t, and_t, sbit_t, ubit_t, b01_0, b01_1, Option.bind_some, ↓reduceIte, eq_self, ne_eq, not_true_eq_false, Bool.false_eq_true, not_false_eq_true, true_and, and_true, false_and, and_false, if_pos, if_neg, h5, x10]
      refine a1.trans ?_
      simp (disch := omega) only [↓lm1, ↓lm2, eq_n1, eq_n2, n1_eq, n2_eq, n1_n2, n2_n1, n1_lt, n2_lt, n1_le, lt_n1, lt_n2, inb_t, cl_t, le_tt, le_tf, lt_tt, lt_tf, eq_tt, eq_tf, q_add, q_mul, li0, li1, li2, li3, li4, li5, li6, li7, li8, li12, li16, li24, li48, li500, gF_sA, gA_sF, gF_sF, gR_sA, gR_sF, gL_sA, gL_sF, gA_sA, shl_t, or_t, and_t, sbit_t, ubit_t, b01_0, b01_1, Option.bind_some, ↓reduceIte, eq_self, ne_eq, not_true_eq_false, Bool.false_eq_true, not_false_eq_true, true_and, and_true, false_and, and_false, if_pos, if_neg, f_X8_free_109_4]
  -- the model
  have innerM : ∀ (k : Mem → Int32 → Option (Mem × Int32)) (i : Nat), i < tN (cT tk R A) → ∀ r fuel j w s, i < j → j + r = tN (cT tk R A) → r < fuel → KM (cSs tk R A).length (sF wm 9 0 0 (nI 0)) w → (∀ q, gF w 9 q 0 = gF (sF wm 9 0 0 (nI 0)) 9 q 0) → s = fb_sm (fun i => fb_sm (fun j => if i < j then gM i j else 0) (tN (cT tk R A))) i + fb_sm (fun j => if i < j then gM i j else 0) j → ∃ w', lp_X9_free_21 k N (nI i) fuel w (nI s) (nI j) = k w' (nI (fb_sm (fun i => fb_sm (fun j => if i < j then gM i j else 0) (tN (cT tk R A))) (i + 1))) ∧ KM (cSs tk R A).length (sF wm 9 0 0 (nI 0)) w' ∧ ∀ q, gF w' 9 q 0 = gF (sF wm 9 0 0 (nI 0)) 9 q 0 := by
    intro k i hi r
    induction r with
    | zero =>
      intro fuel j w s hij hj hf hw hq hs
      obtain ⟨f', rfl⟩ : ∃ f, fuel = f + 1 := ⟨fuel - 1, by omega⟩
      have hw' := hM.km hw
      have m27 : gF w 9 27 0 = nI (tN (cT tk R A)) := hw'.1.1.1.2.2.1
      have e : j = tN (cT tk R A) := by omega
      subst e
      refine ⟨w, ?_, hw, hq⟩
      rw [fb_sm_succ, ← hs, lp_X9_free_21]
      simp (disch := omega) only [↓lm1, ↓lm2, eq_n1, eq_n2, n1_eq, n2_eq, n1_n2, n2_n1, n1_lt, n2_lt, n1_le, lt_n1, lt_n2, inb_t, cl_t, le_tt, le_tf, lt_tt, lt_tf, eq_tt, eq_tf, q_add, q_mul, li0, li1, li2, li3, li4, li5, li6, li7, li8, li12, li16, li24, li48, li500, gF_sA, gA_sF, gF_sF, gR_sA, gR_sF, gL_sA, gL_sF, gA_sA, shl_t, or_t, and_t, sbit_t, ubit_t, b01_0, b01_1, Option.bind_some, ↓reduceIte, eq_self, ne_eq, not_true_eq_false, Bool.false_eq_true, not_false_eq_true, true_and, and_true, false_and, and_false, if_pos, if_neg, m27]
    | succ r ih =>
      intro fuel j w s hij hj hf hw hq hs
      obtain ⟨f', rfl⟩ : ∃ f, fuel = f + 1 := ⟨fuel - 1, by omega⟩
      have hw' := hM.km hw
      have m27 : gF w 9 27 0 = nI (tN (cT tk R A)) := hw'.1.1.1.2.2.1
      have hR := hw'.1.1.2.1
      rw [hld] at hR
      have ei := hR.2.2.2 i hi
      have ej := hR.2.2.2 j (show j < tN (cT tk R A) by omega)
      have li := (hCan i hi).1
      have lj := (hCan j (by omega)).1
      have nxt : ∀ v x, KM (cSs tk R A).length (sF wm 9 0 0 (nI 0)) v → (∀ q, gF v 9 q 0 = gF (sF wm 9 0 0 (nI 0)) 9 q 0) → gM i j = x → ∃ w', lp_X9_free_21 k N (nI i) f' v (nI (s + x)) (nI (j + 1)) = k w' (nI (fb_sm (fun i => fb_sm (fun j => if i < j then gM i j else 0) (tN (cT tk R A))) (i + 1))) ∧ KM (cSs tk R A).length (sF wm 9 0 0 (nI 0)) w' ∧ ∀ q, gF w' 9 q 0 = gF (sF wm 9 0 0 (nI 0)) 9 q 0 := by
        intro v x hv hvq hx
        refine ih f' (j + 1) v (s + x) (by omega) (by omega) (by omega) hv hvq ?_
        rw [fb_sm_succ, if_pos hij, hx, hs]; omega
      by_cases z : ld i = ld j
      · obtain ⟨w', e1, e2⟩ := nxt w 0 hw hq (if_pos z)
        refine ⟨w', ?_, e2⟩
        rw [Nat.add_zero] at e1
        rw [lp_X9_free_21, ← e1]
        simp (disch := omega) only [↓lm1, ↓lm2, eq_n1, eq_n2, n1_eq, n2_eq, n1_n2, n2_n1, n1_lt, n2_lt, n1_le, lt_n1, lt_n2, inb_t, cl_t, le_tt, le_tf, lt_tt, lt_tf, eq_tt, eq_tf, q_add, q_mul, li0, li1, li2, li3, li4, li5, li6, li7, li8, li12, li16, li24, li48, li500, gF_sA, gA_sF, gF_sF, gR_sA, gR_sF, gL_sA, gL_sF, gA_sA, shl_t, or_t, and_t, sbit_t, ubit_t, b01_0, b01_1, Option.bind_some, ↓reduceIte, eq_self, ne_eq, not_true_eq_false, Bool.false_eq_true, not_false_eq_true, true_and, and_true, false_and, and_false, if_pos, if_neg, m27, ei, ej]
      · obtain ⟨v, b1, b2, b3, b4⟩ := closesWith_ok hN hw' hi (show j < tN (cT tk R A) by omega)
        have hv := hM.km (hw.tr b3)
        have hD := hv.1.2.2
        rw [hQ] at hD
        have c2 := clashIn_ok (N := N) (k := 59) rfl (by omega) b2 hD
        have hgm : gM i j = frP (cT tk R A) (cSs tk R A) Q i j := if_neg z
        have hq' : ∀ q, gF v 9 q 0 = gF (sF wm 9 0 0 (nI 0)) 9 q 0 := fun q => (b4 q).trans (hq q)
        cases hz : fcl (ldE (cT tk R A) (Ew (cSs tk R A) i j)) Q with
        | none =>
          have hfr : frP (cT tk R A) (cSs tk R A) Q i j = 1 := b01_t hz
          rw [hfr] at hgm
          have c3 : f_X9_clashIn N v 59 = some n2 := by rw [c2, hz]; rfl
          obtain ⟨w', e1, e2⟩ := nxt v 1 (hw.tr b3) hq' hgm
          refine ⟨w', ?_, e2⟩
          rw [lp_X9_free_21, ← e1]
          simp (disch := omega) only [↓lm1, ↓lm2, eq_n1, eq_n2, n1_eq, n2_eq, n1_n2, n2_n1, n1_lt, n2_lt, n1_le, lt_n1, lt_n2, inb_t, cl_t, le_tt, le_tf, lt_tt, lt_tf, eq_tt, eq_tf, q_add, q_mul, li0, li1, li2, li3, li4, li5, li6, li7, li8, li12, li16, li24, li48, li500, gF_sA, gA_sF, gF_sF, gR_sA, gR_sF, gL_sA, gL_sF, gA_sA, shl_t, or_t, and_t, sbit_t, ubit_t, b01_0, b01_1, Option.bind_some, ↓reduceIte, eq_self, ne_eq, not_true_eq_false, Bool.false_eq_true, not_false_eq_true, true_and, and_true, false_and, and_false, if_pos, if_neg, m27, ei, ej, b1, c3]
        | some y =>
          have hy8 : y < 8 := by
            obtain ⟨hlt, -⟩ := List.findIdx?_eq_some_iff_getElem.mp hz
            have h8 := hCI.2.2.2.1.1
            rw [hQ] at h8
            omega
          have hfr : frP (cT tk R A) (cSs tk R A) Q i j = 0 := b01_f (by rw [hz]; intro q; cases q)
          rw [hfr] at hgm
          have c3 : f_X9_clashIn N v 59 = some (nI y) := by rw [c2, hz]; rfl
          obtain ⟨w', e1, e2⟩ := nxt v 0 (hw.tr b3) hq' hgm
          refine ⟨w', ?_, e2⟩
          rw [lp_X9_free_21, ← e1]
          simp (disch := omega) only [↓lm1, ↓lm2, eq_n1, eq_n2, n1_eq, n2_eq, n1_n2, n2_n1, n1_lt, n2_lt, n1_le, lt_n1, lt_n2, inb_t, cl_t, le_tt, le_tf, lt_tt, lt_tf, eq_tt, eq_tf, q_add, q_mul, li0, li1, li2, li3, li4, li5, li6, li7, li8, li12, li16, li24, li48, li500, gF_sA, gA_sF, gF_sF, gR_sA, gR_sF, gL_sA, gL_sF, gA_sA, shl_t, or_t, and_t, sbit_t, ubit_t, b01_0, b01_1, Option.bind_some, ↓reduceIte, eq_self, ne_eq, not_true_eq_false, Bool.false_eq_true, not_false_eq_true, true_and, and_true, false_and, and_false, if_pos, if_neg, m27, ei, ej, b1, c3]
  have outerM : ∀ r fuel i w, i + r = tN (cT tk R A) → r < fuel → KM (cSs tk R A).length (sF wm 9 0 0 (nI 0)) w → (∀ q, gF w 9 q 0 = gF (sF wm 9 0 0 (nI 0)) 9 q 0) → ∃ w', lp_X9_free_9 (fun (w_1 : Mem) (u1_1 : Int32) => (f_X9_free_83 N w_1 u1_1)) N fuel w (nI (fb_sm (fun i => fb_sm (fun j => if i < j then gM i j else 0) (tN (cT tk R A))) i)) (nI i) = some (w', nI (dsm gM (tN (cT tk R A)))) ∧ KM (cSs tk R A).length (sF wm 9 0 0 (nI 0)) w' ∧ ∀ q, gF w' 9 q 0 = gF (sF wm 9 0 0 (nI 0)) 9 q 0 := by
    intro r
    induction r with
    | zero =>
      intro fuel i w hi hf hw hq
      obtain ⟨f', rfl⟩ : ∃ f, fuel = f + 1 := ⟨fuel - 1, by omega⟩
      have hw' := hM.km hw
      have m27 : gF w 9 27 0 = nI (tN (cT tk R A)) := hw'.1.1.1.2.2.1
      have e : i = tN (cT tk R A) := by omega
      subst e
      refine ⟨w, ?_, hw, hq⟩
      rw [lp_X9_free_9]
      simp (disch := omega) only [↓lm1, ↓lm2, eq_n1, eq_n2, n1_eq, n2_eq, n1_n2, n2_n1, n1_lt, n2_lt, n1_le, lt_n1, lt_n2, inb_t, cl_t, le_tt, le_tf, lt_tt, lt_tf, eq_tt, eq_tf, q_add, q_mul, li0, li1, li2, li3, li4, li5, li6, li7, li8, li12, li16, li24, li48, li500, gF_sA, gA_sF, gF_sF, gR_sA, gR_sF, gL_sA, gL_sF, gA_sA, shl_t, or_t, and_t, sbit_t, ubit_t, b01_0, b01_1, Option.bind_some, ↓reduceIte, eq_self, ne_eq, not_true_eq_false, Bool.false_eq_true, not_false_eq_true, true_and, and_true, false_and, and_false, if_pos, if_neg, m27]
      rfl
    | succ r ih =>
      intro fuel i w hi hf hw hq
      obtain ⟨f', rfl⟩ : ∃ f, fuel = f + 1 := ⟨fuel - 1, by omega⟩
      have hw' := hM.km hw
      have m27 : gF w 9 27 0 = nI (tN (cT tk R A)) := hw'.1.1.1.2.2.1
      obtain ⟨w1, a1, a2, a3⟩ := innerM (fun (w_2 : Mem) (u1_2 : Int32) => (f_X9_free_77_9 (fun (w : Mem) (v1 : Int32) (v2 : Int32) => lp_X9_free_9 (fun (w_1 : Mem) (u1_1 : Int32) => (f_X9_free_83 N w_1 u1_1)) N f' w v1 v2) (fun (w_1 : Mem) (u1_1 : Int32) => (f_X9_free_83 N w_1 u1_1)) N w_2 u1_2 (nI i))) i (by omega) (tN (cT tk R A) - (i + 1)) N (i + 1) w _ (by omega) (by omega) (by omega) hw hq rfl
      rw [sm_start, Nat.add_zero] at a1
      obtain ⟨w2, b1, b2, b3⟩ := ih f' (i + 1) w1 (by omega) (by omega) a2 a3
      refine ⟨w2, ?_, b2, b3⟩
      rw [lp_X9_free_9, ← b1]
      simp (disch := omega) only [↓lm1, ↓lm2, eq_n1, eq_n2, n1_eq, n2_eq, n1_n2, n2_n1, n1_lt, n2_lt, n1_le, lt_n1, lt_n2, inb_t, cl_t, le_tt, le_tf, lt_tt, lt_tf, eq_tt, eq_tf, q_add, q_mul, li0, li1, li2, li3, li4, li5, li6, li7, li8, li12, li16, li24, li48, li500, gF_sA, gA_sF, gF_sF, gR_sA, gR_sF, gL_sA, gL_sF, gA_sA, shl_t, or_t, and_t, sbit_t, ubit_t, b01_0, b01_1, Option.bind_some, ↓reduceIte, eq_self, ne_eq, not_true_eq_false, Bool.false_eq_true, not_false_eq_true, true_and, and_true, false_and, and_false, if_pos, if_neg, m27]
      refine a1.trans ?_
      simp (disch := omega) only [↓lm1, ↓lm2, eq_n1, eq_n2, n1_eq, n2_eq, n1_n2, n2_n1, n1_lt, n2_lt, n1_le, lt_n1, lt_n2, inb_t, cl_t, le_tt, le_tf, lt_tt, lt_tf, eq_tt, eq_tf, q_add, q_mul, li0, li1, li2, li3, li4, li5, li6, li7, li8, li12, li16, li24, li48, li500, gF_sA, gA_sF, gF_sF, gR_sA, gR_sF, gL_sA, gL_sF, gA_sA, shl_t, or_t, and_t, sbit_t, ubit_t, b01_0, b01_1, Option.bind_some, ↓reduceIte, eq_self, ne_eq, not_true_eq_false, Bool.false_eq_true, not_false_eq_true, true_and, and_true, false_and, and_false, if_pos, if_neg, f_X9_free_77_9]
  obtain ⟨v, a1, a2, a3, a4⟩ := outerX (tN (cT tk R A)) N 0 wx (by omega) (by omega) KX.rf
  obtain ⟨u, b1, b2, b3⟩ := outerM (tN (cT tk R A)) N 0 (sF wm 9 0 0 (nI 0)) (by omega) (by omega) KM.rf (fun _ => rfl)
  rw [hEq] at b1
  refine ⟨v, u, nI (dsm gX (tN (cT tk R A))), ?_, ?_, f, nf, tk, R, A, NL, tp, ⟨hX.kx a2, hM.km b2, hC.2.2.1, by rw [a2.1 8 8 0 (by omega), b3]; exact hC.2.2.2⟩, by rw [a3, b3]; exact q1, by rw [a4, b3, b3]; exact q2⟩
  · rw [f_X8_free]; exact a1
  · rw [f_X9_free]; exact b1
