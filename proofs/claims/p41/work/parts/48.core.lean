/-! what stands after rows told in order; no machine here -/
abbrev Tl : Type := List (Nat × List Nat)
def tlF (L : Tl) (i : Nat) : Nat := ((L[i]?).getD (0, [])).1
def tlP (L : Tl) (i : Nat) : List Nat := ((L[i]?).getD (0, [])).2
def mkT (tk : Nat → Nat) (L : Tl) : Trm := (L.length, tlF L, tk, fun i k => (tlP L i).getD k 0)
theorem tlF_snoc {L : Tl} {x : Nat × List Nat} {i : Nat} (h : i < L.length) : tlF (L ++ [x]) i = tlF L i := by unfold tlF; rw [List.getElem?_append_left h]
theorem tlP_snoc {L : Tl} {x : Nat × List Nat} {i : Nat} (h : i < L.length) : tlP (L ++ [x]) i = tlP L i := by unfold tlP; rw [List.getElem?_append_left h]
theorem tlF_last {L : Tl} {x : Nat × List Nat} : tlF (L ++ [x]) L.length = x.1 := by unfold tlF; rw [List.getElem?_append_right (Nat.le_refl _), Nat.sub_self]; rfl
theorem tlP_last {L : Tl} {x : Nat × List Nat} : tlP (L ++ [x]) L.length = x.2 := by unfold tlP; rw [List.getElem?_append_right (Nat.le_refl _), Nat.sub_self]; rfl
theorem tN_mk (tk : Nat → Nat) (L : Tl) : tN (mkT tk L) = L.length := rfl
theorem tF_mk (tk : Nat → Nat) (L : Tl) : tF (mkT tk L) = tlF L := rfl
theorem tA_mk (tk : Nat → Nat) (L : Tl) : tA (mkT tk L) = tk := rfl
theorem tP_mk (tk : Nat → Nat) (L : Tl) (i k : Nat) : tP (mkT tk L) i k = (tlP L i).getD k 0 := rfl
/-- how deep: the greatest of 1 more than the parts -/
def dmx (g : Nat → Nat) : Nat → Nat
  | 0 => 0
  | q + 1 => max (dmx g q) (1 + g q)
theorem dmx_le {g : Nat → Nat} {b : Nat} : ∀ q, (∀ k, k < q → 1 + g k ≤ b) → dmx g q ≤ b
  | 0, _ => Nat.zero_le _
  | q + 1, h => by
    have h1 := dmx_le q (fun k hk => h k (by omega))
    have h2 := h q (by omega)
    rw [dmx]; omega
theorem dmx_cong {g g' : Nat → Nat} : ∀ q, (∀ k, k < q → g k = g' k) → dmx g q = dmx g' q
  | 0, _ => rfl
  | q + 1, h => by rw [dmx, dmx, dmx_cong q (fun k hk => h k (by omega)), h q (by omega)]
def dpS (s : Nat × (Nat → Nat)) (x : Nat × List Nat) : Nat × (Nat → Nat) := (s.1 + 1, fun i => if i = s.1 then dmx (fun k => s.2 (x.2.getD k 0)) x.2.length else s.2 i)
def dpt (L : Tl) : Nat → Nat := (L.foldl dpS (0, fun _ => 0)).2
theorem dpS_len (L : Tl) : (L.foldl dpS (0, fun _ => 0)).1 = L.length := by
  have key : ∀ (L : Tl) (s : Nat × (Nat → Nat)), (L.foldl dpS s).1 = s.1 + L.length := by
    intro L
    induction L with
    | nil => intro s; rfl
    | cons j L ih => intro s; rw [List.foldl_cons, ih, List.length_cons]; show s.1 + 1 + _ = _; omega
  rw [key]; exact Nat.zero_add _
theorem dpt_snoc (L : Tl) (x : Nat × List Nat) (i : Nat) : dpt (L ++ [x]) i = if i = L.length then dmx (fun k => dpt L (x.2.getD k 0)) x.2.length else dpt L i := by
  have h := dpS_len L
  unfold dpt
  rw [List.foldl_append, List.foldl_cons, List.foldl_nil, dpS, h]
abbrev Prs : Type := List (Nat × Nat)
abbrev Core : Type := Tl × Prs × Prs × List Jn
abbrev Row : Type := (Nat × List Nat) ⊕ (Bool × Nat × Nat)
def cL (c : Core) : Tl := c.1
def cS (c : Core) : Prs := c.2.1
def cQ (c : Core) : Prs := c.2.2.1
def cJ (c : Core) : List Jn := c.2.2.2
/-- one row more -/
def stp (tk : Nat → Nat) (c : Core) : Row → Core
  | .inl x => (cL c ++ [x], cS c, cQ c, clJ 24 (mkT tk (cL c ++ [x])) (cJ c))
  | .inr (true, a, b) => (cL c, cS c ++ [(a, b)], cQ c, if ldJ (cJ c) a = ldJ (cJ c) b then cJ c else clJ 24 (mkT tk (cL c)) (cJ c ++ [(a, b, some (cS c).length, 2 ^ (cS c).length)]))
  | .inr (false, a, b) => (cL c, cS c, cQ c ++ [(a, b)], cJ c)
def okR (tk : Nat → Nat) (nf : Nat) (c : Core) : Row → Prop
  | .inl (f, ps) => f < nf ∧ ps.length = tk f ∧ (∀ k, k < ps.length → ps.getD k 0 < (cL c).length) ∧ (cL c).length < 24
  | .inr (true, a, b) => a < (cL c).length ∧ b < (cL c).length ∧ (cS c).length < 12
  | .inr (false, a, b) => a < (cL c).length ∧ b < (cL c).length ∧ (cQ c).length < 8
def inS (S : Prs) (a b : Nat) : Prop := (a, b) ∈ S
def PRok (n : Nat) (S : Prs) : Prop := ∀ a b, (a, b) ∈ S → a < n ∧ b < n
def CI (tk : Nat → Nat) (nf : Nat) (c : Core) : Prop :=
  PC (mkT tk (cL c)) (cJ c) ∧ (∀ i j, i < (cL c).length → j < (cL c).length → (ldJ (cJ c) i = ldJ (cJ c) j ↔ Cg (mkT tk (cL c)) (inS (cS c)) i j)) ∧ ((cS c).length ≤ 12 ∧ PRok (cL c).length (cS c)) ∧ ((cQ c).length ≤ 8 ∧ PRok (cL c).length (cQ c)) ∧ (∀ i, i < (cL c).length → tlF (cL c) i < nf ∧ (tlP (cL c) i).length = tk (tlF (cL c) i)) ∧ (∀ i, dpt (cL c) i ≤ i) ∧ nf ≤ 8 ∧ ∀ g, g < nf → tk g ≤ 3
def c0 : Core := ([], [], [], [])
theorem CI.zero {tk : Nat → Nat} {nf : Nat} (h : nf ≤ 8) (ht : ∀ g, g < nf → tk g ≤ 3) : CI tk nf c0 :=
  ⟨⟨fun i hi => absurd hi (Nat.not_lt_zero i), by show 0 ≤ 24; omega, ⟨by show 0 ≤ 23; omega, fun p a b c r hp => by simp [c0, cJ] at hp⟩, fun i hi => absurd hi (Nat.not_lt_zero i), FW.none_, rfl⟩, fun i j hi => absurd hi (Nat.not_lt_zero i), ⟨by show 0 ≤ 12; omega, fun a b h => by cases h⟩, ⟨by show 0 ≤ 8; omega, fun a b h => by cases h⟩, fun i hi => absurd hi (Nat.not_lt_zero i), fun i => Nat.zero_le _, h, ht⟩
theorem ldJ_out {n : Nat} : ∀ (J : List Jn) (d : Nat → Nat), (∀ j, j ∈ J → j.1 < n ∧ j.2.1 < n) → (∀ i, i < n → d i < n) → (∀ i, n ≤ i → d i = i) → ∀ i, n ≤ i → J.foldl (fun d j => un d j.1 j.2.1) d i = i
  | [], d, _, _, h, i, hi => h i hi
  | j :: J, d, hJ, h1, h2, i, hi => by
    rw [List.foldl_cons]
    obtain ⟨a, b⟩ := hJ j List.mem_cons_self
    have ha := h1 _ a
    have hb := h1 _ b
    refine ldJ_out J _ (fun x hx => hJ x (List.mem_cons_of_mem _ hx)) (fun x hx => ?_) (fun x hx => ?_) i hi
    · have := h1 x hx
      unfold un; split <;> omega
    · have := h2 x hx
      unfold un; rw [if_neg (by omega)]; exact this
theorem JOK.mem {n : Nat} {J : List Jn} (h : JOK n J) : ∀ j, j ∈ J → j.1 < n ∧ j.2.1 < n := by
  intro j hj
  obtain ⟨p, hp⟩ := List.getElem?_of_mem hj
  have := h.2 p j.1 j.2.1 j.2.2.1 j.2.2.2 hp
  exact ⟨this.1, this.2.1⟩
theorem JOK.out {n : Nat} {J : List Jn} (h : JOK n J) {i : Nat} (hi : n ≤ i) : ldJ J i = i := ldJ_out J _ h.mem (fun i hi => hi) (fun _ _ => rfl) i hi
theorem congr_snoc {tk : Nat → Nat} {L : Tl} {x : Nat × List Nat} {R : Nat → Nat → Prop} (h : Congr (mkT tk (L ++ [x])) R) : Congr (mkT tk L) R := by
  have hn : tN (mkT tk (L ++ [x])) = L.length + 1 := by rw [tN_mk, List.length_append]; rfl
  obtain ⟨h1, h2, h3, h4⟩ := h
  rw [hn] at h1 h2 h3 h4
  refine ⟨fun i hi => h1 i (by rw [tN_mk] at hi; omega), fun i j hi hj => h2 i j (by rw [tN_mk] at hi; omega) (by rw [tN_mk] at hj; omega), fun i j k hi hj hk => h3 i j k (by rw [tN_mk] at hi; omega) (by rw [tN_mk] at hj; omega) (by rw [tN_mk] at hk; omega), fun i j hi hj ha => ?_⟩
  rw [tN_mk] at hi hj
  refine h4 i j (by omega) (by omega) ?_
  obtain ⟨a1, a2⟩ := ha
  rw [tF_mk] at a1
  refine ⟨by rw [tF_mk, tlF_snoc hi, tlF_snoc hj]; exact a1, fun k hk => ?_⟩
  rw [tF_mk, tlF_snoc hi] at hk
  have := a2 k hk
  rw [tP_mk, tP_mk] at *
  rw [tlP_snoc hi, tlP_snoc hj]
  exact this
theorem PC.more {tk : Nat → Nat} {L : Tl} {x : Nat × List Nat} {J : List Jn} (h : PC (mkT tk L) J) (hl : L.length < 24) (hx : x.2.length = tk x.1) (hp : ∀ k, k < x.2.length → x.2.getD k 0 < L.length) : PC (mkT tk (L ++ [x])) J := by
  have hn : tN (mkT tk (L ++ [x])) = L.length + 1 := by rw [tN_mk, List.length_append]; rfl
  obtain ⟨h1, h2, h3, h4, h5, h6⟩ := h
  have ho := h3.out (Nat.le_refl _)
  rw [tN_mk] at h2 h3 h4 h5 h6 ho
  refine ⟨fun i hi k hk => ?_, by rw [hn]; omega, ⟨h3.1, fun p a b c r hq => ?_⟩, fun i hi => ?_, by rw [hn]; exact h5.more h4 ho, ?_⟩
  · rw [hn] at hi
    rw [tP_mk]
    rw [tA_mk, tF_mk] at hk
    by_cases e : i = L.length
    · subst e
      rw [tlF_last] at hk
      rw [tlP_last]
      exact hp k (by rw [hx]; exact hk)
    · rw [tlF_snoc (by omega)] at hk
      rw [tlP_snoc (by omega)]
      exact h1 i (show i < L.length by omega) k hk
  · obtain ⟨a1, a2, a3, a4⟩ := h3.2 p a b c r hq
    rw [hn]
    exact ⟨by omega, by omega, a3, a4⟩
  · rw [hn] at hi
    by_cases e : i = L.length
    · subst e; rw [ho]; exact ⟨Nat.le_refl _, ho⟩
    · exact h4 i (by omega)
  · rw [hn, cntG, if_pos ho]; omega
theorem CI.term {tk : Nat → Nat} {nf : Nat} {c : Core} {x : Nat × List Nat} (h : CI tk nf c) (hr : okR tk nf c (.inl x)) : PC (mkT tk (cL c ++ [x])) (cJ c) := by
  obtain ⟨r1, r2, r3, r4⟩ := hr
  exact h.1.more r4 r2 r3
theorem CI.st {tk : Nat → Nat} {nf : Nat} {c : Core} {r : Row} (h : CI tk nf c) (hr : okR tk nf c r) : CI tk nf (stp tk c r) := by
  obtain ⟨h1, h2, h3, h4, h5, h6, h7, h8⟩ := id h
  cases r with
  | inl x =>
    have hP := h.term hr
    obtain ⟨r1, r2, r3, r4⟩ := hr
    have hn : (cL c ++ [x]).length = (cL c).length + 1 := by rw [List.length_append]; rfl
    have hcl := clJ_none 24 hP (Nat.le_trans (cnt_le _ _) (by rw [tN_mk, hn]; omega))
    have hm := clJ_mcl (T := mkT tk (cL c ++ [x])) hP.1 24 (J := cJ c)
    have ho := h1.2.2.1.out (Nat.le_refl _)
    have hC := h1.2.2.2.1
    rw [tN_mk] at ho hC
    have iff2 := clo_iff (nxt_none hcl) (E := inS (cS c)) (fun a b hab => hm.1 a b ((h2 a b (h3.2 a b hab).1 (h3.2 a b hab).2).mpr (cg_in hab))) (hm.2 _ (cg_congr _ hP.1 _) (fun i j hi hj hij => by
      rw [tN_mk, hn] at hi hj
      by_cases e1 : i = (cL c).length
      · by_cases e2 : j = (cL c).length
        · rw [e1, e2]; exact (cg_congr _ hP.1 _).1 _ (by rw [tN_mk, hn]; omega)
        · have := (hC j (by omega)).1
          rw [e1, ho] at hij; omega
      · by_cases e2 : j = (cL c).length
        · have := (hC i (by omega)).1
          rw [e2, ho] at hij; omega
        · have hc := (h2 i j (by omega) (by omega)).mp hij
          exact fun R hR hE => hc R (congr_snoc hR) hE))
    refine ⟨PC.cl 24 hP, iff2, ⟨h3.1, fun a b hab => ?_⟩, ⟨h4.1, fun a b hab => ?_⟩, fun i hi => ?_, fun i => ?_, h7, h8⟩
    · have := h3.2 a b hab
      show a < (cL c ++ [x]).length ∧ b < (cL c ++ [x]).length
      rw [hn]; omega
    · have := h4.2 a b hab
      show a < (cL c ++ [x]).length ∧ b < (cL c ++ [x]).length
      rw [hn]; omega
    · have hi' : i < (cL c ++ [x]).length := hi
      rw [hn] at hi'
      show tlF (cL c ++ [x]) i < nf ∧ (tlP (cL c ++ [x]) i).length = tk (tlF (cL c ++ [x]) i)
      by_cases e : i = (cL c).length
      · subst e; rw [tlF_last, tlP_last]; exact ⟨r1, r2⟩
      · rw [tlF_snoc (by omega), tlP_snoc (by omega)]; exact h5 i (by omega)
    · show dpt (cL c ++ [x]) i ≤ i
      rw [dpt_snoc]
      by_cases e : i = (cL c).length
      · rw [if_pos e]
        refine dmx_le _ (fun k hk => ?_)
        have := r3 k hk
        have := h6 (x.2.getD k 0)
        omega
      · rw [if_neg e]; exact h6 i
  | inr y =>
    obtain ⟨bb, a, b⟩ := y
    cases bb with
    | true =>
      obtain ⟨r1, r2, r3⟩ := hr
      have hS : (cS c ++ [(a, b)]).length ≤ 12 ∧ PRok (cL c).length (cS c ++ [(a, b)]) := by
        refine ⟨by rw [List.length_append]; show _ + 1 ≤ 12; omega, fun x y hxy => ?_⟩
        rcases List.mem_append.mp hxy with q | q
        · exact h3.2 x y q
        · obtain ⟨rfl, rfl⟩ := Prod.mk.inj (List.mem_singleton.mp q)
          exact ⟨r1, r2⟩
      have hin : ∀ x y, inS (cS c) x y → inS (cS c ++ [(a, b)]) x y := fun x y h => List.mem_append_left _ h
      have hab' : inS (cS c ++ [(a, b)]) a b := List.mem_append_right _ List.mem_cons_self
      by_cases e : ldJ (cJ c) a = ldJ (cJ c) b
      · have es : stp tk c (.inr (true, a, b)) = (cL c, cS c ++ [(a, b)], cQ c, cJ c) := by
          show (cL c, cS c ++ [(a, b)], cQ c, if ldJ (cJ c) a = ldJ (cJ c) b then cJ c else _) = _
          rw [if_pos e]
        rw [es]
        refine ⟨h1, fun i j hi hj => (h2 i j hi hj).trans ⟨fun q => cg_mono hin q, fun q => cg_trans h1.1 (fun x y hxy => ?_) q⟩, hS, h4, h5, h6, h7, h8⟩
        rcases List.mem_append.mp hxy with q | q
        · exact cg_in q
        · obtain ⟨rfl, rfl⟩ := Prod.mk.inj (List.mem_singleton.mp q)
          exact (h2 _ _ r1 r2).mp e
      · have es : stp tk c (.inr (true, a, b)) = (cL c, cS c ++ [(a, b)], cQ c, clJ 24 (mkT tk (cL c)) (cJ c ++ [(a, b, some (cS c).length, 2 ^ (cS c).length)])) := by
          show (cL c, cS c ++ [(a, b)], cQ c, if ldJ (cJ c) a = ldJ (cJ c) b then cJ c else _) = _
          rw [if_neg e]
        rw [es]
        have hP : PC (mkT tk (cL c)) (cJ c ++ [(a, b, some (cS c).length, 2 ^ (cS c).length)]) := h1.join r1 r2 e (Nat.lt_of_lt_of_le (Nat.pow_lt_pow_right (a := 2) (by decide) r3) (by decide)) (fun k hk => by
          obtain rfl := Option.some.inj hk
          exact r3)
        have hcl := clJ_none 24 hP (Nat.le_trans (cnt_le _ _) h1.2.1)
        have hm := clJ_mcl (T := mkT tk (cL c)) hP.1 24 (J := cJ c ++ [(a, b, some (cS c).length, 2 ^ (cS c).length)])
        rw [ldJ_snoc] at hm
        have hR := cg_congr (mkT tk (cL c)) hP.1 (inS (cS c ++ [(a, b)]))
        have iff2 := clo_iff (nxt_none hcl) (E := inS (cS c ++ [(a, b)])) (fun x y hxy => hm.1 x y (by
          rcases List.mem_append.mp hxy with q | q
          · exact un_mono ((h2 x y (h3.2 x y q).1 (h3.2 x y q).2).mpr (cg_in q))
          · obtain ⟨rfl, rfl⟩ := Prod.mk.inj (List.mem_singleton.mp q)
            exact un_a)) (hm.2 _ hR (jst_un hR (fun i j hi hj hij => cg_mono hin ((h2 i j hi hj).mp hij)) r1 r2 (cg_in hab')))
        exact ⟨PC.cl 24 hP, iff2, hS, h4, h5, h6, h7, h8⟩
    | false =>
      obtain ⟨r1, r2, r3⟩ := hr
      refine ⟨h1, h2, h3, ⟨?_, fun x y hxy => ?_⟩, h5, h6, h7, h8⟩
      · show (cQ c ++ [(a, b)]).length ≤ 8
        rw [List.length_append]; show _ + 1 ≤ 8; omega
      · rcases List.mem_append.mp hxy with q | q
        · exact h4.2 x y q
        · obtain ⟨rfl, rfl⟩ := Prod.mk.inj (List.mem_singleton.mp q)
          exact ⟨r1, r2⟩
/-- rows that may come one behind another -/
def okRs (tk : Nat → Nat) (nf : Nat) : Core → List Row → Prop
  | _, [] => True
  | c, r :: rs => okR tk nf c r ∧ okRs tk nf (stp tk c r) rs
def run (tk : Nat → Nat) (c : Core) (rs : List Row) : Core := rs.foldl (stp tk) c
theorem run_snoc (tk : Nat → Nat) (c : Core) (rs : List Row) (r : Row) : run tk c (rs ++ [r]) = stp tk (run tk c rs) r := by rw [run, List.foldl_append]; rfl
theorem okRs_snoc {tk : Nat → Nat} {nf : Nat} {r : Row} : ∀ {rs : List Row} {c : Core}, okRs tk nf c (rs ++ [r]) ↔ okRs tk nf c rs ∧ okR tk nf (run tk c rs) r
  | [], c => by show okR tk nf c r ∧ True ↔ True ∧ okR tk nf c r; exact ⟨fun h => ⟨trivial, h.1⟩, fun h => ⟨h.2, trivial⟩⟩
  | x :: rs, c => by
    show okR tk nf c x ∧ okRs tk nf (stp tk c x) (rs ++ [r]) ↔ (okR tk nf c x ∧ okRs tk nf (stp tk c x) rs) ∧ okR tk nf (run tk (stp tk c x) rs) r
    rw [okRs_snoc (rs := rs)]
    exact ⟨fun h => ⟨⟨h.1, h.2.1⟩, h.2.2⟩, fun h => ⟨h.1.1, h.1.2, h.2⟩⟩
theorem okRs_app {tk : Nat → Nat} {nf : Nat} {rs' : List Row} : ∀ {rs : List Row} {c : Core}, okRs tk nf c (rs ++ rs') ↔ okRs tk nf c rs ∧ okRs tk nf (run tk c rs) rs'
  | [], c => by show okRs tk nf c rs' ↔ True ∧ okRs tk nf c rs'; exact ⟨fun h => ⟨trivial, h⟩, fun h => h.2⟩
  | x :: rs, c => by
    show okR tk nf c x ∧ okRs tk nf (stp tk c x) (rs ++ rs') ↔ (okR tk nf c x ∧ okRs tk nf (stp tk c x) rs) ∧ okRs tk nf (run tk (stp tk c x) rs) rs'
    rw [okRs_app (rs := rs)]
    exact ⟨fun h => ⟨⟨h.1, h.2.1⟩, h.2.2⟩, fun h => ⟨h.1.1, h.1.2, h.2⟩⟩
theorem CI.rn {tk : Nat → Nat} {nf : Nat} : ∀ {rs : List Row} {c : Core}, CI tk nf c → okRs tk nf c rs → CI tk nf (run tk c rs)
  | [], _, h, _ => h
  | _ :: rs, _, h, ho => CI.rn (rs := rs) (h.st ho.1) ho.2

