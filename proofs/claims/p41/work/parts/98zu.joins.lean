/-! the law: joins, each within a group, by a same as told or of like functions -/
def JI (T : Trm) (Q : Prs) (J : List Jn) : Prop := ∀ (p x y : Nat) (c : Option Nat) (r : Nat), J[p]? = some (x, y, c, r) → x ≠ y ∧ ldJ J x = ldJ J y ∧ (∀ s, c = some s → Q[s]? = some (x, y)) ∧ (c = none → x < y ∧ alikeR T (fun a b => ldJ J a = ldJ J b) x y)
theorem JI.snoc {T : Trm} {Q : Prs} {J : List Jn} {a b r : Nat} {c : Option Nat} (h : JI T Q J) (hab : a ≠ b) (h1 : ∀ s, c = some s → Q[s]? = some (a, b)) (h2 : c = none → a < b ∧ alikeR T (fun a b => ldJ J a = ldJ J b) a b) : JI T Q (J ++ [(a, b, c, r)]) := by
  intro p x y c' r' hp
  rw [ldJ_snoc]
  rcases get_snoc hp with ⟨g1, g2⟩ | ⟨g1, g2⟩
  · obtain ⟨q1, q2, q3, q4⟩ := h p x y c' r' g2
    refine ⟨q1, un_mono q2, q3, fun e => ⟨(q4 e).1, (q4 e).2.1, fun k hk => un_mono ((q4 e).2.2 k hk)⟩⟩
  · cases g2
    refine ⟨hab, un_a, h1, fun e => ⟨(h2 e).1, (h2 e).2.1, fun k hk => un_mono ((h2 e).2.2 k hk)⟩⟩
theorem JI.cl {T : Trm} {Q : Prs} : ∀ (m : Nat) {J : List Jn}, JI T Q J → JI T Q (clJ m T J)
  | 0, _, h => h
  | m + 1, J, h => by
    rw [clJ]
    cases hn : nxt T (ldJ J) with
    | none => exact h
    | some p =>
      obtain ⟨n1', n2', n3, n4, n5⟩ := nxt_some hn
      exact JI.cl m (h.snoc (by omega) (fun s e => by cases e) (fun _ => ⟨n1', n3, fun k hk => eqParts_iff.mp n5 k hk⟩))
theorem JI.more {tk : Nat → Nat} {L : Tl} {q : Nat × List Nat} {Q : Prs} {J : List Jn} (h : JI (mkT tk L) Q J) (hJ : JOK L.length J) : JI (mkT tk (L ++ [q])) Q J := by
  intro p x y c r hp
  obtain ⟨hx, hy, -⟩ := hJ.2 p x y c r hp
  obtain ⟨q1, q2, q3, q4⟩ := h p x y c r hp
  refine ⟨q1, q2, q3, fun e => ⟨(q4 e).1, ?_⟩⟩
  obtain ⟨g1, g2⟩ := (q4 e).2
  have g1 : tlF L x = tlF L y := g1
  refine ⟨?_, fun k hk => ?_⟩
  · show tlF (L ++ [q]) x = tlF (L ++ [q]) y
    rw [tlF_snoc hx, tlF_snoc hy]; exact g1
  · have hk : k < tk (tlF (L ++ [q]) x) := hk
    rw [tlF_snoc hx] at hk
    show ldJ J ((tlP (L ++ [q]) x).getD k 0) = ldJ J ((tlP (L ++ [q]) y).getD k 0)
    rw [tlP_snoc hx, tlP_snoc hy]; exact g2 k hk
theorem JI.sames {T : Trm} {Q : Prs} {J : List Jn} {a b : Nat} (h : JI T Q J) : JI T (Q ++ [(a, b)]) J := by
  intro p x y c r hp
  obtain ⟨q1, q2, q3, q4⟩ := h p x y c r hp
  refine ⟨q1, q2, fun s e => ?_, q4⟩
  have := q3 s e
  rw [List.getElem?_append_left (List.getElem?_eq_some_iff.mp this).1]; exact this
abbrev JIc (tk : Nat → Nat) (c : Core) : Prop := JI (mkT tk (cL c)) (cS c) (cJ c)
theorem JI.st {tk : Nat → Nat} {nf : Nat} {c : Core} {r : Row} (h : JIc tk c) (hCI : CI tk nf c) : JIc tk (stp tk c r) := by
  cases r with
  | inl x => exact JI.cl 24 (JI.more h hCI.1.2.2.1)
  | inr y =>
    obtain ⟨bb, a, b⟩ := y
    cases bb with
    | false => exact h
    | true =>
      have h' : JI (mkT tk (cL c)) (cS c ++ [(a, b)]) (cJ c) := h.sames
      show JI (mkT tk (cL c)) (cS c ++ [(a, b)]) (if ldJ (cJ c) a = ldJ (cJ c) b then cJ c else clJ 24 (mkT tk (cL c)) (cJ c ++ [(a, b, some (cS c).length, 2 ^ (cS c).length)]))
      by_cases z : ldJ (cJ c) a = ldJ (cJ c) b
      · rw [if_pos z]; exact h'
      · rw [if_neg z]
        refine JI.cl 24 (h'.snoc (fun e => z (by rw [e])) (fun s e => ?_) (fun e => by cases e))
        cases e
        rw [List.getElem?_append_right (Nat.le_refl _), Nat.sub_self]; rfl
theorem JI.rn {tk : Nat → Nat} {nf : Nat} : ∀ {rs : List Row} {c : Core}, JIc tk c → CI tk nf c → okRs tk nf c rs → JIc tk (run tk c rs)
  | [], _, h, _, _ => h
  | _ :: rs, _, h, hc, ho => JI.rn (rs := rs) (h.st hc) (hc.st ho.1) ho.2
theorem ji5 {rs : List Row} (hok : okRs tk5 5 c0 rs) : JIc tk5 (run tk5 c0 rs) := JI.rn (tk := tk5) (nf := 5) (c := c0) (fun p x y c r hp => by simp [c0, cJ] at hp) (CI.zero (by omega) (fun g hg => by
  have : g = 0 ∨ g = 1 ∨ g = 2 ∨ g = 3 ∨ g = 4 := by omega
  rcases this with rfl | rfl | rfl | rfl | rfl <;> decide)) hok
section JOINS
variable {N f a x y p : Nat} {R A : List Row} {NL : List (List Nat)} {tp : List Nat} {sx : Nat × (Nat → Int32)} {v4 v5 v6 : Int32} {w : Mem}
theorem l901 {c : Option Nat} (rc : Mem → Int32 → Option (Mem × Int32)) (k : Mem → Option (Mem × Int32)) (h : LW9 w f a R A NL tp) (hCI : CI tk5 5 (run tk5 c0 (R ++ A))) (hL : LO9 (cL (run tk5 c0 (R ++ A)))) (hx : x < (cL (run tk5 c0 (R ++ A))).length) (hy : y < (cL (run tk5 c0 (R ++ A))).length) (hc : ∀ s, c = some s → s < 12) (hn : c = none → x < y ∧ alikeR (cT tk5 R A) (fun a b => (ldJ (cJ (run tk5 c0 (R ++ A)))) a = (ldJ (cJ (run tk5 c0 (R ++ A)))) b) x y) : f_L_law_901_810 rc k N w sx v4 v5 (nI p) (nI x) (nI y) (oI c) = rc w (nI (p + 1)) := by
  have h9 := hL.1
  rw [f_L_law_901_810, nI1]
  cases c with
  | some s =>
    have := hc s rfl
    exact oie (nI_n2 (by omega)) rfl
  | none =>
    obtain ⟨h1, h2⟩ := hn rfl
    have e := alike9 (N := N) hL h.2.1.2 (⟨hCI.1.2.2.2.1, h.2.2⟩ : QC (cL (run tk5 c0 (R ++ A))).length w (ldJ (cJ (run tk5 c0 (R ++ A))))) hx hy
    rw [b01_t h2] at e
    exact oit rfl (oie (nI_ge h1 (by omega)) (obind e (oie nz1 rfl)))
theorem l810 (k : Mem → Option (Mem × Int32)) (hN : 276 < N) (h : LW9 w f a R A NL tp) (hCI : CI tk5 5 (run tk5 c0 (R ++ A))) (hL : LO9 (cL (run tk5 c0 (R ++ A)))) (hJ : JIc tk5 (run tk5 c0 (R ++ A))) : ∃ w', lp_L_law_810 k N sx v4 v5 N w (nI 0) = k w' ∧ LW9 w' f a R A NL tp := by
  have h9 := hL.1
  have hJO : JOK (cL (run tk5 c0 (R ++ A))).length (cJ (run tk5 c0 (R ++ A))) := hCI.1.2.2.1
  have hJl := hJO.1
  obtain ⟨w', j1, e⟩ := lpc (cJ (run tk5 c0 (R ++ A))).length (fun g w q => lp_L_law_810 k N sx v4 v5 g w q) (fun w => k (xAns w (nI 0))) (fun _ w => LW9 w f a R A NL tp) (fun g w hw => by
    show lp_L_law_810 k N sx v4 v5 (g + 1) w _ = _
    rw [lp_L_law_810]
    exact obind (xabout hw.1 N).2.2.2.2.2 (oit (nI_le (Nat.le_refl _) (by omega)) rfl)) (fun g q w hq j1 => by
    obtain ⟨⟨x, y, c, r⟩, hp⟩ := get_at (cJ (run tk5 c0 (R ++ A))) hq
    obtain ⟨hx, hy, -, hc⟩ := hJO.2 q x y c r hp
    obtain ⟨q1, q2, q3, q4⟩ := hJ q x y c r hp
    have j2 := j1.an
    have j3 := j2.an
    have j4 := j3.an
    have j5 := j4.an
    have e6 := (xabout j1.1 N).2.2.2.2.2
    have e0 := (xjoinOf j2.1 N hp (by omega) hc).1
    have e1 := (xjoinOf j3.1 N hp (by omega) hc).2.1
    have e2 := (xjoinOf j4.1 N hp (by omega) hc).2.2
    have dx := hCI.dl hx
    have dy := hCI.dl hy
    have hrep : gA (xAns (xAns (xAns (xAns w (nI 0)) (nI 0)) (nI 0)) (nI 0)) 45 0 (nI x).toNatClampNeg = gA (xAns (xAns (xAns (xAns w (nI 0)) (nI 0)) (nI 0)) (nI 0)) 45 0 (nI y).toNatClampNeg := by
      rw [nI_clamp (by omega), nI_clamp (by omega), j5.2.2 x hx, j5.2.2 y hy, q2]
    have hxy : ¬ nI x = nI y := fun z => q1 ((nI_inj_iff (by omega) (by omega)).mp z)
    cases c with
    | none =>
      have e9 := l901 (N := N) (sx := sx) (v4 := v4) (v5 := v5) (p := q) (c := none) (fun (w : Mem) (v7 : Int32) => lp_L_law_810 k N sx v4 v5 g w v7) k j5 hCI hL hx hy (fun s e => by cases e) q4
      refine ⟨_, j5, ?_⟩
      show lp_L_law_810 k N sx v4 v5 (g + 1) w (nI q) = _
      rw [lp_L_law_810]
      refine obind e6 (oie (nI_ge hq (by omega)) (obind e0 (obind e1 (obind e2 (oit (inb_nI (by omega) (by omega)) (oit (inb_nI (by omega) (by omega)) (oit hrep (oie hxy (oit ?_ e9)))))))))
      show (n2 : Int32) < (0 : Int32)
      decide
    | some s =>
      have hs := q3 s rfl
      have hs12 := hc s rfl
      have s0 := (xsameOf j5.1 N hs).1
      have s1 := (xsameOf j5.an.1 N hs).2
      have e9 := l901 (N := N) (sx := sx) (v4 := v4) (v5 := v5) (p := q) (c := some s) (fun (w : Mem) (v7 : Int32) => lp_L_law_810 k N sx v4 v5 g w v7) k j5.an.an hCI hL hx hy hc q4
      refine ⟨_, j5.an.an, ?_⟩
      show lp_L_law_810 k N sx v4 v5 (g + 1) w (nI q) = _
      rw [lp_L_law_810]
      refine obind e6 (oie (nI_ge hq (by omega)) (obind e0 (obind e1 (obind e2 (oit (inb_nI (by omega) (by omega)) (oit (inb_nI (by omega) (by omega)) (oit hrep (oie hxy (oie ?_ (obind s0 (oit rfl (obind s1 (oit rfl e9)))))))))))))
      exact nI_nn (by omega)) 0 N w (by omega) (by omega) h
  exact ⟨_, e, j1.an⟩
end JOINS
