theorem RPr.n24 {g n : Nat} {tp : List Nat} {FL : List (List Nat)} {tg : List Nat} {NL : List (List Nat)} {rs : List Row} (h : RPr g n tp FL tg NL rs) (tk : Nat → Nat) (ht : AG tk tg) : CI tk FL.length (run tk c0 rs) := by
  obtain ⟨_, ⟨hF, hT, h3⟩, _, ho⟩ := h
  exact (CI.zero hF (fun g hg => by rw [ht g (by omega)]; exact h3 g)).rn (ho tk ht).1
def tk0 (tg : List Nat) : Nat → Nat := fun i => tg.getD i 0
theorem AG.z (tg : List Nat) : AG (tk0 tg) tg := fun _ _ => rfl
theorem RPr.nl {g n : Nat} {tp : List Nat} {FL : List (List Nat)} {tg : List Nat} {NL : List (List Nat)} {rs : List Row} (h : RPr g n tp FL tg NL rs) : NL.length ≤ 24 := by
  have h1 := (h.n24 _ (AG.z tg)).1.2.1
  rw [(h.2.2.2 _ (AG.z tg)).2]; exact h1
/-- the four words that are no names -/
def kwF : List Nat := [102, 117, 110]
def kwT : List Nat := [116, 101, 114, 109]
def kwS : List Nat := [115, 97, 109, 101]
def kwD : List Nat := [100, 105, 102, 102]
theorem kwF_ok : WOK kwF := ⟨by decide, by decide, by decide⟩
theorem kwT_ok : WOK kwT := ⟨by decide, by decide, by decide⟩
theorem kwS_ok : WOK kwS := ⟨by decide, by decide, by decide⟩
theorem kwD_ok : WOK kwD := ⟨by decide, by decide, by decide⟩
def isNm (K : Kd) : Prop := ∃ ls, K = .word ls ∧ ls ≠ kwF ∧ ls ≠ kwT ∧ ls ≠ kwS ∧ ls ≠ kwD
theorem i2c_l : ∀ c : Nat, c < 128 → i2c (nI c &&& 255) = nI c := by
  have key : ∀ c : Fin 128, i2c (nI c.val &&& 255) = nI c.val := by decide +kernel
  exact fun c hc => key ⟨c, hc⟩
theorem TkM.ne2 {w : Mem} {K : Kd} {tp : List Nat} {n p q : Nat} (h : TkM w K) (hk : KO tp n p q K) (hK : ∀ ls, K ≠ .word ls) : gF w 9 16 0 ≠ (2 : Int32) := by
  rcases K.cs with rfl | ⟨ls, rfl⟩ | ⟨d, rfl⟩ | ⟨c, rfl⟩ | rfl
  · have : gF w 9 16 0 = nI 0 := h; rw [this]; decide
  · exact absurd rfl (hK ls)
  · have : gF w 9 16 0 = nI 3 := h.1; rw [this]; decide
  ·
    have e : gF w 9 16 0 = nI c := h
    rw [e]
    rcases hk.1 with y | y | y | y | y <;> rw [y] <;> decide
  · have : gF w 9 16 0 = nI 1 := h; rw [this]; decide
