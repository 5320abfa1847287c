def f_L_law_1114 (N : Nat) (w : Mem) (sx : Nat × (Nat → Int32)) (v4 : Int32) (v5 : Int32) (v7 : Int32) (v8 : Int32) (v9 : Int32) (v10 : Int32) : Option (Mem × Int32) :=
  (Option.bind (f_X8_about N w (4 : Int32)) (fun z27 => (if z27.2 = v5 then
(Option.bind (f_X8_join N z27.1 v7 v8) (fun z29 => (if z29.2 = v9 then
(if (v5 - v9) = v10 then
(Option.bind (f_X8_about N z29.1 (5 : Int32)) (fun z31 => (if z31.2 = (1 : Int32) then
(Option.bind (f_X8_undo N z31.1 ) (fun z33 => (if z33.2 = (0 : Int32) then
some (z33.1, (0 : Int32))
else
(Option.bind (f_X8_about N z33.1 (4 : Int32)) (fun z35 => (if z35.2 = v5 then
(Option.bind (f_X8_undo N z35.1 ) (fun z37 => (if z37.2 = (0 : Int32) then
(Option.bind (f_X8_about N z37.1 (6 : Int32)) (fun z39 => (if z39.2 = ((gF z39.1 9 5 0) - v5) then
(Option.bind (f_X8_term N z39.1 (gF z39.1 9 5 0) (0 : Int32)) (fun z41 => (if z41.2 = (-1 : Int32) then
(Option.bind (f_X8_trouble N z41.1 ) (fun z43 => (if z43 = (1 : Int32) then
(Option.bind (f_X8_proves N z41.1 (v4 + (1 : Int32)) (0 : Int32) (0 : Int32)) (fun z45 => (if z45.2 = (-1 : Int32) then
(Option.bind (f_X8_trouble N z45.1 ) (fun z47 => (if z47 = (2 : Int32) then
some (z45.1, (1 : Int32))
else
some (z45.1, (0 : Int32)))))
else
some (z45.1, (0 : Int32)))))
else
some (z41.1, (0 : Int32)))))
else
some (z41.1, (0 : Int32)))))
else
some (z39.1, (0 : Int32)))))
else
some (z37.1, (0 : Int32)))))
else
some (z35.1, (0 : Int32))))))))
else
some (z31.1, (0 : Int32)))))
else
some (z29.1, (0 : Int32)))
else
some (z29.1, (0 : Int32)))))
else
some (z27.1, (0 : Int32)))))
def f_L_law_1058 (N : Nat) (w : Mem) (sx : Nat × (Nat → Int32)) (v4 : Int32) (v5 : Int32) (v7 : Int32) (v8 : Int32) (v9 : Int32) (v10 : Int32) (v11 : Int32) (v12 : Int32) : Option (Mem × Int32) :=
  (Option.bind (f_X8_without N w v11 (0 : Int32)) (fun z66 => (if z66.2 = v12 then
(Option.bind (f_X8_sameOf N z66.1 v11 (2 : Int32)) (fun z68 => (if inb v11 12 = true then (if inb (gA z68.1 43 0 v11.toNatClampNeg) 12 = true then (if inb (gA z68.1 44 0 v11.toNatClampNeg) 12 = true then (if (gA z68.1 45 0 (gA z68.1 43 0 v11.toNatClampNeg).toNatClampNeg) = (gA z68.1 45 0 (gA z68.1 44 0 v11.toNatClampNeg).toNatClampNeg) then
(if z68.2 = (1 : Int32) then
(f_L_law_1114 N z68.1 sx v4 v5 v7 v8 v9 v10 )
else
some (z68.1, (0 : Int32)))
else
(if z68.2 = (0 : Int32) then
(f_L_law_1114 N z68.1 sx v4 v5 v7 v8 v9 v10 )
else
some (z68.1, (0 : Int32)))) else none) else none) else none)))
else
some (z66.1, (0 : Int32)))))
def lp_L_law_1021 (k : Int32 → Option (Mem × Int32)) (N : Nat) (w : Mem) (sx : Nat × (Nat → Int32)) (v4 : Int32) (v5 : Int32) (v7 : Int32) (v8 : Int32) (v9 : Int32) (v10 : Int32) (v11 : Int32) : Nat → Int32 → Int32 → Option (Mem × Int32)
  | 0, _, _ => none
  | n + 1, v12, v13 => (if (gF w 9 5 0) ≤ v13 then
(k v12)
else
(if inb v13 12 = true then (if (gA w 45 0 v13.toNatClampNeg) = v13 then
(lp_L_law_1021 k N w sx v4 v5 v7 v8 v9 v10 v11 n (v12 + (1 : Int32)) (v13 + (1 : Int32)))
else
(lp_L_law_1021 k N w sx v4 v5 v7 v8 v9 v10 v11 n (v12 + (0 : Int32)) (v13 + (1 : Int32)))) else none))
def f_L_law_934 (N : Nat) (w : Mem) (sx : Nat × (Nat → Int32)) (v4 : Int32) (v5 : Int32) : Option (Mem × Int32) :=
  (Option.bind (f_X9_next N w sx (0 : Int32) ((gF w 9 5 0) - (1 : Int32))) (fun z19 => (Option.bind (f_X9_next N z19.1 sx (0 : Int32) ((gF z19.1 9 5 0) - (1 : Int32))) (fun z21 => (Option.bind (f_X8_would N z21.1 z19.2 z21.2 (0 : Int32)) (fun z23 => (Option.bind (f_X8_would N z23.1 z19.2 z21.2 (2 : Int32)) (fun z25 => (if (gF z25.1 9 6 0) ≤ (0 : Int32) then
(f_L_law_1114 N z25.1 sx v4 v5 z19.2 z21.2 z23.2 z25.2 )
else
(Option.bind (f_X9_next N z25.1 sx (0 : Int32) ((gF z25.1 9 6 0) - (1 : Int32))) (fun z61 => (Option.bind (f_X10_closes N z61.1 (v4 &&& (((1 : Int32) <<< (z61.2 &&& 31)) ^^^ (-1 : Int32)))) (fun z63 => (lp_L_law_1021 (fun (u12_65 : Int32) => (f_L_law_1058 N z63 sx v4 v5 z19.2 z21.2 z23.2 z25.2 z61.2 u12_65 )) N z63 sx v4 v5 z19.2 z21.2 z23.2 z25.2 z61.2 N (0 : Int32) (0 : Int32)))))))))))))))
def f_L_law_901_810 (rc : Mem → Int32 → Option (Mem × Int32)) (k : Mem → Option (Mem × Int32)) (N : Nat) (w : Mem) (sx : Nat × (Nat → Int32)) (v4 : Int32) (v5 : Int32) (v7 : Int32) (v8 : Int32) (v9 : Int32) (v10 : Int32) : Option (Mem × Int32) :=
  (if v10 = (-2 : Int32) then
(if v9 ≤ v8 then
some (w, (0 : Int32))
else
(Option.bind (f_X10_isAlike N w v8 v9) (fun z91 => (if z91 = (0 : Int32) then
some (w, (0 : Int32))
else
(rc w (v7 + (1 : Int32)))))))
else
(rc w (v7 + (1 : Int32))))
def lp_L_law_810 (k : Mem → Option (Mem × Int32)) (N : Nat) (sx : Nat × (Nat → Int32)) (v4 : Int32) (v5 : Int32) : Nat → Mem → Int32 → Option (Mem × Int32)
  | 0, _, _ => none
  | n + 1, w, v7 => (Option.bind (f_X8_about N w (6 : Int32)) (fun z81 => (if z81.2 ≤ v7 then
(k z81.1)
else
(Option.bind (f_X8_joinOf N z81.1 v7 (0 : Int32)) (fun z83 => (Option.bind (f_X8_joinOf N z83.1 v7 (1 : Int32)) (fun z85 => (Option.bind (f_X8_joinOf N z85.1 v7 (2 : Int32)) (fun z87 => (if inb z83.2 12 = true then (if inb z85.2 12 = true then (if (gA z87.1 45 0 z83.2.toNatClampNeg) = (gA z87.1 45 0 z85.2.toNatClampNeg) then
(if z83.2 = z85.2 then
some (z87.1, (0 : Int32))
else
(if z87.2 < (0 : Int32) then
(f_L_law_901_810 (fun (w : Mem) (v7 : Int32) => lp_L_law_810 k N  sx v4 v5 n w v7) k N z87.1 sx v4 v5 v7 z83.2 z85.2 z87.2 )
else
(Option.bind (f_X8_sameOf N z87.1 z87.2 (0 : Int32)) (fun z96 => (if z96.2 = z83.2 then
(Option.bind (f_X8_sameOf N z96.1 z87.2 (1 : Int32)) (fun z98 => (if z98.2 = z85.2 then
(f_L_law_901_810 (fun (w : Mem) (v7 : Int32) => lp_L_law_810 k N  sx v4 v5 n w v7) k N z98.1 sx v4 v5 v7 z83.2 z85.2 z87.2 )
else
some (z98.1, (0 : Int32)))))
else
some (z96.1, (0 : Int32)))))))
else
some (z87.1, (0 : Int32))) else none) else none))))))))))
def f_L_law_798 (N : Nat) (w : Mem) (sx : Nat × (Nat → Int32)) (v4 : Int32) (v5 : Int32) (v6 : Int32) : Option (Mem × Int32) :=
  (if v6 = v5 then
(lp_L_law_810 (fun (w_18 : Mem) => (f_L_law_934 N w_18 sx v4 v5 )) N  sx v4 v5 N w (0 : Int32))
else
some (w, (0 : Int32)))
def f_L_law_777_645 (rc : Mem → Int32 → Int32 → Option (Mem × Int32)) (k : Mem → Int32 → Option (Mem × Int32)) (N : Nat) (w : Mem) (sx : Nat × (Nat → Int32)) (v4 : Int32) (v5 : Int32) (v6 : Int32) (v7 : Int32) (v9 : Int32) : Option (Mem × Int32) :=
  (Option.bind (f_X8_hung N w v7 v9) (fun z116 => (if z116.2 = (-2 : Int32) then
(rc z116.1 v6 (v7 + (1 : Int32)))
else
some (z116.1, (0 : Int32)))))
def lp_L_law_729 (k : Mem → Int32 → Option (Mem × Int32)) (N : Nat) (sx : Nat × (Nat → Int32)) (v4 : Int32) (v5 : Int32) (v6 : Int32) (v7 : Int32) : Nat → Mem → Int32 → Int32 → Option (Mem × Int32)
  | 0, _, _, _ => none
  | n + 1, w, v9, v10 => (if (gF w 9 5 0) ≤ v10 then
(k w v9)
else
(Option.bind (f_X8_term N w v10 (5 : Int32)) (fun z119 => (if z119.2 = v7 then
(Option.bind (f_X8_hung N z119.1 v7 v9) (fun z121 => (if z121.2 = v10 then
(lp_L_law_729 k N  sx v4 v5 v6 v7 n z121.1 (v9 + (1 : Int32)) (v10 + (1 : Int32)))
else
some (z121.1, (0 : Int32)))))
else
(lp_L_law_729 k N  sx v4 v5 v6 v7 n z119.1 v9 (v10 + (1 : Int32)))))))
def f_L_law_680_645_s2 (rc : Mem → Int32 → Int32 → Option (Mem × Int32)) (k : Mem → Int32 → Option (Mem × Int32)) (N : Nat) (w : Mem) (sx : Nat × (Nat → Int32)) (v4 : Int32) (v5 : Int32) (v7 : Int32) (v8 : Int32) (v9 : Int32) (s0 : Int32) (s1 : Int32) : Option (Mem × Int32) :=
  (Option.bind (f_X8_height N w v7) (fun z109 => (if v8 = (-2 : Int32) then
(if z109.2 = (0 : Int32) then
(Option.bind (f_X8_height N z109.1 v7) (fun z128 => (if z128.2 < (gF z128.1 9 5 0) then
(lp_L_law_729 (fun (w_130 : Mem) (u9_130 : Int32) => (f_L_law_777_645 rc k N w_130 sx v4 v5 (s1 + s0) v7 u9_130 )) N  sx v4 v5 (s1 + s0) v7 N z128.1 v9 (0 : Int32))
else
some (z128.1, (0 : Int32)))))
else
some (z109.1, (0 : Int32)))
else
(Option.bind (f_X8_height N z109.1 v8) (fun z111 => (if z109.2 = (z111.2 + (1 : Int32)) then
(Option.bind (f_X8_height N z111.1 v7) (fun z113 => (if z113.2 < (gF z113.1 9 5 0) then
(lp_L_law_729 (fun (w_115 : Mem) (u9_115 : Int32) => (f_L_law_777_645 rc k N w_115 sx v4 v5 (s1 + s0) v7 u9_115 )) N  sx v4 v5 (s1 + s0) v7 N z113.1 v9 (0 : Int32))
else
some (z113.1, (0 : Int32)))))
else
some (z111.1, (0 : Int32))))))))
def lp_L_law_645 (k : Mem → Int32 → Option (Mem × Int32)) (N : Nat) (sx : Nat × (Nat → Int32)) (v4 : Int32) (v5 : Int32) : Nat → Mem → Int32 → Int32 → Option (Mem × Int32)
  | 0, _, _, _ => none
  | n + 1, w, v6, v7 => (if (gF w 9 5 0) ≤ v7 then
(k w v6)
else
(Option.bind (f_X8_term N w v7 (5 : Int32)) (fun z107 => (if z107.2 = (-2 : Int32) then
(f_L_law_680_645_s2 (fun (w : Mem) (v6 : Int32) (v7 : Int32) => lp_L_law_645 k N  sx v4 v5 n w v6 v7) k N z107.1 sx v4 v5 v7 z107.2 (0 : Int32) (1 : Int32) v6)
else
(f_L_law_680_645_s2 (fun (w : Mem) (v6 : Int32) (v7 : Int32) => lp_L_law_645 k N  sx v4 v5 n w v6 v7) k N z107.1 sx v4 v5 v7 z107.2 (0 : Int32) (0 : Int32) v6)))))
def f_L_law_611 (N : Nat) (w : Mem) (sx : Nat × (Nat → Int32)) (v4 : Int32) (v5 : Int32) : Option (Mem × Int32) :=
  (Option.bind (f_X8_about N w (4 : Int32)) (fun z13 => (if z13.2 = v5 then
(Option.bind (f_X8_about N z13.1 (6 : Int32)) (fun z15 => (if z15.2 = ((gF z15.1 9 5 0) - v5) then
(lp_L_law_645 (fun (w_17 : Mem) (u6_17 : Int32) => (f_L_law_798 N w_17 sx v4 v5 u6_17 )) N  sx v4 v5 N z15.1 (0 : Int32) (0 : Int32))
else
some (z15.1, (0 : Int32)))))
else
some (z13.1, (0 : Int32)))))
def f_L_law_555_220_s2 (rc : Mem → Int32 → Int32 → Option (Mem × Int32)) (k : Mem → Int32 → Option (Mem × Int32)) (N : Nat) (w : Mem) (sx : Nat × (Nat → Int32)) (v4 : Int32) (v5 : Int32) (v6 : Int32) (s0 : Int32) (s1 : Int32) : Option (Mem × Int32) :=
  (if s1 = s0 then
(Option.bind (f_X8_partOf N w v6 (1 : Int32)) (fun z154 => (if inb v6 12 = true then (if (gA z154.1 40 0 v6.toNatClampNeg) = (4 : Int32) then
(if z154.2 = (gA z154.1 42 0 v6.toNatClampNeg) then
(Option.bind (f_X8_partOf N z154.1 v6 (3 : Int32)) (fun z161 => (if z161.2 = (-2 : Int32) then
(rc z161.1 v5 (v6 + (1 : Int32)))
else
some (z161.1, (0 : Int32)))))
else
some (z154.1, (0 : Int32)))
else
(if z154.2 = (-2 : Int32) then
(Option.bind (f_X8_partOf N z154.1 v6 (3 : Int32)) (fun z157 => (if z157.2 = (-2 : Int32) then
(rc z157.1 v5 (v6 + (1 : Int32)))
else
some (z157.1, (0 : Int32)))))
else
some (z154.1, (0 : Int32)))) else none)))
else
some (w, (0 : Int32)))
def f_L_law_525_220 (rc : Mem → Int32 → Int32 → Option (Mem × Int32)) (k : Mem → Int32 → Option (Mem × Int32)) (N : Nat) (w : Mem) (sx : Nat × (Nat → Int32)) (v4 : Int32) (v5 : Int32) (v6 : Int32) : Option (Mem × Int32) :=
  (Option.bind (f_X8_partOf N w v6 (0 : Int32)) (fun z151 => (if inb v6 12 = true then (if (gA z151.1 40 0 v6.toNatClampNeg) ≤ (2 : Int32) then
(f_L_law_555_220_s2 rc k N z151.1 sx v4 v5 v6 (-2 : Int32) z151.2)
else
(f_L_law_555_220_s2 rc k N z151.1 sx v4 v5 v6 (gA z151.1 41 0 v6.toNatClampNeg) z151.2)) else none)))
def f_L_law_422_220_s2 (rc : Mem → Int32 → Int32 → Option (Mem × Int32)) (k : Mem → Int32 → Option (Mem × Int32)) (N : Nat) (w : Mem) (sx : Nat × (Nat → Int32)) (v4 : Int32) (v6 : Int32) (v7 : Int32) (v8 : Int32) (s0 : Int32) (s1 : Int32) : Option (Mem × Int32) :=
  (Option.bind (f_X8_term N w v6 (5 : Int32)) (fun z140 => (Option.bind (f_X8_term N z140.1 v6 (0 : Int32)) (fun z142 => (if inb v6 12 = true then (if z142.2 = (gA z142.1 40 0 v6.toNatClampNeg) then
(Option.bind (f_X8_term N z142.1 v6 (1 : Int32)) (fun z145 => (if z145.2 = (gA z145.1 45 0 v6.toNatClampNeg) then
(Option.bind (f_X8_term N z145.1 v6 (2 : Int32)) (fun z147 => (if z147.2 = v7 then
(Option.bind (f_X8_term N z147.1 v6 (3 : Int32)) (fun z149 => (if z149.2 = v8 then
(if z140.2 = (-2 : Int32) then
(f_L_law_525_220 rc k N z149.1 sx v4 (s1 + s0) v6 )
else
(if inb z140.2 12 = true then (if (gA z149.1 45 0 z140.2.toNatClampNeg) = (gA z149.1 45 0 v6.toNatClampNeg) then
(if z140.2 = v6 then
some (z149.1, (0 : Int32))
else
(f_L_law_525_220 rc k N z149.1 sx v4 (s1 + s0) v6 ))
else
some (z149.1, (0 : Int32))) else none))
else
some (z149.1, (0 : Int32)))))
else
some (z147.1, (0 : Int32)))))
else
some (z145.1, (0 : Int32)))))
else
some (z142.1, (0 : Int32))) else none)))))
def f_L_law_403_220 (rc : Mem → Int32 → Int32 → Option (Mem × Int32)) (k : Mem → Int32 → Option (Mem × Int32)) (N : Nat) (w : Mem) (sx : Nat × (Nat → Int32)) (v4 : Int32) (v5 : Int32) (v6 : Int32) (v7 : Int32) (v8 : Int32) : Option (Mem × Int32) :=
  (if inb v6 12 = true then (if (gA w 45 0 v6.toNatClampNeg) = v6 then
(f_L_law_422_220_s2 rc k N w sx v4 v6 v7 v8 (1 : Int32) v5)
else
(f_L_law_422_220_s2 rc k N w sx v4 v6 v7 v8 (0 : Int32) v5)) else none)
def f_L_law_359_238_s2 (rc : Mem → Int32 → Int32 → Int32 → Option (Mem × Int32)) (k : Mem → Int32 → Int32 → Option (Mem × Int32)) (N : Nat) (w : Mem) (sx : Nat × (Nat → Int32)) (v4 : Int32) (v5 : Int32) (v6 : Int32) (v7 : Int32) (v9 : Int32) (s0 : Int32) (s1 : Int32) : Option (Mem × Int32) :=
  (Option.bind (f_X8_equal N w v6 v9) (fun z181 => (if inb v6 12 = true then (if inb v9 12 = true then (if (gA z181.1 45 0 v6.toNatClampNeg) = (gA z181.1 45 0 v9.toNatClampNeg) then
(if z181.2 = (1 : Int32) then
(rc z181.1 v7 (s1 + s0) (v9 + (1 : Int32)))
else
some (z181.1, (0 : Int32)))
else
(if z181.2 = (0 : Int32) then
(rc z181.1 v7 (s1 + s0) (v9 + (1 : Int32)))
else
some (z181.1, (0 : Int32)))) else none) else none)))
def f_L_law_307_238 (rc : Mem → Int32 → Int32 → Int32 → Option (Mem × Int32)) (k : Mem → Int32 → Int32 → Option (Mem × Int32)) (N : Nat) (w : Mem) (sx : Nat × (Nat → Int32)) (v4 : Int32) (v5 : Int32) (v6 : Int32) (v7 : Int32) (v8 : Int32) (v9 : Int32) : Option (Mem × Int32) :=
  (if inb v9 12 = true then (if (gA w 40 0 v9.toNatClampNeg) = (4 : Int32) then
(if inb (gA w 42 0 v9.toNatClampNeg) 12 = true then (if inb v6 12 = true then (if (gA w 45 0 (gA w 42 0 v9.toNatClampNeg).toNatClampNeg) = (gA w 45 0 v6.toNatClampNeg) then
(if (1 : Int32) = (0 : Int32) then
(f_L_law_359_238_s2 rc k N w sx v4 v5 v6 v7 v9 (0 : Int32) v8)
else
(f_L_law_359_238_s2 rc k N w sx v4 v5 v6 v7 v9 (1 : Int32) v8))
else
(if (0 : Int32) = (0 : Int32) then
(f_L_law_359_238_s2 rc k N w sx v4 v5 v6 v7 v9 (0 : Int32) v8)
else
(f_L_law_359_238_s2 rc k N w sx v4 v5 v6 v7 v9 (1 : Int32) v8))) else none) else none)
else
(if (0 : Int32) = (0 : Int32) then
(f_L_law_359_238_s2 rc k N w sx v4 v5 v6 v7 v9 (0 : Int32) v8)
else
(f_L_law_359_238_s2 rc k N w sx v4 v5 v6 v7 v9 (1 : Int32) v8))) else none)
def f_L_law_271_238_s2 (rc : Mem → Int32 → Int32 → Int32 → Option (Mem × Int32)) (k : Mem → Int32 → Int32 → Option (Mem × Int32)) (N : Nat) (w : Mem) (sx : Nat × (Nat → Int32)) (v4 : Int32) (v5 : Int32) (v6 : Int32) (v8 : Int32) (v9 : Int32) (s0 : Int32) (s1 : Int32) : Option (Mem × Int32) :=
  (if inb v9 12 = true then (if (gA w 40 0 v9.toNatClampNeg) ≤ (2 : Int32) then
(f_L_law_307_238 rc k N w sx v4 v5 v6 (s1 + s0) v8 v9 )
else
(if inb (gA w 41 0 v9.toNatClampNeg) 12 = true then (if inb v6 12 = true then (if (gA w 45 0 (gA w 41 0 v9.toNatClampNeg).toNatClampNeg) = (gA w 45 0 v6.toNatClampNeg) then
(if (1 : Int32) = (0 : Int32) then
(f_L_law_359_238_s2 rc k N w sx v4 v5 v6 (s1 + s0) v9 (0 : Int32) v8)
else
(f_L_law_359_238_s2 rc k N w sx v4 v5 v6 (s1 + s0) v9 (1 : Int32) v8))
else
(f_L_law_307_238 rc k N w sx v4 v5 v6 (s1 + s0) v8 v9 )) else none) else none)) else none)
def lp_L_law_238 (k : Mem → Int32 → Int32 → Option (Mem × Int32)) (N : Nat) (sx : Nat × (Nat → Int32)) (v4 : Int32) (v5 : Int32) (v6 : Int32) : Nat → Mem → Int32 → Int32 → Int32 → Option (Mem × Int32)
  | 0, _, _, _, _ => none
  | n + 1, w, v7, v8, v9 => (if (gF w 9 5 0) ≤ v9 then
(k w v7 v8)
else
(if inb v6 12 = true then (if inb v9 12 = true then (if (gA w 45 0 v6.toNatClampNeg) = (gA w 45 0 v9.toNatClampNeg) then
(f_L_law_271_238_s2 (fun (w : Mem) (v7 : Int32) (v8 : Int32) (v9 : Int32) => lp_L_law_238 k N  sx v4 v5 v6 n w v7 v8 v9) k N w sx v4 v5 v6 v8 v9 (1 : Int32) v7)
else
(f_L_law_271_238_s2 (fun (w : Mem) (v7 : Int32) (v8 : Int32) (v9 : Int32) => lp_L_law_238 k N  sx v4 v5 v6 n w v7 v8 v9) k N w sx v4 v5 v6 v8 v9 (0 : Int32) v7)) else none) else none))
def lp_L_law_220 (k : Mem → Int32 → Option (Mem × Int32)) (N : Nat) (sx : Nat × (Nat → Int32)) (v4 : Int32) : Nat → Mem → Int32 → Int32 → Option (Mem × Int32)
  | 0, _, _, _ => none
  | n + 1, w, v5, v6 => (if (gF w 9 5 0) ≤ v6 then
(k w v5)
else
(lp_L_law_238 (fun (w_138 : Mem) (u7_138 : Int32) (u8_138 : Int32) => (f_L_law_403_220 (fun (w : Mem) (v5 : Int32) (v6 : Int32) => lp_L_law_220 k N  sx v4 n w v5 v6) k N w_138 sx v4 v5 v6 u7_138 u8_138 )) N  sx v4 v5 v6 N w (0 : Int32) (0 : Int32) (0 : Int32)))
def f_L_law_208 (N : Nat) (w : Mem) (sx : Nat × (Nat → Int32)) (v4 : Int32) : Option (Mem × Int32) :=
  (Option.bind (f_X10_closes N w v4) (fun z10 => (lp_L_law_220 (fun (w_12 : Mem) (u5_12 : Int32) => (f_L_law_611 N w_12 sx v4 u5_12 )) N  sx v4 N z10 (0 : Int32) (0 : Int32))))
def f_L_law_202_97 (rc : Mem → Int32 → Option (Mem × Int32)) (k : Mem → Option (Mem × Int32)) (N : Nat) (w : Mem) (sx : Nat × (Nat → Int32)) (v4 : Int32) (v5 : Int32) : Option (Mem × Int32) :=
  (rc w (v5 + (1 : Int32)))
def f_L_law_196_132 (rc : Mem → Int32 → Option (Mem × Int32)) (k : Mem → Option (Mem × Int32)) (N : Nat) (w : Mem) (sx : Nat × (Nat → Int32)) (v4 : Int32) (v5 : Int32) (v6 : Int32) (v7 : Int32) : Option (Mem × Int32) :=
  (rc w (v7 + (1 : Int32)))
def lp_L_law_144 (k : Mem → Option (Mem × Int32)) (N : Nat) (sx : Nat × (Nat → Int32)) (v4 : Int32) (v5 : Int32) (v6 : Int32) (v7 : Int32) : Nat → Mem → Int32 → Option (Mem × Int32)
  | 0, _, _ => none
  | n + 1, w, v8 => (if (gF w 9 5 0) ≤ v8 then
(k w)
else
(Option.bind (f_X8_proves N w v6 v7 v8) (fun z209 => (if inb v7 12 = true then (if inb v8 12 = true then (if (gA z209.1 45 0 v7.toNatClampNeg) = (gA z209.1 45 0 v8.toNatClampNeg) then
(if z209.2 = (1 : Int32) then
(lp_L_law_144 k N  sx v4 v5 v6 v7 n z209.1 (v8 + (1 : Int32)))
else
some (z209.1, (0 : Int32)))
else
(if z209.2 = (0 : Int32) then
(lp_L_law_144 k N  sx v4 v5 v6 v7 n z209.1 (v8 + (1 : Int32)))
else
some (z209.1, (0 : Int32)))) else none) else none))))
def lp_L_law_132 (k : Mem → Option (Mem × Int32)) (N : Nat) (sx : Nat × (Nat → Int32)) (v4 : Int32) (v5 : Int32) (v6 : Int32) : Nat → Mem → Int32 → Option (Mem × Int32)
  | 0, _, _ => none
  | n + 1, w, v7 => (if (gF w 9 5 0) ≤ v7 then
(k w)
else
(lp_L_law_144 (fun (w_208 : Mem) => (f_L_law_196_132 (fun (w : Mem) (v7 : Int32) => lp_L_law_132 k N  sx v4 v5 v6 n w v7) k N w_208 sx v4 v5 v6 v7 )) N  sx v4 v5 v6 v7 N w (0 : Int32)))
def lp_L_law_97 (k : Mem → Option (Mem × Int32)) (N : Nat) (sx : Nat × (Nat → Int32)) (v4 : Int32) : Nat → Mem → Int32 → Option (Mem × Int32)
  | 0, _, _ => none
  | n + 1, w, v5 => (if (6 : Int32) ≤ v5 then
(k w)
else
(if v5 = (0 : Int32) then
(Option.bind (f_X10_closes N w v4) (fun z218 => (lp_L_law_132 (fun (w_220 : Mem) => (f_L_law_202_97 (fun (w : Mem) (v5 : Int32) => lp_L_law_97 k N  sx v4 n w v5) k N w_220 sx v4 v5 )) N  sx v4 v5 v4 N z218 (0 : Int32))))
else
(Option.bind (f_X9_next N w sx (0 : Int32) v4) (fun z203 => (Option.bind (f_X10_closes N z203.1 z203.2) (fun z205 => (lp_L_law_132 (fun (w_207 : Mem) => (f_L_law_202_97 (fun (w : Mem) (v5 : Int32) => lp_L_law_97 k N  sx v4 n w v5) k N w_207 sx v4 v5 )) N  sx v4 v5 z203.2 N z205 (0 : Int32))))))))
def f_L_law (N : Nat) (w : Mem) (sx : Nat × (Nat → Int32)) (x0 : Int32) : Option (Mem × Int32) :=
  (if x0 = (gF w 9 5 0) then
(Option.bind (f_X8_about N w (0 : Int32)) (fun z1 => (if z1.2 = (5 : Int32) then
(Option.bind (f_X8_about N z1.1 (1 : Int32)) (fun z3 => (if z3.2 = (gF z3.1 9 5 0) then
(Option.bind (f_X8_about N z3.1 (2 : Int32)) (fun z5 => (if z5.2 = (gF z5.1 9 6 0) then
(Option.bind (f_X8_about N z5.1 (5 : Int32)) (fun z7 => (if z7.2 = (0 : Int32) then
(lp_L_law_97 (fun (w_9 : Mem) => (f_L_law_208 N w_9 sx (((1 : Int32) <<< ((gF z7.1 9 6 0) &&& 31)) - (1 : Int32)) )) N  sx (((1 : Int32) <<< ((gF z7.1 9 6 0) &&& 31)) - (1 : Int32)) N z7.1 (0 : Int32))
else
some (z7.1, (0 : Int32)))))
else
some (z5.1, (0 : Int32)))))
else
some (z3.1, (0 : Int32)))))
else
some (z1.1, (0 : Int32)))))
else
some (w, (0 : Int32)))
set_option maxRecDepth 100000 in
set_option maxHeartbeats 16000000 in
theorem law_tail {p : Program} {l : Launch} {e : Env} {s : State} {m : MethodId} {below : List Frame} {meth : Method} {c : Code} {b : Nat} {D : va_G} {ca : Nat → ClassId} {ad : Nat → Nat → Nat} {PL : List (Nat × Nat)} {Z : State → Prop} (hok : okc bM Z (A0s s) ad PL) (C : CX p s m #[.ref b] c cL_law RL 14 D ca Z) (hr : meth.sig.returnType = ret) (hlocks : meth.locks = false) (hts0 : ∀ w ∈ lw_tbl, w.before #[.ref b] s = true) (sx : Nat × (Nat → Int32)) (hsx : SCZ (A0s s) Z (ad 47 0) sx) (N : Nat) (w : Mem) (x0 : Int32) (w' : Mem) (hf : f_L_law N w sx x0 = some (w', 1)) : WPL p l e s m b below meth c D ca ad PL 34 [.int x0] [(0, .ref b), (1, .ref (ad 46 0)), (2, .ref (ad 9 0)), (3, .ref (ad 8 0))] w := by
  obtain ⟨hx, hb, hml, hown, hts, hK, hZ⟩ := id C
  let A : Nat → Prop := A0s s
  have P_f_L_law_1114 : ∀ (w : Mem) (v4 : Int32) (v5 : Int32) (v7 : Int32) (v8 : Int32) (v9 : Int32) (v10 : Int32), f_L_law_1114 N w sx v4 v5 v7 v8 v9 v10  = some (w', 1) → WPL p l e s m b below meth c D ca ad PL 1114 [] [(2, .ref (ad 9 0)), (3, .ref (ad 8 0)), (4, .int v4), (5, .int v5), (7, .int v7), (8, .int v8), (9, .int v9), (10, .int v10)] w := by
    intro w v4 v5 v7 v8 v9 v10 hf _ _ ls hP hS hl
    unfold f_L_law_1114 at hf
    refine lv_aload_n hx hb dL_law_1114 rfl (lv_at hl 1 rfl) ?_
    refine lv_iconst (v := (4 : Int32)) hx hb dL_law_1115 (by decide) ?_
    obtain ⟨z27, q28, hf⟩ := bsp hf
    refine kc_V (ci := 8) (i := 0) (As := [.int (4 : Int32)]) (rest := []) hok.2.2.1 C hP hS hl.1 (hok.2.1 8 0 (Nat.le_of_ble_eq_true rfl)) rfl rfl cw_X8_about ml_L_49 (c_X8_about l D ca ad PL Z A (okM_X hok) N w (4 : Int32) z27.1 z27.2 q28) rfl ⟨rfl, rfl⟩ ⟨Nat.le_of_ble_eq_true rfl, Nat.le_of_ble_eq_true rfl⟩ ⟨Nat.le_refl _, Nat.le_refl _⟩ (Nat.le_of_ble_eq_true rfl) rfl dL_law_1116 (fun H locs hP hS => ?_)
    refine lv_iload hx hb dL_law_1119 (lv_at hl 3 rfl) ?_
    refine lv_icmp_ne (tgt := 1180) hx hb dL_law_1121 (by decide) (fun c60 => ?_) (fun c60 => ?_)
    · have hf := ifn hf c60
      refine lv_iconst (v := (0 : Int32)) hx hb dL_law_1180 (by decide) ?_
      exact law_fin hx hb hr hlocks hS (congrArg Prod.snd (Option.some.inj hf)) dL_law_1181
    · have hf := ifp hf c60
      refine lv_aload_n hx hb dL_law_1124 rfl (lv_at hl 1 rfl) ?_
      refine lv_iload hx hb dL_law_1125 (lv_at hl 4 rfl) ?_
      refine lv_iload hx hb dL_law_1127 (lv_at hl 5 rfl) ?_
      obtain ⟨z29, q30, hf⟩ := bsp hf
      refine kc_V (ci := 8) (i := 0) (As := [.int v7, .int v8]) (rest := []) hok.2.2.1 C hP hS hl.1 (hok.2.1 8 0 (Nat.le_of_ble_eq_true rfl)) rfl rfl cw_X8_join ml_L_117 (c_X8_join l D ca ad PL Z A (okM_X hok) N z27.1 v7 v8 z29.1 z29.2 q30) rfl ⟨rfl, rfl⟩ ⟨Nat.le_of_ble_eq_true rfl, Nat.le_of_ble_eq_true rfl⟩ ⟨Nat.le_refl _, Nat.le_refl _⟩ (Nat.le_of_ble_eq_true rfl) rfl dL_law_1129 (fun H locs hP hS => ?_)
      refine lv_iload hx hb dL_law_1132 (lv_at hl 6 rfl) ?_
      refine lv_icmp_ne (tgt := 1180) hx hb dL_law_1134 (by decide) (fun c59 => ?_) (fun c59 => ?_)
      · have hf := ifn hf c59
        refine lv_iconst (v := (0 : Int32)) hx hb dL_law_1180 (by decide) ?_
        exact law_fin hx hb hr hlocks hS (congrArg Prod.snd (Option.some.inj hf)) dL_law_1181
      · have hf := ifp hf c59
        refine lv_iload hx hb dL_law_1137 (lv_at hl 3 rfl) ?_
        refine lv_iload hx hb dL_law_1139 (lv_at hl 6 rfl) ?_
        refine lv_isub hx hb dL_law_1141 ?_
        refine lv_iload hx hb dL_law_1142 (lv_at hl 7 rfl) ?_
        refine lv_icmp_ne (tgt := 1180) hx hb dL_law_1144 (by decide) (fun c58 => ?_) (fun c58 => ?_)
        · have hf := ifn hf c58
          refine lv_iconst (v := (0 : Int32)) hx hb dL_law_1180 (by decide) ?_
          exact law_fin hx hb hr hlocks hS (congrArg Prod.snd (Option.some.inj hf)) dL_law_1181
        · have hf := ifp hf c58
          refine lv_aload_n hx hb dL_law_1147 rfl (lv_at hl 1 rfl) ?_
          refine lv_iconst (v := (5 : Int32)) hx hb dL_law_1148 (by decide) ?_
          obtain ⟨z31, q32, hf⟩ := bsp hf
          refine kc_V (ci := 8) (i := 0) (As := [.int (5 : Int32)]) (rest := []) hok.2.2.1 C hP hS hl.1 (hok.2.1 8 0 (Nat.le_of_ble_eq_true rfl)) rfl rfl cw_X8_about ml_L_49 (c_X8_about l D ca ad PL Z A (okM_X hok) N z29.1 (5 : Int32) z31.1 z31.2 q32) rfl ⟨rfl, rfl⟩ ⟨Nat.le_of_ble_eq_true rfl, Nat.le_of_ble_eq_true rfl⟩ ⟨Nat.le_refl _, Nat.le_refl _⟩ (Nat.le_of_ble_eq_true rfl) rfl dL_law_1149 (fun H locs hP hS => ?_)
          refine lv_iconst (v := (1 : Int32)) hx hb dL_law_1152 (by decide) ?_
          refine lv_icmp_ne (tgt := 1180) hx hb dL_law_1153 (by decide) (fun c57 => ?_) (fun c57 => ?_)
          · have hf := ifn hf c57
            refine lv_iconst (v := (0 : Int32)) hx hb dL_law_1180 (by decide) ?_
            exact law_fin hx hb hr hlocks hS (congrArg Prod.snd (Option.some.inj hf)) dL_law_1181
          · have hf := ifp hf c57
            refine lv_aload_n hx hb dL_law_1156 rfl (lv_at hl 1 rfl) ?_
            obtain ⟨z33, q34, hf⟩ := bsp hf
            refine kc_V (ci := 8) (i := 0) (As := []) (rest := []) hok.2.2.1 C hP hS hl.1 (hok.2.1 8 0 (Nat.le_of_ble_eq_true rfl)) rfl rfl cw_X8_undo ml_L_120 (c_X8_undo l D ca ad PL Z A (okM_X hok) N z31.1  z33.1 z33.2 q34) rfl ⟨rfl, rfl⟩ ⟨Nat.le_of_ble_eq_true rfl, Nat.le_of_ble_eq_true rfl⟩ ⟨Nat.le_refl _, Nat.le_refl _⟩ (Nat.le_of_ble_eq_true rfl) rfl dL_law_1157 (fun H locs hP hS => ?_)
            refine lv_if_eq (tgt := 1180) hx hb dL_law_1160 (by decide) (fun c56 => ?_) (fun c56 => ?_)
            · have hf := ifp hf c56
              refine lv_iconst (v := (0 : Int32)) hx hb dL_law_1180 (by decide) ?_
              exact law_fin hx hb hr hlocks hS (congrArg Prod.snd (Option.some.inj hf)) dL_law_1181
            · have hf := ifn hf c56
              refine lv_aload_n hx hb dL_law_1163 rfl (lv_at hl 1 rfl) ?_
              refine lv_iconst (v := (4 : Int32)) hx hb dL_law_1164 (by decide) ?_
              obtain ⟨z35, q36, hf⟩ := bsp hf
              refine kc_V (ci := 8) (i := 0) (As := [.int (4 : Int32)]) (rest := []) hok.2.2.1 C hP hS hl.1 (hok.2.1 8 0 (Nat.le_of_ble_eq_true rfl)) rfl rfl cw_X8_about ml_L_49 (c_X8_about l D ca ad PL Z A (okM_X hok) N z33.1 (4 : Int32) z35.1 z35.2 q36) rfl ⟨rfl, rfl⟩ ⟨Nat.le_of_ble_eq_true rfl, Nat.le_of_ble_eq_true rfl⟩ ⟨Nat.le_refl _, Nat.le_refl _⟩ (Nat.le_of_ble_eq_true rfl) rfl dL_law_1165 (fun H locs hP hS => ?_)
              refine lv_iload hx hb dL_law_1168 (lv_at hl 3 rfl) ?_
              refine lv_icmp_ne (tgt := 1180) hx hb dL_law_1170 (by decide) (fun c55 => ?_) (fun c55 => ?_)
              · have hf := ifn hf c55
                refine lv_iconst (v := (0 : Int32)) hx hb dL_law_1180 (by decide) ?_
                exact law_fin hx hb hr hlocks hS (congrArg Prod.snd (Option.some.inj hf)) dL_law_1181
              · have hf := ifp hf c55
                refine lv_aload_n hx hb dL_law_1173 rfl (lv_at hl 1 rfl) ?_
                obtain ⟨z37, q38, hf⟩ := bsp hf
                refine kc_V (ci := 8) (i := 0) (As := []) (rest := []) hok.2.2.1 C hP hS hl.1 (hok.2.1 8 0 (Nat.le_of_ble_eq_true rfl)) rfl rfl cw_X8_undo ml_L_120 (c_X8_undo l D ca ad PL Z A (okM_X hok) N z35.1  z37.1 z37.2 q38) rfl ⟨rfl, rfl⟩ ⟨Nat.le_of_ble_eq_true rfl, Nat.le_of_ble_eq_true rfl⟩ ⟨Nat.le_refl _, Nat.le_refl _⟩ (Nat.le_of_ble_eq_true rfl) rfl dL_law_1174 (fun H locs hP hS => ?_)
                refine lv_if_eq (tgt := 1182) hx hb dL_law_1177 (by decide) (fun c54 => ?_) (fun c54 => ?_)
                · have hf := ifp hf c54
                  refine lv_aload_n hx hb dL_law_1182 rfl (lv_at hl 1 rfl) ?_
                  refine lv_bipush (v := (6 : Int32)) hx hb dL_law_1183 (by decide) ?_
                  obtain ⟨z39, q40, hf⟩ := bsp hf
                  refine kc_V (ci := 8) (i := 0) (As := [.int (6 : Int32)]) (rest := []) hok.2.2.1 C hP hS hl.1 (hok.2.1 8 0 (Nat.le_of_ble_eq_true rfl)) rfl rfl cw_X8_about ml_L_49 (c_X8_about l D ca ad PL Z A (okM_X hok) N z37.1 (6 : Int32) z39.1 z39.2 q40) rfl ⟨rfl, rfl⟩ ⟨Nat.le_of_ble_eq_true rfl, Nat.le_of_ble_eq_true rfl⟩ ⟨Nat.le_refl _, Nat.le_refl _⟩ (Nat.le_of_ble_eq_true rfl) rfl dL_law_1185 (fun H locs hP hS => ?_)
                  refine lv_aload_n hx hb dL_law_1188 rfl (lv_at hl 0 rfl) ?_
                  refine gn_10_5 (i := 0) C hP (hok.2.1 9 0 (Nat.le_of_ble_eq_true rfl)) (hts0 _ nf_45) dL_law_1189 ?_
                  refine lv_iload hx hb dL_law_1192 (lv_at hl 3 rfl) ?_
                  refine lv_isub hx hb dL_law_1194 ?_
                  refine lv_icmp_ne (tgt := 1245) hx hb dL_law_1195 (by decide) (fun c53 => ?_) (fun c53 => ?_)
                  · have hf := ifn hf c53
                    refine lv_iconst (v := (0 : Int32)) hx hb dL_law_1245 (by decide) ?_
                    exact law_fin hx hb hr hlocks hS (congrArg Prod.snd (Option.some.inj hf)) dL_law_1246
                  · have hf := ifp hf c53
                    refine lv_aload_n hx hb dL_law_1198 rfl (lv_at hl 1 rfl) ?_
                    refine lv_aload_n hx hb dL_law_1199 rfl (lv_at hl 0 rfl) ?_
                    refine gn_10_5 (i := 0) C hP (hok.2.1 9 0 (Nat.le_of_ble_eq_true rfl)) (hts0 _ nf_45) dL_law_1200 ?_
                    refine lv_iconst (v := (0 : Int32)) hx hb dL_law_1203 (by decide) ?_
                    obtain ⟨z41, q42, hf⟩ := bsp hf
                    refine kc_V (ci := 8) (i := 0) (As := [.int (gF z39.1 9 5 0), .int (0 : Int32)]) (rest := []) hok.2.2.1 C hP hS hl.1 (hok.2.1 8 0 (Nat.le_of_ble_eq_true rfl)) rfl rfl cw_X8_term ml_L_83 (c_X8_term l D ca ad PL Z A (okM_X hok) N z39.1 (gF z39.1 9 5 0) (0 : Int32) z41.1 z41.2 q42) rfl ⟨rfl, rfl⟩ ⟨Nat.le_of_ble_eq_true rfl, Nat.le_of_ble_eq_true rfl⟩ ⟨Nat.le_refl _, Nat.le_refl _⟩ (Nat.le_of_ble_eq_true rfl) rfl dL_law_1204 (fun H locs hP hS => ?_)
                    refine lv_iconst (v := (-1 : Int32)) hx hb dL_law_1207 (by decide) ?_
                    refine lv_icmp_ne (tgt := 1245) hx hb dL_law_1208 (by decide) (fun c52 => ?_) (fun c52 => ?_)
                    · have hf := ifn hf c52
                      refine lv_iconst (v := (0 : Int32)) hx hb dL_law_1245 (by decide) ?_
                      exact law_fin hx hb hr hlocks hS (congrArg Prod.snd (Option.some.inj hf)) dL_law_1246
                    · have hf := ifp hf c52
                      refine lv_aload_n hx hb dL_law_1211 rfl (lv_at hl 1 rfl) ?_
                      obtain ⟨z43, q44, hf⟩ := bsp hf
                      refine kc_V (ci := 8) (i := 0) (As := []) (rest := []) hok.2.2.1 C hP hS hl.1 (hok.2.1 8 0 (Nat.le_of_ble_eq_true rfl)) rfl rfl cw_X8_trouble ml_L_124 (c_X8_trouble l D ca ad PL Z A (okM_X hok) N z41.1  z43 q44) rfl ⟨rfl, rfl⟩ ⟨Nat.le_of_ble_eq_true rfl, Nat.le_of_ble_eq_true rfl⟩ ⟨Nat.le_refl _, Nat.le_refl _⟩ (Nat.le_of_ble_eq_true rfl) rfl dL_law_1212 (fun H locs hP hS => ?_)
                      refine lv_iconst (v := (1 : Int32)) hx hb dL_law_1215 (by decide) ?_
                      refine lv_icmp_ne (tgt := 1245) hx hb dL_law_1216 (by decide) (fun c51 => ?_) (fun c51 => ?_)
                      · have hf := ifn hf c51
                        refine lv_iconst (v := (0 : Int32)) hx hb dL_law_1245 (by decide) ?_
                        exact law_fin hx hb hr hlocks hS (congrArg Prod.snd (Option.some.inj hf)) dL_law_1246
                      · have hf := ifp hf c51
                        refine lv_aload_n hx hb dL_law_1219 rfl (lv_at hl 1 rfl) ?_
                        refine lv_iload hx hb dL_law_1220 (lv_at hl 2 rfl) ?_
                        refine lv_iconst (v := (1 : Int32)) hx hb dL_law_1222 (by decide) ?_
                        refine lv_iadd hx hb dL_law_1223 ?_
                        refine lv_iconst (v := (0 : Int32)) hx hb dL_law_1224 (by decide) ?_
                        refine lv_iconst (v := (0 : Int32)) hx hb dL_law_1225 (by decide) ?_
                        obtain ⟨z45, q46, hf⟩ := bsp hf
                        refine kc_V (ci := 8) (i := 0) (As := [.int (v4 + (1 : Int32)), .int (0 : Int32), .int (0 : Int32)]) (rest := []) hok.2.2.1 C hP hS hl.1 (hok.2.1 8 0 (Nat.le_of_ble_eq_true rfl)) rfl rfl cw_X8_proves ml_L_63 (c_X8_proves l D ca ad PL Z A (okM_X hok) N z41.1 (v4 + (1 : Int32)) (0 : Int32) (0 : Int32) z45.1 z45.2 q46) rfl ⟨rfl, rfl⟩ ⟨Nat.le_of_ble_eq_true rfl, Nat.le_of_ble_eq_true rfl⟩ ⟨Nat.le_refl _, Nat.le_refl _⟩ (Nat.le_of_ble_eq_true rfl) rfl dL_law_1226 (fun H locs hP hS => ?_)
                        refine lv_iconst (v := (-1 : Int32)) hx hb dL_law_1229 (by decide) ?_
                        refine lv_icmp_ne (tgt := 1245) hx hb dL_law_1230 (by decide) (fun c50 => ?_) (fun c50 => ?_)
                        · have hf := ifn hf c50
                          refine lv_iconst (v := (0 : Int32)) hx hb dL_law_1245 (by decide) ?_
                          exact law_fin hx hb hr hlocks hS (congrArg Prod.snd (Option.some.inj hf)) dL_law_1246
                        · have hf := ifp hf c50
                          refine lv_aload_n hx hb dL_law_1233 rfl (lv_at hl 1 rfl) ?_
                          obtain ⟨z47, q48, hf⟩ := bsp hf
                          refine kc_V (ci := 8) (i := 0) (As := []) (rest := []) hok.2.2.1 C hP hS hl.1 (hok.2.1 8 0 (Nat.le_of_ble_eq_true rfl)) rfl rfl cw_X8_trouble ml_L_124 (c_X8_trouble l D ca ad PL Z A (okM_X hok) N z45.1  z47 q48) rfl ⟨rfl, rfl⟩ ⟨Nat.le_of_ble_eq_true rfl, Nat.le_of_ble_eq_true rfl⟩ ⟨Nat.le_refl _, Nat.le_refl _⟩ (Nat.le_of_ble_eq_true rfl) rfl dL_law_1234 (fun H locs hP hS => ?_)
                          refine lv_iconst (v := (2 : Int32)) hx hb dL_law_1237 (by decide) ?_
                          refine lv_icmp_ne (tgt := 1245) hx hb dL_law_1238 (by decide) (fun c49 => ?_) (fun c49 => ?_)
                          · have hf := ifn hf c49
                            refine lv_iconst (v := (0 : Int32)) hx hb dL_law_1245 (by decide) ?_
                            exact law_fin hx hb hr hlocks hS (congrArg Prod.snd (Option.some.inj hf)) dL_law_1246
                          · have hf := ifp hf c49
                            refine lv_iconst (v := (1 : Int32)) hx hb dL_law_1241 (by decide) ?_
                            refine lv_goto (tgt := 1246) hx hb dL_law_1242 (by decide) ?_
                            exact law_fin hx hb hr hlocks hS (congrArg Prod.snd (Option.some.inj hf)) dL_law_1246
                · have hf := ifn hf c54
                  refine lv_iconst (v := (0 : Int32)) hx hb dL_law_1180 (by decide) ?_
                  exact law_fin hx hb hr hlocks hS (congrArg Prod.snd (Option.some.inj hf)) dL_law_1181
  have P_f_L_law_1058 : ∀ (w : Mem) (v4 : Int32) (v5 : Int32) (v7 : Int32) (v8 : Int32) (v9 : Int32) (v10 : Int32) (v11 : Int32) (v12 : Int32), f_L_law_1058 N w sx v4 v5 v7 v8 v9 v10 v11 v12  = some (w', 1) → WPL p l e s m b below meth c D ca ad PL 1058 [] [(2, .ref (ad 9 0)), (3, .ref (ad 8 0)), (4, .int v4), (5, .int v5), (7, .int v7), (8, .int v8), (9, .int v9), (10, .int v10), (11, .int v11), (12, .int v12)] w := by
    intro w v4 v5 v7 v8 v9 v10 v11 v12 hf _ _ ls hP hS hl
    unfold f_L_law_1058 at hf
    refine lv_aload_n hx hb dL_law_1058 rfl (lv_at hl 1 rfl) ?_
    refine lv_iload hx hb dL_law_1059 (lv_at hl 8 rfl) ?_
    refine lv_iconst (v := (0 : Int32)) hx hb dL_law_1061 (by decide) ?_
    obtain ⟨z66, q67, hf⟩ := bsp hf
    refine kc_V (ci := 8) (i := 0) (As := [.int v11, .int (0 : Int32)]) (rest := []) hok.2.2.1 C hP hS hl.1 (hok.2.1 8 0 (Nat.le_of_ble_eq_true rfl)) rfl rfl cw_X8_without ml_L_108 (c_X8_without l D ca ad PL Z A (okM_X hok) N w v11 (0 : Int32) z66.1 z66.2 q67) rfl ⟨rfl, rfl⟩ ⟨Nat.le_of_ble_eq_true rfl, Nat.le_of_ble_eq_true rfl⟩ ⟨Nat.le_refl _, Nat.le_refl _⟩ (Nat.le_of_ble_eq_true rfl) rfl dL_law_1062 (fun H locs hP hS => ?_)
    refine lv_iload hx hb dL_law_1065 (lv_at hl 9 rfl) ?_
    refine lv_icmp_ne (tgt := 1112) hx hb dL_law_1067 (by decide) (fun c76 => ?_) (fun c76 => ?_)
    · have hf := ifn hf c76
      refine lv_iconst (v := (0 : Int32)) hx hb dL_law_1112 (by decide) ?_
      exact law_fin hx hb hr hlocks hS (congrArg Prod.snd (Option.some.inj hf)) dL_law_1113
    · have hf := ifp hf c76
      refine lv_aload_n hx hb dL_law_1070 rfl (lv_at hl 1 rfl) ?_
      refine lv_iload hx hb dL_law_1071 (lv_at hl 8 rfl) ?_
      refine lv_iconst (v := (2 : Int32)) hx hb dL_law_1073 (by decide) ?_
      obtain ⟨z68, q69, hf⟩ := bsp hf
      refine kc_V (ci := 8) (i := 0) (As := [.int v11, .int (2 : Int32)]) (rest := []) hok.2.2.1 C hP hS hl.1 (hok.2.1 8 0 (Nat.le_of_ble_eq_true rfl)) rfl rfl cw_X8_sameOf ml_L_98 (c_X8_sameOf l D ca ad PL Z A (okM_X hok) N z66.1 v11 (2 : Int32) z68.1 z68.2 q69) rfl ⟨rfl, rfl⟩ ⟨Nat.le_of_ble_eq_true rfl, Nat.le_of_ble_eq_true rfl⟩ ⟨Nat.le_refl _, Nat.le_refl _⟩ (Nat.le_of_ble_eq_true rfl) rfl dL_law_1074 (fun H locs hP hS => ?_)
      refine lv_aload_n hx hb dL_law_1077 rfl (lv_at hl 0 rfl) ?_
      refine gn_10_7 (i := 0) C hP (hok.2.1 9 0 (Nat.le_of_ble_eq_true rfl)) (hts0 _ nf_67) dL_law_1078 ?_
      refine lv_aload_n hx hb dL_law_1081 rfl (lv_at hl 0 rfl) ?_
      refine gn_10_3 (i := 0) C hP (hok.2.1 9 0 (Nat.le_of_ble_eq_true rfl)) (hts0 _ nf_111) dL_law_1082 ?_
      refine lv_iload hx hb dL_law_1085 (lv_at hl 8 rfl) ?_
      obtain ⟨b70, hf⟩ := gsp hf
      refine ra_ild (k := 43) (i := 0) (n := 12) (f := (gA z68.1 43 0)) C hP (hok.2.1 43 0 (Nat.le_of_ble_eq_true rfl)) rfl b70 dL_law_1087 ?_
      obtain ⟨b71, hf⟩ := gsp hf
      refine ra_ild (k := 45) (i := 0) (n := 12) (f := (gA z68.1 45 0)) C hP (hok.2.1 45 0 (Nat.le_of_ble_eq_true rfl)) rfl b71 dL_law_1088 ?_
      refine lv_aload_n hx hb dL_law_1089 rfl (lv_at hl 0 rfl) ?_
      refine gn_10_7 (i := 0) C hP (hok.2.1 9 0 (Nat.le_of_ble_eq_true rfl)) (hts0 _ nf_67) dL_law_1090 ?_
      refine lv_aload_n hx hb dL_law_1093 rfl (lv_at hl 0 rfl) ?_
      refine gn_10_4 (i := 0) C hP (hok.2.1 9 0 (Nat.le_of_ble_eq_true rfl)) (hts0 _ nf_114) dL_law_1094 ?_
      refine lv_iload hx hb dL_law_1097 (lv_at hl 8 rfl) ?_
      refine ra_ild (k := 44) (i := 0) (n := 12) (f := (gA z68.1 44 0)) C hP (hok.2.1 44 0 (Nat.le_of_ble_eq_true rfl)) rfl b70 dL_law_1099 ?_
      obtain ⟨b72, hf⟩ := gsp hf
      refine ra_ild (k := 45) (i := 0) (n := 12) (f := (gA z68.1 45 0)) C hP (hok.2.1 45 0 (Nat.le_of_ble_eq_true rfl)) rfl b72 dL_law_1100 ?_
      refine lv_icmp_ne (tgt := 1108) hx hb dL_law_1101 (by decide) (fun c75 => ?_) (fun c75 => ?_)
      · have hf := ifn hf c75
        refine lv_iconst (v := (0 : Int32)) hx hb dL_law_1108 (by decide) ?_
        refine lv_icmp_eq (tgt := 1114) hx hb dL_law_1109 (by decide) (fun c73 => ?_) (fun c73 => ?_)
        · have hf := ifp hf c73
          exact P_f_L_law_1114 z68.1 v4 v5 v7 v8 v9 v10 hf _ _ ls hP hS (lv_sub hl [0, 1, 2, 3, 4, 5, 6, 7] rfl)
        · have hf := ifn hf c73
          refine lv_iconst (v := (0 : Int32)) hx hb dL_law_1112 (by decide) ?_
          exact law_fin hx hb hr hlocks hS (congrArg Prod.snd (Option.some.inj hf)) dL_law_1113
      · have hf := ifp hf c75
        refine lv_iconst (v := (1 : Int32)) hx hb dL_law_1104 (by decide) ?_
        refine lv_goto (tgt := 1109) hx hb dL_law_1105 (by decide) ?_
        refine lv_icmp_eq (tgt := 1114) hx hb dL_law_1109 (by decide) (fun c74 => ?_) (fun c74 => ?_)
        · have hf := ifp hf c74
          exact P_f_L_law_1114 z68.1 v4 v5 v7 v8 v9 v10 hf _ _ ls hP hS (lv_sub hl [0, 1, 2, 3, 4, 5, 6, 7] rfl)
        · have hf := ifn hf c74
          refine lv_iconst (v := (0 : Int32)) hx hb dL_law_1112 (by decide) ?_
          exact law_fin hx hb hr hlocks hS (congrArg Prod.snd (Option.some.inj hf)) dL_law_1113
  have L_lp_L_law_1021 : ∀ (w : Mem) (v4 : Int32) (v5 : Int32) (v7 : Int32) (v8 : Int32) (v9 : Int32) (v10 : Int32) (v11 : Int32) (k : Int32 → Option (Mem × Int32)) (hk : ∀ (v12 : Int32), k v12 = some (w', 1) → WPL p l e s m b below meth c D ca ad PL 1058 [] [(2, .ref (ad 9 0)), (3, .ref (ad 8 0)), (4, .int v4), (5, .int v5), (7, .int v7), (8, .int v8), (9, .int v9), (10, .int v10), (11, .int v11), (12, .int v12)] w) (n : Nat) (v12 : Int32) (v13 : Int32), lp_L_law_1021 k N w sx v4 v5 v7 v8 v9 v10 v11 n v12 v13 = some (w', 1) → WPL p l e s m b below meth c D ca ad PL 1021 [] [(2, .ref (ad 9 0)), (3, .ref (ad 8 0)), (4, .int v4), (5, .int v5), (7, .int v7), (8, .int v8), (9, .int v9), (10, .int v10), (11, .int v11), (12, .int v12), (13, .int v13)] w := by
    intro w v4 v5 v7 v8 v9 v10 v11 k hk n
    induction n with
    | zero => intro v12 v13 hf; rw [lp_L_law_1021] at hf; cases hf
    | succ n ih =>
      intro v12 v13 hf _ _ ls hP hS hl
      rw [lp_L_law_1021] at hf
      refine lv_iload hx hb dL_law_1021 (lv_at hl 10 rfl) ?_
      refine lv_aload_n hx hb dL_law_1023 rfl (lv_at hl 0 rfl) ?_
      refine gn_10_5 (i := 0) C hP (hok.2.1 9 0 (Nat.le_of_ble_eq_true rfl)) (hts0 _ nf_45) dL_law_1024 ?_
      refine lv_icmp_ge (tgt := 1058) hx hb dL_law_1027 (by decide) (fun c79 => ?_) (fun c79 => ?_)
      · have hf := ifp hf c79
        exact hk v12 hf _ _ ls hP hS (lv_sub hl [0, 1, 2, 3, 4, 5, 6, 7, 8, 9] rfl)
      · have hf := ifn hf c79
        refine lv_iload hx hb dL_law_1030 (lv_at hl 9 rfl) ?_
        refine lv_aload_n hx hb dL_law_1032 rfl (lv_at hl 0 rfl) ?_
        refine gn_10_7 (i := 0) C hP (hok.2.1 9 0 (Nat.le_of_ble_eq_true rfl)) (hts0 _ nf_67) dL_law_1033 ?_
        refine lv_iload hx hb dL_law_1036 (lv_at hl 10 rfl) ?_
        obtain ⟨b77, hf⟩ := gsp hf
        refine ra_ild (k := 45) (i := 0) (n := 12) (f := (gA w 45 0)) C hP (hok.2.1 45 0 (Nat.le_of_ble_eq_true rfl)) rfl b77 dL_law_1038 ?_
        refine lv_iload hx hb dL_law_1039 (lv_at hl 10 rfl) ?_
        refine lv_icmp_ne (tgt := 1048) hx hb dL_law_1041 (by decide) (fun c78 => ?_) (fun c78 => ?_)
        · have hf := ifn hf c78
          refine lv_iconst (v := (0 : Int32)) hx hb dL_law_1048 (by decide) ?_
          refine lv_iadd hx hb dL_law_1049 ?_
          refine lv_istore (lv' := [(12, .int (v12 + (0 : Int32))), (2, .ref (ad 9 0)), (3, .ref (ad 8 0)), (4, .int v4), (5, .int v5), (7, .int v7), (8, .int v8), (9, .int v9), (10, .int v10), (11, .int v11), (13, .int v13)]) hx hb dL_law_1050 hl (by decide) rfl (fun ls hl => ?_)
          refine lv_iinc (v := (v13 + (1 : Int32))) (lv' := [(13, .int (v13 + (1 : Int32))), (12, .int (v12 + (0 : Int32))), (2, .ref (ad 9 0)), (3, .ref (ad 8 0)), (4, .int v4), (5, .int v5), (7, .int v7), (8, .int v8), (9, .int v9), (10, .int v10), (11, .int v11)]) hx hb dL_law_1052 hl (k := 10) rfl rfl (by decide) rfl (fun ls hl => ?_)
          refine lv_goto (tgt := 1021) hx hb dL_law_1055 (by decide) ?_
          exact ih (v12 + (0 : Int32)) (v13 + (1 : Int32)) hf _ _ ls hP hS (lv_sub hl [2, 3, 4, 5, 6, 7, 8, 9, 10, 1, 0] rfl)
        · have hf := ifp hf c78
          refine lv_iconst (v := (1 : Int32)) hx hb dL_law_1044 (by decide) ?_
          refine lv_goto (tgt := 1049) hx hb dL_law_1045 (by decide) ?_
          refine lv_iadd hx hb dL_law_1049 ?_
          refine lv_istore (lv' := [(12, .int (v12 + (1 : Int32))), (2, .ref (ad 9 0)), (3, .ref (ad 8 0)), (4, .int v4), (5, .int v5), (7, .int v7), (8, .int v8), (9, .int v9), (10, .int v10), (11, .int v11), (13, .int v13)]) hx hb dL_law_1050 hl (by decide) rfl (fun ls hl => ?_)
          refine lv_iinc (v := (v13 + (1 : Int32))) (lv' := [(13, .int (v13 + (1 : Int32))), (12, .int (v12 + (1 : Int32))), (2, .ref (ad 9 0)), (3, .ref (ad 8 0)), (4, .int v4), (5, .int v5), (7, .int v7), (8, .int v8), (9, .int v9), (10, .int v10), (11, .int v11)]) hx hb dL_law_1052 hl (k := 10) rfl rfl (by decide) rfl (fun ls hl => ?_)
          refine lv_goto (tgt := 1021) hx hb dL_law_1055 (by decide) ?_
          exact ih (v12 + (1 : Int32)) (v13 + (1 : Int32)) hf _ _ ls hP hS (lv_sub hl [2, 3, 4, 5, 6, 7, 8, 9, 10, 1, 0] rfl)
  have P_f_L_law_934 : ∀ (w : Mem) (v4 : Int32) (v5 : Int32), f_L_law_934 N w sx v4 v5  = some (w', 1) → WPL p l e s m b below meth c D ca ad PL 934 [] [(1, .ref (ad 46 0)), (2, .ref (ad 9 0)), (3, .ref (ad 8 0)), (4, .int v4), (5, .int v5)] w := by
    intro w v4 v5 hf _ _ ls hP hS hl
    unfold f_L_law_934 at hf
    refine lv_aload_n hx hb dL_law_934 rfl (lv_at hl 0 rfl) ?_
    refine lv_iconst (v := (0 : Int32)) hx hb dL_law_935 (by decide) ?_
    refine lv_aload_n hx hb dL_law_936 rfl (lv_at hl 1 rfl) ?_
    refine gn_10_5 (i := 0) C hP (hok.2.1 9 0 (Nat.le_of_ble_eq_true rfl)) (hts0 _ nf_45) dL_law_937 ?_
    refine lv_iconst (v := (1 : Int32)) hx hb dL_law_940 (by decide) ?_
    refine lv_isub hx hb dL_law_941 ?_
    obtain ⟨z19, q20, hf⟩ := bsp hf
    refine kc_V (ci := 46) (i := 0) (As := [.int (0 : Int32), .int ((gF w 9 5 0) - (1 : Int32))]) (rest := []) hok.2.2.1 C hP hS hl.1 (hok.2.1 46 0 (Nat.le_of_ble_eq_true rfl)) rfl rfl cw_X9_next ml_L_55 (c_X9_next l D ca ad PL Z A hok N w sx hsx (0 : Int32) ((gF w 9 5 0) - (1 : Int32)) z19.1 z19.2 q20) rfl ⟨rfl, rfl⟩ ⟨Nat.le_of_ble_eq_true rfl, Nat.le_of_ble_eq_true rfl⟩ ⟨Nat.le_refl _, Nat.le_refl _⟩ (Nat.le_of_ble_eq_true rfl) rfl dL_law_942 (fun H locs hP hS => ?_)
    refine lv_istore (lv' := [(7, .int z19.2), (1, .ref (ad 46 0)), (2, .ref (ad 9 0)), (3, .ref (ad 8 0)), (4, .int v4), (5, .int v5)]) hx hb dL_law_945 hl (by decide) rfl (fun ls hl => ?_)
    refine lv_aload_n hx hb dL_law_947 rfl (lv_at hl 1 rfl) ?_
    refine lv_iconst (v := (0 : Int32)) hx hb dL_law_948 (by decide) ?_
    refine lv_aload_n hx hb dL_law_949 rfl (lv_at hl 2 rfl) ?_
    refine gn_10_5 (i := 0) C hP (hok.2.1 9 0 (Nat.le_of_ble_eq_true rfl)) (hts0 _ nf_45) dL_law_950 ?_
    refine lv_iconst (v := (1 : Int32)) hx hb dL_law_953 (by decide) ?_
    refine lv_isub hx hb dL_law_954 ?_
    obtain ⟨z21, q22, hf⟩ := bsp hf
    refine kc_V (ci := 46) (i := 0) (As := [.int (0 : Int32), .int ((gF z19.1 9 5 0) - (1 : Int32))]) (rest := []) hok.2.2.1 C hP hS hl.1 (hok.2.1 46 0 (Nat.le_of_ble_eq_true rfl)) rfl rfl cw_X9_next ml_L_55 (c_X9_next l D ca ad PL Z A hok N z19.1 sx hsx (0 : Int32) ((gF z19.1 9 5 0) - (1 : Int32)) z21.1 z21.2 q22) rfl ⟨rfl, rfl⟩ ⟨Nat.le_of_ble_eq_true rfl, Nat.le_of_ble_eq_true rfl⟩ ⟨Nat.le_refl _, Nat.le_refl _⟩ (Nat.le_of_ble_eq_true rfl) rfl dL_law_955 (fun H locs hP hS => ?_)
    refine lv_istore (lv' := [(8, .int z21.2), (7, .int z19.2), (1, .ref (ad 46 0)), (2, .ref (ad 9 0)), (3, .ref (ad 8 0)), (4, .int v4), (5, .int v5)]) hx hb dL_law_958 hl (by decide) rfl (fun ls hl => ?_)
    refine lv_aload_n hx hb dL_law_960 rfl (lv_at hl 4 rfl) ?_
    refine lv_iload hx hb dL_law_961 (lv_at hl 1 rfl) ?_
    refine lv_iload hx hb dL_law_963 (lv_at hl 0 rfl) ?_
    refine lv_iconst (v := (0 : Int32)) hx hb dL_law_965 (by decide) ?_
    obtain ⟨z23, q24, hf⟩ := bsp hf
    refine kc_V (ci := 8) (i := 0) (As := [.int z19.2, .int z21.2, .int (0 : Int32)]) (rest := []) hok.2.2.1 C hP hS hl.1 (hok.2.1 8 0 (Nat.le_of_ble_eq_true rfl)) rfl rfl cw_X8_would ml_L_105 (c_X8_would l D ca ad PL Z A (okM_X hok) N z21.1 z19.2 z21.2 (0 : Int32) z23.1 z23.2 q24) rfl ⟨rfl, rfl⟩ ⟨Nat.le_of_ble_eq_true rfl, Nat.le_of_ble_eq_true rfl⟩ ⟨Nat.le_refl _, Nat.le_refl _⟩ (Nat.le_of_ble_eq_true rfl) rfl dL_law_966 (fun H locs hP hS => ?_)
    refine lv_istore (lv' := [(9, .int z23.2), (8, .int z21.2), (7, .int z19.2), (1, .ref (ad 46 0)), (2, .ref (ad 9 0)), (3, .ref (ad 8 0)), (4, .int v4), (5, .int v5)]) hx hb dL_law_969 hl (by decide) rfl (fun ls hl => ?_)
    refine lv_aload_n hx hb dL_law_971 rfl (lv_at hl 5 rfl) ?_
    refine lv_iload hx hb dL_law_972 (lv_at hl 2 rfl) ?_
    refine lv_iload hx hb dL_law_974 (lv_at hl 1 rfl) ?_
    refine lv_iconst (v := (2 : Int32)) hx hb dL_law_976 (by decide) ?_
    obtain ⟨z25, q26, hf⟩ := bsp hf
    refine kc_V (ci := 8) (i := 0) (As := [.int z19.2, .int z21.2, .int (2 : Int32)]) (rest := []) hok.2.2.1 C hP hS hl.1 (hok.2.1 8 0 (Nat.le_of_ble_eq_true rfl)) rfl rfl cw_X8_would ml_L_105 (c_X8_would l D ca ad PL Z A (okM_X hok) N z23.1 z19.2 z21.2 (2 : Int32) z25.1 z25.2 q26) rfl ⟨rfl, rfl⟩ ⟨Nat.le_of_ble_eq_true rfl, Nat.le_of_ble_eq_true rfl⟩ ⟨Nat.le_refl _, Nat.le_refl _⟩ (Nat.le_of_ble_eq_true rfl) rfl dL_law_977 (fun H locs hP hS => ?_)
    refine lv_istore (lv' := [(10, .int z25.2), (9, .int z23.2), (8, .int z21.2), (7, .int z19.2), (1, .ref (ad 46 0)), (2, .ref (ad 9 0)), (3, .ref (ad 8 0)), (4, .int v4), (5, .int v5)]) hx hb dL_law_980 hl (by decide) rfl (fun ls hl => ?_)
    refine lv_aload_n hx hb dL_law_982 rfl (lv_at hl 5 rfl) ?_
    refine gn_10_6 (i := 0) C hP (hok.2.1 9 0 (Nat.le_of_ble_eq_true rfl)) (hts0 _ nf_52) dL_law_983 ?_
    refine lv_if_le (tgt := 1114) hx hb dL_law_986 (by decide) (fun c80 => ?_) (fun c80 => ?_)
    · have hf := ifp hf c80
      exact P_f_L_law_1114 z25.1 v4 v5 z19.2 z21.2 z23.2 z25.2 hf _ _ ls hP hS (lv_sub hl [5, 6, 7, 8, 3, 2, 1, 0] rfl)
    · have hf := ifn hf c80
      refine lv_aload_n hx hb dL_law_989 rfl (lv_at hl 4 rfl) ?_
      refine lv_iconst (v := (0 : Int32)) hx hb dL_law_990 (by decide) ?_
      refine lv_aload_n hx hb dL_law_991 rfl (lv_at hl 5 rfl) ?_
      refine gn_10_6 (i := 0) C hP (hok.2.1 9 0 (Nat.le_of_ble_eq_true rfl)) (hts0 _ nf_52) dL_law_992 ?_
      refine lv_iconst (v := (1 : Int32)) hx hb dL_law_995 (by decide) ?_
      refine lv_isub hx hb dL_law_996 ?_
      obtain ⟨z61, q62, hf⟩ := bsp hf
      refine kc_V (ci := 46) (i := 0) (As := [.int (0 : Int32), .int ((gF z25.1 9 6 0) - (1 : Int32))]) (rest := []) hok.2.2.1 C hP hS hl.1 (hok.2.1 46 0 (Nat.le_of_ble_eq_true rfl)) rfl rfl cw_X9_next ml_L_55 (c_X9_next l D ca ad PL Z A hok N z25.1 sx hsx (0 : Int32) ((gF z25.1 9 6 0) - (1 : Int32)) z61.1 z61.2 q62) rfl ⟨rfl, rfl⟩ ⟨Nat.le_of_ble_eq_true rfl, Nat.le_of_ble_eq_true rfl⟩ ⟨Nat.le_refl _, Nat.le_refl _⟩ (Nat.le_of_ble_eq_true rfl) rfl dL_law_997 (fun H locs hP hS => ?_)
      refine lv_istore (lv' := [(11, .int z61.2), (10, .int z25.2), (9, .int z23.2), (8, .int z21.2), (7, .int z19.2), (1, .ref (ad 46 0)), (2, .ref (ad 9 0)), (3, .ref (ad 8 0)), (4, .int v4), (5, .int v5)]) hx hb dL_law_1000 hl (by decide) rfl (fun ls hl => ?_)
      refine lv_aload_n hx hb dL_law_1002 rfl (lv_at hl 6 rfl) ?_
      refine lv_iload hx hb dL_law_1003 (lv_at hl 8 rfl) ?_
      refine lv_iconst (v := (1 : Int32)) hx hb dL_law_1005 (by decide) ?_
      refine lv_iload hx hb dL_law_1006 (lv_at hl 0 rfl) ?_
      refine lv_ishl hx hb dL_law_1008 ?_
      refine lv_iconst (v := (-1 : Int32)) hx hb dL_law_1009 (by decide) ?_
      refine lv_ixor hx hb dL_law_1010 ?_
      refine lv_iand hx hb dL_law_1011 ?_
      obtain ⟨z63, q64, hf⟩ := bsp hf
      refine kc_V (ci := 9) (i := 0) (As := [.int (v4 &&& (((1 : Int32) <<< (z61.2 &&& 31)) ^^^ (-1 : Int32)))]) (rest := []) hok.2.2.1 C hP hS hl.1 (hok.2.1 9 0 (Nat.le_of_ble_eq_true rfl)) rfl rfl cw_X10_closes ml_L_59 (c_X10_closes l D ca ad PL Z A hok N z61.1 (v4 &&& (((1 : Int32) <<< (z61.2 &&& 31)) ^^^ (-1 : Int32))) z63 q64) rfl ⟨rfl, rfl⟩ ⟨Nat.le_of_ble_eq_true rfl, Nat.le_of_ble_eq_true rfl⟩ ⟨Nat.le_refl _, Nat.le_refl _⟩ (Nat.le_of_ble_eq_true rfl) rfl dL_law_1012 (fun H locs hP hS => ?_)
      refine lv_iconst (v := (0 : Int32)) hx hb dL_law_1015 (by decide) ?_
      refine lv_istore (lv' := [(12, .int (0 : Int32)), (11, .int z61.2), (10, .int z25.2), (9, .int z23.2), (8, .int z21.2), (7, .int z19.2), (1, .ref (ad 46 0)), (2, .ref (ad 9 0)), (3, .ref (ad 8 0)), (4, .int v4), (5, .int v5)]) hx hb dL_law_1016 hl (by decide) rfl (fun ls hl => ?_)
      refine lv_iconst (v := (0 : Int32)) hx hb dL_law_1018 (by decide) ?_
      refine lv_istore (lv' := [(13, .int (0 : Int32)), (12, .int (0 : Int32)), (11, .int z61.2), (10, .int z25.2), (9, .int z23.2), (8, .int z21.2), (7, .int z19.2), (1, .ref (ad 46 0)), (2, .ref (ad 9 0)), (3, .ref (ad 8 0)), (4, .int v4), (5, .int v5)]) hx hb dL_law_1019 hl (by decide) rfl (fun ls hl => ?_)
      exact L_lp_L_law_1021 z63 v4 v5 z19.2 z21.2 z23.2 z25.2 z61.2 _ (fun u12_65 hf H locs ls hP hS hl => P_f_L_law_1058 z63 v4 v5 z19.2 z21.2 z23.2 z25.2 z61.2 u12_65 hf _ _ ls hP hS (lv_sub hl [0, 1, 2, 3, 4, 5, 6, 7, 8, 9] rfl)) N (0 : Int32) (0 : Int32) hf _ _ ls hP hS (lv_sub hl [8, 9, 10, 11, 6, 5, 4, 3, 2, 1, 0] rfl)
  have P_f_L_law_901_810 : ∀ (v4 : Int32) (v5 : Int32) (rc : Mem → Int32 → Option (Mem × Int32)) (hrc : ∀ (w : Mem) (v7 : Int32), rc w v7 = some (w', 1) → WPL p l e s m b below meth c D ca ad PL 810 [] [(1, .ref (ad 46 0)), (2, .ref (ad 9 0)), (3, .ref (ad 8 0)), (4, .int v4), (5, .int v5), (7, .int v7)] w) (k : Mem → Option (Mem × Int32)) (hk : ∀ (w : Mem), k w = some (w', 1) → WPL p l e s m b below meth c D ca ad PL 934 [] [(1, .ref (ad 46 0)), (2, .ref (ad 9 0)), (3, .ref (ad 8 0)), (4, .int v4), (5, .int v5)] w) (w : Mem) (v7 : Int32) (v8 : Int32) (v9 : Int32) (v10 : Int32), f_L_law_901_810 rc k N w sx v4 v5 v7 v8 v9 v10  = some (w', 1) → WPL p l e s m b below meth c D ca ad PL 901 [] [(1, .ref (ad 46 0)), (2, .ref (ad 9 0)), (3, .ref (ad 8 0)), (4, .int v4), (5, .int v5), (7, .int v7), (8, .int v8), (9, .int v9), (10, .int v10)] w := by
    intro v4 v5 rc hrc k hk w v7 v8 v9 v10 hf _ _ ls hP hS hl
    unfold f_L_law_901_810 at hf
    refine lv_iload hx hb dL_law_901 (lv_at hl 8 rfl) ?_
    refine lv_bipush (v := (-2 : Int32)) hx hb dL_law_903 (by decide) ?_
    refine lv_icmp_ne (tgt := 928) hx hb dL_law_905 (by decide) (fun c95 => ?_) (fun c95 => ?_)
    · have hf := ifn hf c95
      refine lv_iinc (v := (v7 + (1 : Int32))) (lv' := [(7, .int (v7 + (1 : Int32))), (1, .ref (ad 46 0)), (2, .ref (ad 9 0)), (3, .ref (ad 8 0)), (4, .int v4), (5, .int v5), (8, .int v8), (9, .int v9), (10, .int v10)]) hx hb dL_law_928 hl (k := 5) rfl rfl (by decide) rfl (fun ls hl => ?_)
      refine lv_goto (tgt := 810) hx hb dL_law_931 (by decide) ?_
      exact hrc w (v7 + (1 : Int32)) hf _ _ ls hP hS (lv_sub hl [1, 2, 3, 4, 5, 0] rfl)
    · have hf := ifp hf c95
      refine lv_iload hx hb dL_law_908 (lv_at hl 6 rfl) ?_
      refine lv_iload hx hb dL_law_910 (lv_at hl 7 rfl) ?_
      refine lv_icmp_ge (tgt := 926) hx hb dL_law_912 (by decide) (fun c94 => ?_) (fun c94 => ?_)
      · have hf := ifp hf c94
        refine lv_iconst (v := (0 : Int32)) hx hb dL_law_926 (by decide) ?_
        exact law_fin hx hb hr hlocks hS (congrArg Prod.snd (Option.some.inj hf)) dL_law_927
      · have hf := ifn hf c94
        refine lv_aload_n hx hb dL_law_915 rfl (lv_at hl 1 rfl) ?_
        refine lv_iload hx hb dL_law_916 (lv_at hl 6 rfl) ?_
        refine lv_iload hx hb dL_law_918 (lv_at hl 7 rfl) ?_
        obtain ⟨z91, q92, hf⟩ := bsp hf
        refine kc_VN (host := "ReasonCloserLaw") (ci := 9) (i := 0) (As := [.int v8, .int v9]) (rest := []) hok.2.2.1 C hP hS hl.1 (hok.2.1 9 0 (Nat.le_of_ble_eq_true rfl)) rfl rfl cw_X10_isAlike (va_Nw.of rfl (hts0 _ nm_101)) (c_X10_isAlike l D ca ad PL Z A hok N w v8 v9 z91 q92) rfl ⟨rfl, rfl⟩ ⟨Nat.le_of_ble_eq_true rfl, Nat.le_of_ble_eq_true rfl⟩ ⟨Nat.le_refl _, Nat.le_refl _⟩ (Nat.le_of_ble_eq_true rfl) rfl dL_law_920 (fun H locs hP hS => ?_)
        refine lv_if_ne (tgt := 928) hx hb dL_law_923 (by decide) (fun c93 => ?_) (fun c93 => ?_)
        · have hf := ifn hf c93
          refine lv_iinc (v := (v7 + (1 : Int32))) (lv' := [(7, .int (v7 + (1 : Int32))), (1, .ref (ad 46 0)), (2, .ref (ad 9 0)), (3, .ref (ad 8 0)), (4, .int v4), (5, .int v5), (8, .int v8), (9, .int v9), (10, .int v10)]) hx hb dL_law_928 hl (k := 5) rfl rfl (by decide) rfl (fun ls hl => ?_)
          refine lv_goto (tgt := 810) hx hb dL_law_931 (by decide) ?_
          exact hrc w (v7 + (1 : Int32)) hf _ _ ls hP hS (lv_sub hl [1, 2, 3, 4, 5, 0] rfl)
        · have hf := ifp hf c93
          refine lv_iconst (v := (0 : Int32)) hx hb dL_law_926 (by decide) ?_
          exact law_fin hx hb hr hlocks hS (congrArg Prod.snd (Option.some.inj hf)) dL_law_927
  have L_lp_L_law_810 : ∀ (v4 : Int32) (v5 : Int32) (k : Mem → Option (Mem × Int32)) (hk : ∀ (w : Mem), k w = some (w', 1) → WPL p l e s m b below meth c D ca ad PL 934 [] [(1, .ref (ad 46 0)), (2, .ref (ad 9 0)), (3, .ref (ad 8 0)), (4, .int v4), (5, .int v5)] w) (n : Nat) (w : Mem) (v7 : Int32), lp_L_law_810 k N  sx v4 v5 n w v7 = some (w', 1) → WPL p l e s m b below meth c D ca ad PL 810 [] [(1, .ref (ad 46 0)), (2, .ref (ad 9 0)), (3, .ref (ad 8 0)), (4, .int v4), (5, .int v5), (7, .int v7)] w := by
    intro v4 v5 k hk n
    induction n with
    | zero => intro w v7 hf; rw [lp_L_law_810] at hf; cases hf
    | succ n ih =>
      intro w v7 hf _ _ ls hP hS hl
      rw [lp_L_law_810] at hf
      refine lv_iload hx hb dL_law_810 (lv_at hl 5 rfl) ?_
      refine lv_aload_n hx hb dL_law_812 rfl (lv_at hl 2 rfl) ?_
      refine lv_bipush (v := (6 : Int32)) hx hb dL_law_813 (by decide) ?_
      obtain ⟨z81, q82, hf⟩ := bsp hf
      refine kc_V (ci := 8) (i := 0) (As := [.int (6 : Int32)]) (rest := [.int v7]) hok.2.2.1 C hP hS hl.1 (hok.2.1 8 0 (Nat.le_of_ble_eq_true rfl)) rfl rfl cw_X8_about ml_L_49 (c_X8_about l D ca ad PL Z A (okM_X hok) N w (6 : Int32) z81.1 z81.2 q82) rfl ⟨rfl, rfl⟩ ⟨Nat.le_of_ble_eq_true rfl, Nat.le_of_ble_eq_true rfl⟩ ⟨Nat.le_refl _, Nat.le_refl _⟩ (Nat.le_of_ble_eq_true rfl) rfl dL_law_815 (fun H locs hP hS => ?_)
      refine lv_icmp_ge (tgt := 934) hx hb dL_law_818 (by decide) (fun c105 => ?_) (fun c105 => ?_)
      · have hf := ifp hf c105
        exact hk z81.1 hf _ _ ls hP hS (lv_sub hl [0, 1, 2, 3, 4] rfl)
      · have hf := ifn hf c105
        refine lv_aload_n hx hb dL_law_821 rfl (lv_at hl 2 rfl) ?_
        refine lv_iload hx hb dL_law_822 (lv_at hl 5 rfl) ?_
        refine lv_iconst (v := (0 : Int32)) hx hb dL_law_824 (by decide) ?_
        obtain ⟨z83, q84, hf⟩ := bsp hf
        refine kc_V (ci := 8) (i := 0) (As := [.int v7, .int (0 : Int32)]) (rest := []) hok.2.2.1 C hP hS hl.1 (hok.2.1 8 0 (Nat.le_of_ble_eq_true rfl)) rfl rfl cw_X8_joinOf ml_L_95 (c_X8_joinOf l D ca ad PL Z A (okM_X hok) N z81.1 v7 (0 : Int32) z83.1 z83.2 q84) rfl ⟨rfl, rfl⟩ ⟨Nat.le_of_ble_eq_true rfl, Nat.le_of_ble_eq_true rfl⟩ ⟨Nat.le_refl _, Nat.le_refl _⟩ (Nat.le_of_ble_eq_true rfl) rfl dL_law_825 (fun H locs hP hS => ?_)
        refine lv_istore (lv' := [(8, .int z83.2), (1, .ref (ad 46 0)), (2, .ref (ad 9 0)), (3, .ref (ad 8 0)), (4, .int v4), (5, .int v5), (7, .int v7)]) hx hb dL_law_828 hl (by decide) rfl (fun ls hl => ?_)
        refine lv_aload_n hx hb dL_law_830 rfl (lv_at hl 3 rfl) ?_
        refine lv_iload hx hb dL_law_831 (lv_at hl 6 rfl) ?_
        refine lv_iconst (v := (1 : Int32)) hx hb dL_law_833 (by decide) ?_
        obtain ⟨z85, q86, hf⟩ := bsp hf
        refine kc_V (ci := 8) (i := 0) (As := [.int v7, .int (1 : Int32)]) (rest := []) hok.2.2.1 C hP hS hl.1 (hok.2.1 8 0 (Nat.le_of_ble_eq_true rfl)) rfl rfl cw_X8_joinOf ml_L_95 (c_X8_joinOf l D ca ad PL Z A (okM_X hok) N z83.1 v7 (1 : Int32) z85.1 z85.2 q86) rfl ⟨rfl, rfl⟩ ⟨Nat.le_of_ble_eq_true rfl, Nat.le_of_ble_eq_true rfl⟩ ⟨Nat.le_refl _, Nat.le_refl _⟩ (Nat.le_of_ble_eq_true rfl) rfl dL_law_834 (fun H locs hP hS => ?_)
        refine lv_istore (lv' := [(9, .int z85.2), (8, .int z83.2), (1, .ref (ad 46 0)), (2, .ref (ad 9 0)), (3, .ref (ad 8 0)), (4, .int v4), (5, .int v5), (7, .int v7)]) hx hb dL_law_837 hl (by decide) rfl (fun ls hl => ?_)
        refine lv_aload_n hx hb dL_law_839 rfl (lv_at hl 4 rfl) ?_
        refine lv_iload hx hb dL_law_840 (lv_at hl 7 rfl) ?_
        refine lv_iconst (v := (2 : Int32)) hx hb dL_law_842 (by decide) ?_
        obtain ⟨z87, q88, hf⟩ := bsp hf
        refine kc_V (ci := 8) (i := 0) (As := [.int v7, .int (2 : Int32)]) (rest := []) hok.2.2.1 C hP hS hl.1 (hok.2.1 8 0 (Nat.le_of_ble_eq_true rfl)) rfl rfl cw_X8_joinOf ml_L_95 (c_X8_joinOf l D ca ad PL Z A (okM_X hok) N z85.1 v7 (2 : Int32) z87.1 z87.2 q88) rfl ⟨rfl, rfl⟩ ⟨Nat.le_of_ble_eq_true rfl, Nat.le_of_ble_eq_true rfl⟩ ⟨Nat.le_refl _, Nat.le_refl _⟩ (Nat.le_of_ble_eq_true rfl) rfl dL_law_843 (fun H locs hP hS => ?_)
        refine lv_istore (lv' := [(10, .int z87.2), (9, .int z85.2), (8, .int z83.2), (1, .ref (ad 46 0)), (2, .ref (ad 9 0)), (3, .ref (ad 8 0)), (4, .int v4), (5, .int v5), (7, .int v7)]) hx hb dL_law_846 hl (by decide) rfl (fun ls hl => ?_)
        refine lv_aload_n hx hb dL_law_848 rfl (lv_at hl 4 rfl) ?_
        refine gn_10_7 (i := 0) C hP (hok.2.1 9 0 (Nat.le_of_ble_eq_true rfl)) (hts0 _ nf_67) dL_law_849 ?_
        refine lv_iload hx hb dL_law_852 (lv_at hl 2 rfl) ?_
        obtain ⟨b89, hf⟩ := gsp hf
        refine ra_ild (k := 45) (i := 0) (n := 12) (f := (gA z87.1 45 0)) C hP (hok.2.1 45 0 (Nat.le_of_ble_eq_true rfl)) rfl b89 dL_law_854 ?_
        refine lv_aload_n hx hb dL_law_855 rfl (lv_at hl 4 rfl) ?_
        refine gn_10_7 (i := 0) C hP (hok.2.1 9 0 (Nat.le_of_ble_eq_true rfl)) (hts0 _ nf_67) dL_law_856 ?_
        refine lv_iload hx hb dL_law_859 (lv_at hl 1 rfl) ?_
        obtain ⟨b90, hf⟩ := gsp hf
        refine ra_ild (k := 45) (i := 0) (n := 12) (f := (gA z87.1 45 0)) C hP (hok.2.1 45 0 (Nat.le_of_ble_eq_true rfl)) rfl b90 dL_law_861 ?_
        refine lv_icmp_ne (tgt := 926) hx hb dL_law_862 (by decide) (fun c104 => ?_) (fun c104 => ?_)
        · have hf := ifn hf c104
          refine lv_iconst (v := (0 : Int32)) hx hb dL_law_926 (by decide) ?_
          exact law_fin hx hb hr hlocks hS (congrArg Prod.snd (Option.some.inj hf)) dL_law_927
        · have hf := ifp hf c104
          refine lv_iload hx hb dL_law_865 (lv_at hl 2 rfl) ?_
          refine lv_iload hx hb dL_law_867 (lv_at hl 1 rfl) ?_
          refine lv_icmp_eq (tgt := 926) hx hb dL_law_869 (by decide) (fun c103 => ?_) (fun c103 => ?_)
          · have hf := ifp hf c103
            refine lv_iconst (v := (0 : Int32)) hx hb dL_law_926 (by decide) ?_
            exact law_fin hx hb hr hlocks hS (congrArg Prod.snd (Option.some.inj hf)) dL_law_927
          · have hf := ifn hf c103
            refine lv_iload hx hb dL_law_872 (lv_at hl 0 rfl) ?_
            refine lv_if_lt (tgt := 901) hx hb dL_law_874 (by decide) (fun c102 => ?_) (fun c102 => ?_)
            · have hf := ifp hf c102
              exact P_f_L_law_901_810 v4 v5 _ ih _ hk z87.1 v7 z83.2 z85.2 z87.2 hf _ _ ls hP hS (lv_sub hl [3, 4, 5, 6, 7, 8, 2, 1, 0] rfl)
            · have hf := ifn hf c102
              refine lv_aload_n hx hb dL_law_877 rfl (lv_at hl 5 rfl) ?_
              refine lv_iload hx hb dL_law_878 (lv_at hl 0 rfl) ?_
              refine lv_iconst (v := (0 : Int32)) hx hb dL_law_880 (by decide) ?_
              obtain ⟨z96, q97, hf⟩ := bsp hf
              refine kc_V (ci := 8) (i := 0) (As := [.int z87.2, .int (0 : Int32)]) (rest := []) hok.2.2.1 C hP hS hl.1 (hok.2.1 8 0 (Nat.le_of_ble_eq_true rfl)) rfl rfl cw_X8_sameOf ml_L_98 (c_X8_sameOf l D ca ad PL Z A (okM_X hok) N z87.1 z87.2 (0 : Int32) z96.1 z96.2 q97) rfl ⟨rfl, rfl⟩ ⟨Nat.le_of_ble_eq_true rfl, Nat.le_of_ble_eq_true rfl⟩ ⟨Nat.le_refl _, Nat.le_refl _⟩ (Nat.le_of_ble_eq_true rfl) rfl dL_law_881 (fun H locs hP hS => ?_)
              refine lv_iload hx hb dL_law_884 (lv_at hl 2 rfl) ?_
              refine lv_icmp_ne (tgt := 926) hx hb dL_law_886 (by decide) (fun c101 => ?_) (fun c101 => ?_)
              · have hf := ifn hf c101
                refine lv_iconst (v := (0 : Int32)) hx hb dL_law_926 (by decide) ?_
                exact law_fin hx hb hr hlocks hS (congrArg Prod.snd (Option.some.inj hf)) dL_law_927
              · have hf := ifp hf c101
                refine lv_aload_n hx hb dL_law_889 rfl (lv_at hl 5 rfl) ?_
                refine lv_iload hx hb dL_law_890 (lv_at hl 0 rfl) ?_
                refine lv_iconst (v := (1 : Int32)) hx hb dL_law_892 (by decide) ?_
                obtain ⟨z98, q99, hf⟩ := bsp hf
                refine kc_V (ci := 8) (i := 0) (As := [.int z87.2, .int (1 : Int32)]) (rest := []) hok.2.2.1 C hP hS hl.1 (hok.2.1 8 0 (Nat.le_of_ble_eq_true rfl)) rfl rfl cw_X8_sameOf ml_L_98 (c_X8_sameOf l D ca ad PL Z A (okM_X hok) N z96.1 z87.2 (1 : Int32) z98.1 z98.2 q99) rfl ⟨rfl, rfl⟩ ⟨Nat.le_of_ble_eq_true rfl, Nat.le_of_ble_eq_true rfl⟩ ⟨Nat.le_refl _, Nat.le_refl _⟩ (Nat.le_of_ble_eq_true rfl) rfl dL_law_893 (fun H locs hP hS => ?_)
                refine lv_iload hx hb dL_law_896 (lv_at hl 1 rfl) ?_
                refine lv_icmp_ne (tgt := 926) hx hb dL_law_898 (by decide) (fun c100 => ?_) (fun c100 => ?_)
                · have hf := ifn hf c100
                  refine lv_iconst (v := (0 : Int32)) hx hb dL_law_926 (by decide) ?_
                  exact law_fin hx hb hr hlocks hS (congrArg Prod.snd (Option.some.inj hf)) dL_law_927
                · have hf := ifp hf c100
                  exact P_f_L_law_901_810 v4 v5 _ ih _ hk z98.1 v7 z83.2 z85.2 z87.2 hf _ _ ls hP hS (lv_sub hl [3, 4, 5, 6, 7, 8, 2, 1, 0] rfl)
  have P_f_L_law_798 : ∀ (w : Mem) (v4 : Int32) (v5 : Int32) (v6 : Int32), f_L_law_798 N w sx v4 v5 v6  = some (w', 1) → WPL p l e s m b below meth c D ca ad PL 798 [] [(1, .ref (ad 46 0)), (2, .ref (ad 9 0)), (3, .ref (ad 8 0)), (4, .int v4), (5, .int v5), (6, .int v6)] w := by
    intro w v4 v5 v6 hf _ _ ls hP hS hl
    unfold f_L_law_798 at hf
    refine lv_iload hx hb dL_law_798 (lv_at hl 5 rfl) ?_
    refine lv_iload hx hb dL_law_800 (lv_at hl 4 rfl) ?_
    refine lv_icmp_eq (tgt := 807) hx hb dL_law_802 (by decide) (fun c106 => ?_) (fun c106 => ?_)
    · have hf := ifp hf c106
      refine lv_iconst (v := (0 : Int32)) hx hb dL_law_807 (by decide) ?_
      refine lv_istore (lv' := [(7, .int (0 : Int32)), (1, .ref (ad 46 0)), (2, .ref (ad 9 0)), (3, .ref (ad 8 0)), (4, .int v4), (5, .int v5), (6, .int v6)]) hx hb dL_law_808 hl (by decide) rfl (fun ls hl => ?_)
      exact L_lp_L_law_810 v4 v5 _ (fun w_18 hf H locs ls hP hS hl => P_f_L_law_934 w_18 v4 v5 hf _ _ ls hP hS (lv_sub hl [0, 1, 2, 3, 4] rfl)) N w (0 : Int32) hf _ _ ls hP hS (lv_sub hl [1, 2, 3, 4, 5, 0] rfl)
    · have hf := ifn hf c106
      refine lv_iconst (v := (0 : Int32)) hx hb dL_law_805 (by decide) ?_
      exact law_fin hx hb hr hlocks hS (congrArg Prod.snd (Option.some.inj hf)) dL_law_806
  have P_f_L_law_777_645 : ∀ (v4 : Int32) (v5 : Int32) (rc : Mem → Int32 → Int32 → Option (Mem × Int32)) (hrc : ∀ (w : Mem) (v6 : Int32) (v7 : Int32), rc w v6 v7 = some (w', 1) → WPL p l e s m b below meth c D ca ad PL 645 [] [(1, .ref (ad 46 0)), (2, .ref (ad 9 0)), (3, .ref (ad 8 0)), (4, .int v4), (5, .int v5), (6, .int v6), (7, .int v7)] w) (k : Mem → Int32 → Option (Mem × Int32)) (hk : ∀ (w : Mem) (v6 : Int32), k w v6 = some (w', 1) → WPL p l e s m b below meth c D ca ad PL 798 [] [(1, .ref (ad 46 0)), (2, .ref (ad 9 0)), (3, .ref (ad 8 0)), (4, .int v4), (5, .int v5), (6, .int v6)] w) (w : Mem) (v6 : Int32) (v7 : Int32) (v9 : Int32), f_L_law_777_645 rc k N w sx v4 v5 v6 v7 v9  = some (w', 1) → WPL p l e s m b below meth c D ca ad PL 777 [] [(1, .ref (ad 46 0)), (2, .ref (ad 9 0)), (3, .ref (ad 8 0)), (4, .int v4), (5, .int v5), (6, .int v6), (7, .int v7), (9, .int v9)] w := by
    intro v4 v5 rc hrc k hk w v6 v7 v9 hf _ _ ls hP hS hl
    unfold f_L_law_777_645 at hf
    refine lv_aload_n hx hb dL_law_777 rfl (lv_at hl 2 rfl) ?_
    refine lv_iload hx hb dL_law_778 (lv_at hl 6 rfl) ?_
    refine lv_iload hx hb dL_law_780 (lv_at hl 7 rfl) ?_
    obtain ⟨z116, q117, hf⟩ := bsp hf
    refine kc_V (ci := 8) (i := 0) (As := [.int v7, .int v9]) (rest := []) hok.2.2.1 C hP hS hl.1 (hok.2.1 8 0 (Nat.le_of_ble_eq_true rfl)) rfl rfl cw_X8_hung ml_L_92 (c_X8_hung l D ca ad PL Z A (okM_X hok) N w v7 v9 z116.1 z116.2 q117) rfl ⟨rfl, rfl⟩ ⟨Nat.le_of_ble_eq_true rfl, Nat.le_of_ble_eq_true rfl⟩ ⟨Nat.le_refl _, Nat.le_refl _⟩ (Nat.le_of_ble_eq_true rfl) rfl dL_law_782 (fun H locs hP hS => ?_)
    refine lv_bipush (v := (-2 : Int32)) hx hb dL_law_785 (by decide) ?_
    refine lv_icmp_eq (tgt := 792) hx hb dL_law_787 (by decide) (fun c118 => ?_) (fun c118 => ?_)
    · have hf := ifp hf c118
      refine lv_iinc (v := (v7 + (1 : Int32))) (lv' := [(7, .int (v7 + (1 : Int32))), (1, .ref (ad 46 0)), (2, .ref (ad 9 0)), (3, .ref (ad 8 0)), (4, .int v4), (5, .int v5), (6, .int v6), (9, .int v9)]) hx hb dL_law_792 hl (k := 6) rfl rfl (by decide) rfl (fun ls hl => ?_)
      refine lv_goto (tgt := 645) hx hb dL_law_795 (by decide) ?_
      exact hrc z116.1 v6 (v7 + (1 : Int32)) hf _ _ ls hP hS (lv_sub hl [1, 2, 3, 4, 5, 6, 0] rfl)
    · have hf := ifn hf c118
      refine lv_iconst (v := (0 : Int32)) hx hb dL_law_790 (by decide) ?_
      exact law_fin hx hb hr hlocks hS (congrArg Prod.snd (Option.some.inj hf)) dL_law_791
  have L_lp_L_law_729 : ∀ (v4 : Int32) (v5 : Int32) (v6 : Int32) (v7 : Int32) (k : Mem → Int32 → Option (Mem × Int32)) (hk : ∀ (w : Mem) (v9 : Int32), k w v9 = some (w', 1) → WPL p l e s m b below meth c D ca ad PL 777 [] [(1, .ref (ad 46 0)), (2, .ref (ad 9 0)), (3, .ref (ad 8 0)), (4, .int v4), (5, .int v5), (6, .int v6), (7, .int v7), (9, .int v9)] w) (n : Nat) (w : Mem) (v9 : Int32) (v10 : Int32), lp_L_law_729 k N  sx v4 v5 v6 v7 n w v9 v10 = some (w', 1) → WPL p l e s m b below meth c D ca ad PL 729 [] [(1, .ref (ad 46 0)), (2, .ref (ad 9 0)), (3, .ref (ad 8 0)), (4, .int v4), (5, .int v5), (6, .int v6), (7, .int v7), (9, .int v9), (10, .int v10)] w := by
    intro v4 v5 v6 v7 k hk n
    induction n with
    | zero => intro w v9 v10 hf; rw [lp_L_law_729] at hf; cases hf
    | succ n ih =>
      intro w v9 v10 hf _ _ ls hP hS hl
      rw [lp_L_law_729] at hf
      refine lv_iload hx hb dL_law_729 (lv_at hl 8 rfl) ?_
      refine lv_aload_n hx hb dL_law_731 rfl (lv_at hl 1 rfl) ?_
      refine gn_10_5 (i := 0) C hP (hok.2.1 9 0 (Nat.le_of_ble_eq_true rfl)) (hts0 _ nf_45) dL_law_732 ?_
      refine lv_icmp_ge (tgt := 777) hx hb dL_law_735 (by decide) (fun c125 => ?_) (fun c125 => ?_)
      · have hf := ifp hf c125
        exact hk w v9 hf _ _ ls hP hS (lv_sub hl [0, 1, 2, 3, 4, 5, 6, 7] rfl)
      · have hf := ifn hf c125
        refine lv_aload_n hx hb dL_law_738 rfl (lv_at hl 2 rfl) ?_
        refine lv_iload hx hb dL_law_739 (lv_at hl 8 rfl) ?_
        refine lv_iconst (v := (5 : Int32)) hx hb dL_law_741 (by decide) ?_
        obtain ⟨z119, q120, hf⟩ := bsp hf
        refine kc_V (ci := 8) (i := 0) (As := [.int v10, .int (5 : Int32)]) (rest := []) hok.2.2.1 C hP hS hl.1 (hok.2.1 8 0 (Nat.le_of_ble_eq_true rfl)) rfl rfl cw_X8_term ml_L_83 (c_X8_term l D ca ad PL Z A (okM_X hok) N w v10 (5 : Int32) z119.1 z119.2 q120) rfl ⟨rfl, rfl⟩ ⟨Nat.le_of_ble_eq_true rfl, Nat.le_of_ble_eq_true rfl⟩ ⟨Nat.le_refl _, Nat.le_refl _⟩ (Nat.le_of_ble_eq_true rfl) rfl dL_law_742 (fun H locs hP hS => ?_)
        refine lv_iload hx hb dL_law_745 (lv_at hl 6 rfl) ?_
        refine lv_icmp_eq (tgt := 753) hx hb dL_law_747 (by decide) (fun c124 => ?_) (fun c124 => ?_)
        · have hf := ifp hf c124
          refine lv_aload_n hx hb dL_law_753 rfl (lv_at hl 2 rfl) ?_
          refine lv_iload hx hb dL_law_754 (lv_at hl 6 rfl) ?_
          refine lv_iload hx hb dL_law_756 (lv_at hl 7 rfl) ?_
          obtain ⟨z121, q122, hf⟩ := bsp hf
          refine kc_V (ci := 8) (i := 0) (As := [.int v7, .int v9]) (rest := []) hok.2.2.1 C hP hS hl.1 (hok.2.1 8 0 (Nat.le_of_ble_eq_true rfl)) rfl rfl cw_X8_hung ml_L_92 (c_X8_hung l D ca ad PL Z A (okM_X hok) N z119.1 v7 v9 z121.1 z121.2 q122) rfl ⟨rfl, rfl⟩ ⟨Nat.le_of_ble_eq_true rfl, Nat.le_of_ble_eq_true rfl⟩ ⟨Nat.le_refl _, Nat.le_refl _⟩ (Nat.le_of_ble_eq_true rfl) rfl dL_law_758 (fun H locs hP hS => ?_)
          refine lv_iload hx hb dL_law_761 (lv_at hl 8 rfl) ?_
          refine lv_icmp_eq (tgt := 768) hx hb dL_law_763 (by decide) (fun c123 => ?_) (fun c123 => ?_)
          · have hf := ifp hf c123
            refine lv_iinc (v := (v9 + (1 : Int32))) (lv' := [(9, .int (v9 + (1 : Int32))), (1, .ref (ad 46 0)), (2, .ref (ad 9 0)), (3, .ref (ad 8 0)), (4, .int v4), (5, .int v5), (6, .int v6), (7, .int v7), (10, .int v10)]) hx hb dL_law_768 hl (k := 7) rfl rfl (by decide) rfl (fun ls hl => ?_)
            refine lv_iinc (v := (v10 + (1 : Int32))) (lv' := [(10, .int (v10 + (1 : Int32))), (9, .int (v9 + (1 : Int32))), (1, .ref (ad 46 0)), (2, .ref (ad 9 0)), (3, .ref (ad 8 0)), (4, .int v4), (5, .int v5), (6, .int v6), (7, .int v7)]) hx hb dL_law_771 hl (k := 8) rfl rfl (by decide) rfl (fun ls hl => ?_)
            refine lv_goto (tgt := 729) hx hb dL_law_774 (by decide) ?_
            exact ih z121.1 (v9 + (1 : Int32)) (v10 + (1 : Int32)) hf _ _ ls hP hS (lv_sub hl [2, 3, 4, 5, 6, 7, 8, 1, 0] rfl)
          · have hf := ifn hf c123
            refine lv_iconst (v := (0 : Int32)) hx hb dL_law_766 (by decide) ?_
            exact law_fin hx hb hr hlocks hS (congrArg Prod.snd (Option.some.inj hf)) dL_law_767
        · have hf := ifn hf c124
          refine lv_goto (tgt := 771) hx hb dL_law_750 (by decide) ?_
          refine lv_iinc (v := (v10 + (1 : Int32))) (lv' := [(10, .int (v10 + (1 : Int32))), (1, .ref (ad 46 0)), (2, .ref (ad 9 0)), (3, .ref (ad 8 0)), (4, .int v4), (5, .int v5), (6, .int v6), (7, .int v7), (9, .int v9)]) hx hb dL_law_771 hl (k := 8) rfl rfl (by decide) rfl (fun ls hl => ?_)
          refine lv_goto (tgt := 729) hx hb dL_law_774 (by decide) ?_
          exact ih z119.1 v9 (v10 + (1 : Int32)) hf _ _ ls hP hS (lv_sub hl [1, 2, 3, 4, 5, 6, 7, 8, 0] rfl)
  have P_f_L_law_680_645_s2 : ∀ (v4 : Int32) (v5 : Int32) (rc : Mem → Int32 → Int32 → Option (Mem × Int32)) (hrc : ∀ (w : Mem) (v6 : Int32) (v7 : Int32), rc w v6 v7 = some (w', 1) → WPL p l e s m b below meth c D ca ad PL 645 [] [(1, .ref (ad 46 0)), (2, .ref (ad 9 0)), (3, .ref (ad 8 0)), (4, .int v4), (5, .int v5), (6, .int v6), (7, .int v7)] w) (k : Mem → Int32 → Option (Mem × Int32)) (hk : ∀ (w : Mem) (v6 : Int32), k w v6 = some (w', 1) → WPL p l e s m b below meth c D ca ad PL 798 [] [(1, .ref (ad 46 0)), (2, .ref (ad 9 0)), (3, .ref (ad 8 0)), (4, .int v4), (5, .int v5), (6, .int v6)] w) (w : Mem) (v7 : Int32) (v8 : Int32) (v9 : Int32) (s0 : Int32) (s1 : Int32), f_L_law_680_645_s2 rc k N w sx v4 v5 v7 v8 v9 s0 s1 = some (w', 1) → WPL p l e s m b below meth c D ca ad PL 680 [.int s0, .int s1] [(1, .ref (ad 46 0)), (2, .ref (ad 9 0)), (3, .ref (ad 8 0)), (4, .int v4), (5, .int v5), (7, .int v7), (8, .int v8), (9, .int v9)] w := by
    intro v4 v5 rc hrc k hk w v7 v8 v9 s0 s1 hf _ _ ls hP hS hl
    unfold f_L_law_680_645_s2 at hf
    refine lv_iadd hx hb dL_law_680 ?_
    refine lv_istore (lv' := [(6, .int (s1 + s0)), (1, .ref (ad 46 0)), (2, .ref (ad 9 0)), (3, .ref (ad 8 0)), (4, .int v4), (5, .int v5), (7, .int v7), (8, .int v8), (9, .int v9)]) hx hb dL_law_681 hl (by decide) rfl (fun ls hl => ?_)
    refine lv_aload_n hx hb dL_law_683 rfl (lv_at hl 3 rfl) ?_
    refine lv_iload hx hb dL_law_684 (lv_at hl 6 rfl) ?_
    obtain ⟨z109, q110, hf⟩ := bsp hf
    refine kc_V (ci := 8) (i := 0) (As := [.int v7]) (rest := []) hok.2.2.1 C hP hS hl.1 (hok.2.1 8 0 (Nat.le_of_ble_eq_true rfl)) rfl rfl cw_X8_height ml_L_89 (c_X8_height l D ca ad PL Z A (okM_X hok) N w v7 z109.1 z109.2 q110) rfl ⟨rfl, rfl⟩ ⟨Nat.le_of_ble_eq_true rfl, Nat.le_of_ble_eq_true rfl⟩ ⟨Nat.le_refl _, Nat.le_refl _⟩ (Nat.le_of_ble_eq_true rfl) rfl dL_law_686 (fun H locs hP hS => ?_)
    refine lv_iload hx hb dL_law_689 (lv_at hl 7 rfl) ?_
    refine lv_bipush (v := (-2 : Int32)) hx hb dL_law_691 (by decide) ?_
    refine lv_icmp_ne (tgt := 700) hx hb dL_law_693 (by decide) (fun c133 => ?_) (fun c133 => ?_)
    · have hf := ifn hf c133
      refine lv_aload_n hx hb dL_law_700 rfl (lv_at hl 3 rfl) ?_
      refine lv_iload hx hb dL_law_701 (lv_at hl 7 rfl) ?_
      obtain ⟨z111, q112, hf⟩ := bsp hf
      refine kc_V (ci := 8) (i := 0) (As := [.int v8]) (rest := [.int z109.2]) hok.2.2.1 C hP hS hl.1 (hok.2.1 8 0 (Nat.le_of_ble_eq_true rfl)) rfl rfl cw_X8_height ml_L_89 (c_X8_height l D ca ad PL Z A (okM_X hok) N z109.1 v8 z111.1 z111.2 q112) rfl ⟨rfl, rfl⟩ ⟨Nat.le_of_ble_eq_true rfl, Nat.le_of_ble_eq_true rfl⟩ ⟨Nat.le_refl _, Nat.le_refl _⟩ (Nat.le_of_ble_eq_true rfl) rfl dL_law_703 (fun H locs hP hS => ?_)
      refine lv_iconst (v := (1 : Int32)) hx hb dL_law_706 (by decide) ?_
      refine lv_iadd hx hb dL_law_707 ?_
      refine lv_icmp_ne (tgt := 724) hx hb dL_law_708 (by decide) (fun c127 => ?_) (fun c127 => ?_)
      · have hf := ifn hf c127
        refine lv_iconst (v := (0 : Int32)) hx hb dL_law_724 (by decide) ?_
        exact law_fin hx hb hr hlocks hS (congrArg Prod.snd (Option.some.inj hf)) dL_law_725
      · have hf := ifp hf c127
        refine lv_aload_n hx hb dL_law_711 rfl (lv_at hl 3 rfl) ?_
        refine lv_iload hx hb dL_law_712 (lv_at hl 6 rfl) ?_
        obtain ⟨z113, q114, hf⟩ := bsp hf
        refine kc_V (ci := 8) (i := 0) (As := [.int v7]) (rest := []) hok.2.2.1 C hP hS hl.1 (hok.2.1 8 0 (Nat.le_of_ble_eq_true rfl)) rfl rfl cw_X8_height ml_L_89 (c_X8_height l D ca ad PL Z A (okM_X hok) N z111.1 v7 z113.1 z113.2 q114) rfl ⟨rfl, rfl⟩ ⟨Nat.le_of_ble_eq_true rfl, Nat.le_of_ble_eq_true rfl⟩ ⟨Nat.le_refl _, Nat.le_refl _⟩ (Nat.le_of_ble_eq_true rfl) rfl dL_law_714 (fun H locs hP hS => ?_)
        refine lv_aload_n hx hb dL_law_717 rfl (lv_at hl 2 rfl) ?_
        refine gn_10_5 (i := 0) C hP (hok.2.1 9 0 (Nat.le_of_ble_eq_true rfl)) (hts0 _ nf_45) dL_law_718 ?_
        refine lv_icmp_lt (tgt := 726) hx hb dL_law_721 (by decide) (fun c126 => ?_) (fun c126 => ?_)
        · have hf := ifp hf c126
          refine lv_iconst (v := (0 : Int32)) hx hb dL_law_726 (by decide) ?_
          refine lv_istore (lv' := [(10, .int (0 : Int32)), (6, .int (s1 + s0)), (1, .ref (ad 46 0)), (2, .ref (ad 9 0)), (3, .ref (ad 8 0)), (4, .int v4), (5, .int v5), (7, .int v7), (8, .int v8), (9, .int v9)]) hx hb dL_law_727 hl (by decide) rfl (fun ls hl => ?_)
          exact L_lp_L_law_729 v4 v5 (s1 + s0) v7 _ (fun w_115 u9_115 hf H locs ls hP hS hl => P_f_L_law_777_645 v4 v5 _ hrc _ hk w_115 (s1 + s0) v7 u9_115 hf _ _ ls hP hS (lv_sub hl [0, 1, 2, 3, 4, 5, 6, 7] rfl)) N z113.1 v9 (0 : Int32) hf _ _ ls hP hS (lv_sub hl [2, 3, 4, 5, 6, 1, 7, 9, 0] rfl)
        · have hf := ifn hf c126
          refine lv_iconst (v := (0 : Int32)) hx hb dL_law_724 (by decide) ?_
          exact law_fin hx hb hr hlocks hS (congrArg Prod.snd (Option.some.inj hf)) dL_law_725
    · have hf := ifp hf c133
      refine lv_iconst (v := (0 : Int32)) hx hb dL_law_696 (by decide) ?_
      refine lv_goto (tgt := 708) hx hb dL_law_697 (by decide) ?_
      refine lv_icmp_ne (tgt := 724) hx hb dL_law_708 (by decide) (fun c132 => ?_) (fun c132 => ?_)
      · have hf := ifn hf c132
        refine lv_iconst (v := (0 : Int32)) hx hb dL_law_724 (by decide) ?_
        exact law_fin hx hb hr hlocks hS (congrArg Prod.snd (Option.some.inj hf)) dL_law_725
      · have hf := ifp hf c132
        refine lv_aload_n hx hb dL_law_711 rfl (lv_at hl 3 rfl) ?_
        refine lv_iload hx hb dL_law_712 (lv_at hl 6 rfl) ?_
        obtain ⟨z128, q129, hf⟩ := bsp hf
        refine kc_V (ci := 8) (i := 0) (As := [.int v7]) (rest := []) hok.2.2.1 C hP hS hl.1 (hok.2.1 8 0 (Nat.le_of_ble_eq_true rfl)) rfl rfl cw_X8_height ml_L_89 (c_X8_height l D ca ad PL Z A (okM_X hok) N z109.1 v7 z128.1 z128.2 q129) rfl ⟨rfl, rfl⟩ ⟨Nat.le_of_ble_eq_true rfl, Nat.le_of_ble_eq_true rfl⟩ ⟨Nat.le_refl _, Nat.le_refl _⟩ (Nat.le_of_ble_eq_true rfl) rfl dL_law_714 (fun H locs hP hS => ?_)
        refine lv_aload_n hx hb dL_law_717 rfl (lv_at hl 2 rfl) ?_
        refine gn_10_5 (i := 0) C hP (hok.2.1 9 0 (Nat.le_of_ble_eq_true rfl)) (hts0 _ nf_45) dL_law_718 ?_
        refine lv_icmp_lt (tgt := 726) hx hb dL_law_721 (by decide) (fun c131 => ?_) (fun c131 => ?_)
        · have hf := ifp hf c131
          refine lv_iconst (v := (0 : Int32)) hx hb dL_law_726 (by decide) ?_
          refine lv_istore (lv' := [(10, .int (0 : Int32)), (6, .int (s1 + s0)), (1, .ref (ad 46 0)), (2, .ref (ad 9 0)), (3, .ref (ad 8 0)), (4, .int v4), (5, .int v5), (7, .int v7), (8, .int v8), (9, .int v9)]) hx hb dL_law_727 hl (by decide) rfl (fun ls hl => ?_)
          exact L_lp_L_law_729 v4 v5 (s1 + s0) v7 _ (fun w_130 u9_130 hf H locs ls hP hS hl => P_f_L_law_777_645 v4 v5 _ hrc _ hk w_130 (s1 + s0) v7 u9_130 hf _ _ ls hP hS (lv_sub hl [0, 1, 2, 3, 4, 5, 6, 7] rfl)) N z128.1 v9 (0 : Int32) hf _ _ ls hP hS (lv_sub hl [2, 3, 4, 5, 6, 1, 7, 9, 0] rfl)
        · have hf := ifn hf c131
          refine lv_iconst (v := (0 : Int32)) hx hb dL_law_724 (by decide) ?_
          exact law_fin hx hb hr hlocks hS (congrArg Prod.snd (Option.some.inj hf)) dL_law_725
  have L_lp_L_law_645 : ∀ (v4 : Int32) (v5 : Int32) (k : Mem → Int32 → Option (Mem × Int32)) (hk : ∀ (w : Mem) (v6 : Int32), k w v6 = some (w', 1) → WPL p l e s m b below meth c D ca ad PL 798 [] [(1, .ref (ad 46 0)), (2, .ref (ad 9 0)), (3, .ref (ad 8 0)), (4, .int v4), (5, .int v5), (6, .int v6)] w) (n : Nat) (w : Mem) (v6 : Int32) (v7 : Int32), lp_L_law_645 k N  sx v4 v5 n w v6 v7 = some (w', 1) → WPL p l e s m b below meth c D ca ad PL 645 [] [(1, .ref (ad 46 0)), (2, .ref (ad 9 0)), (3, .ref (ad 8 0)), (4, .int v4), (5, .int v5), (6, .int v6), (7, .int v7)] w := by
    intro v4 v5 k hk n
    induction n with
    | zero => intro w v6 v7 hf; rw [lp_L_law_645] at hf; cases hf
    | succ n ih =>
      intro w v6 v7 hf _ _ ls hP hS hl
      rw [lp_L_law_645] at hf
      refine lv_iload hx hb dL_law_645 (lv_at hl 6 rfl) ?_
      refine lv_aload_n hx hb dL_law_647 rfl (lv_at hl 1 rfl) ?_
      refine gn_10_5 (i := 0) C hP (hok.2.1 9 0 (Nat.le_of_ble_eq_true rfl)) (hts0 _ nf_45) dL_law_648 ?_
      refine lv_icmp_ge (tgt := 798) hx hb dL_law_651 (by decide) (fun c135 => ?_) (fun c135 => ?_)
      · have hf := ifp hf c135
        exact hk w v6 hf _ _ ls hP hS (lv_sub hl [0, 1, 2, 3, 4, 5] rfl)
      · have hf := ifn hf c135
        refine lv_aload_n hx hb dL_law_654 rfl (lv_at hl 2 rfl) ?_
        refine lv_iload hx hb dL_law_655 (lv_at hl 6 rfl) ?_
        refine lv_iconst (v := (5 : Int32)) hx hb dL_law_657 (by decide) ?_
        obtain ⟨z107, q108, hf⟩ := bsp hf
        refine kc_V (ci := 8) (i := 0) (As := [.int v7, .int (5 : Int32)]) (rest := []) hok.2.2.1 C hP hS hl.1 (hok.2.1 8 0 (Nat.le_of_ble_eq_true rfl)) rfl rfl cw_X8_term ml_L_83 (c_X8_term l D ca ad PL Z A (okM_X hok) N w v7 (5 : Int32) z107.1 z107.2 q108) rfl ⟨rfl, rfl⟩ ⟨Nat.le_of_ble_eq_true rfl, Nat.le_of_ble_eq_true rfl⟩ ⟨Nat.le_refl _, Nat.le_refl _⟩ (Nat.le_of_ble_eq_true rfl) rfl dL_law_658 (fun H locs hP hS => ?_)
        refine lv_istore (lv' := [(8, .int z107.2), (1, .ref (ad 46 0)), (2, .ref (ad 9 0)), (3, .ref (ad 8 0)), (4, .int v4), (5, .int v5), (6, .int v6), (7, .int v7)]) hx hb dL_law_661 hl (by decide) rfl (fun ls hl => ?_)
        refine lv_iconst (v := (0 : Int32)) hx hb dL_law_663 (by decide) ?_
        refine lv_istore (lv' := [(9, .int (0 : Int32)), (8, .int z107.2), (1, .ref (ad 46 0)), (2, .ref (ad 9 0)), (3, .ref (ad 8 0)), (4, .int v4), (5, .int v5), (6, .int v6), (7, .int v7)]) hx hb dL_law_664 hl (by decide) rfl (fun ls hl => ?_)
        refine lv_iload hx hb dL_law_666 (lv_at hl 7 rfl) ?_
        refine lv_iload hx hb dL_law_668 (lv_at hl 1 rfl) ?_
        refine lv_bipush (v := (-2 : Int32)) hx hb dL_law_670 (by decide) ?_
        refine lv_icmp_ne (tgt := 679) hx hb dL_law_672 (by decide) (fun c134 => ?_) (fun c134 => ?_)
        · have hf := ifn hf c134
          refine lv_iconst (v := (0 : Int32)) hx hb dL_law_679 (by decide) ?_
          exact P_f_L_law_680_645_s2 v4 v5 _ ih _ hk z107.1 v7 z107.2 (0 : Int32) (0 : Int32) v6 hf _ _ ls hP hS (lv_sub hl [2, 3, 4, 5, 6, 8, 1, 0] rfl)
        · have hf := ifp hf c134
          refine lv_iconst (v := (1 : Int32)) hx hb dL_law_675 (by decide) ?_
          refine lv_goto (tgt := 680) hx hb dL_law_676 (by decide) ?_
          exact P_f_L_law_680_645_s2 v4 v5 _ ih _ hk z107.1 v7 z107.2 (0 : Int32) (1 : Int32) v6 hf _ _ ls hP hS (lv_sub hl [2, 3, 4, 5, 6, 8, 1, 0] rfl)
  have P_f_L_law_611 : ∀ (w : Mem) (v4 : Int32) (v5 : Int32), f_L_law_611 N w sx v4 v5  = some (w', 1) → WPL p l e s m b below meth c D ca ad PL 611 [] [(1, .ref (ad 46 0)), (2, .ref (ad 9 0)), (3, .ref (ad 8 0)), (4, .int v4), (5, .int v5)] w := by
    intro w v4 v5 hf _ _ ls hP hS hl
    unfold f_L_law_611 at hf
    refine lv_aload_n hx hb dL_law_611 rfl (lv_at hl 2 rfl) ?_
    refine lv_iconst (v := (4 : Int32)) hx hb dL_law_612 (by decide) ?_
    obtain ⟨z13, q14, hf⟩ := bsp hf
    refine kc_V (ci := 8) (i := 0) (As := [.int (4 : Int32)]) (rest := []) hok.2.2.1 C hP hS hl.1 (hok.2.1 8 0 (Nat.le_of_ble_eq_true rfl)) rfl rfl cw_X8_about ml_L_49 (c_X8_about l D ca ad PL Z A (okM_X hok) N w (4 : Int32) z13.1 z13.2 q14) rfl ⟨rfl, rfl⟩ ⟨Nat.le_of_ble_eq_true rfl, Nat.le_of_ble_eq_true rfl⟩ ⟨Nat.le_refl _, Nat.le_refl _⟩ (Nat.le_of_ble_eq_true rfl) rfl dL_law_613 (fun H locs hP hS => ?_)
    refine lv_iload hx hb dL_law_616 (lv_at hl 4 rfl) ?_
    refine lv_icmp_ne (tgt := 637) hx hb dL_law_618 (by decide) (fun c137 => ?_) (fun c137 => ?_)
    · have hf := ifn hf c137
      refine lv_iconst (v := (0 : Int32)) hx hb dL_law_637 (by decide) ?_
      exact law_fin hx hb hr hlocks hS (congrArg Prod.snd (Option.some.inj hf)) dL_law_638
    · have hf := ifp hf c137
      refine lv_aload_n hx hb dL_law_621 rfl (lv_at hl 2 rfl) ?_
      refine lv_bipush (v := (6 : Int32)) hx hb dL_law_622 (by decide) ?_
      obtain ⟨z15, q16, hf⟩ := bsp hf
      refine kc_V (ci := 8) (i := 0) (As := [.int (6 : Int32)]) (rest := []) hok.2.2.1 C hP hS hl.1 (hok.2.1 8 0 (Nat.le_of_ble_eq_true rfl)) rfl rfl cw_X8_about ml_L_49 (c_X8_about l D ca ad PL Z A (okM_X hok) N z13.1 (6 : Int32) z15.1 z15.2 q16) rfl ⟨rfl, rfl⟩ ⟨Nat.le_of_ble_eq_true rfl, Nat.le_of_ble_eq_true rfl⟩ ⟨Nat.le_refl _, Nat.le_refl _⟩ (Nat.le_of_ble_eq_true rfl) rfl dL_law_624 (fun H locs hP hS => ?_)
      refine lv_aload_n hx hb dL_law_627 rfl (lv_at hl 1 rfl) ?_
      refine gn_10_5 (i := 0) C hP (hok.2.1 9 0 (Nat.le_of_ble_eq_true rfl)) (hts0 _ nf_45) dL_law_628 ?_
      refine lv_iload hx hb dL_law_631 (lv_at hl 4 rfl) ?_
      refine lv_isub hx hb dL_law_633 ?_
      refine lv_icmp_eq (tgt := 639) hx hb dL_law_634 (by decide) (fun c136 => ?_) (fun c136 => ?_)
      · have hf := ifp hf c136
        refine lv_iconst (v := (0 : Int32)) hx hb dL_law_639 (by decide) ?_
        refine lv_istore (lv' := [(6, .int (0 : Int32)), (1, .ref (ad 46 0)), (2, .ref (ad 9 0)), (3, .ref (ad 8 0)), (4, .int v4), (5, .int v5)]) hx hb dL_law_640 hl (by decide) rfl (fun ls hl => ?_)
        refine lv_iconst (v := (0 : Int32)) hx hb dL_law_642 (by decide) ?_
        refine lv_istore (lv' := [(7, .int (0 : Int32)), (6, .int (0 : Int32)), (1, .ref (ad 46 0)), (2, .ref (ad 9 0)), (3, .ref (ad 8 0)), (4, .int v4), (5, .int v5)]) hx hb dL_law_643 hl (by decide) rfl (fun ls hl => ?_)
        exact L_lp_L_law_645 v4 v5 _ (fun w_17 u6_17 hf H locs ls hP hS hl => P_f_L_law_798 w_17 v4 v5 u6_17 hf _ _ ls hP hS (lv_sub hl [0, 1, 2, 3, 4, 5] rfl)) N z15.1 (0 : Int32) (0 : Int32) hf _ _ ls hP hS (lv_sub hl [2, 3, 4, 5, 6, 1, 0] rfl)
      · have hf := ifn hf c136
        refine lv_iconst (v := (0 : Int32)) hx hb dL_law_637 (by decide) ?_
        exact law_fin hx hb hr hlocks hS (congrArg Prod.snd (Option.some.inj hf)) dL_law_638
  have P_f_L_law_555_220_s2 : ∀ (v4 : Int32) (rc : Mem → Int32 → Int32 → Option (Mem × Int32)) (hrc : ∀ (w : Mem) (v5 : Int32) (v6 : Int32), rc w v5 v6 = some (w', 1) → WPL p l e s m b below meth c D ca ad PL 220 [] [(1, .ref (ad 46 0)), (2, .ref (ad 9 0)), (3, .ref (ad 8 0)), (4, .int v4), (5, .int v5), (6, .int v6)] w) (k : Mem → Int32 → Option (Mem × Int32)) (hk : ∀ (w : Mem) (v5 : Int32), k w v5 = some (w', 1) → WPL p l e s m b below meth c D ca ad PL 611 [] [(1, .ref (ad 46 0)), (2, .ref (ad 9 0)), (3, .ref (ad 8 0)), (4, .int v4), (5, .int v5)] w) (w : Mem) (v5 : Int32) (v6 : Int32) (s0 : Int32) (s1 : Int32), f_L_law_555_220_s2 rc k N w sx v4 v5 v6 s0 s1 = some (w', 1) → WPL p l e s m b below meth c D ca ad PL 555 [.int s0, .int s1] [(1, .ref (ad 46 0)), (2, .ref (ad 9 0)), (3, .ref (ad 8 0)), (4, .int v4), (5, .int v5), (6, .int v6)] w := by
    intro v4 rc hrc k hk w v5 v6 s0 s1 hf _ _ ls hP hS hl
    unfold f_L_law_555_220_s2 at hf
    refine lv_icmp_ne (tgt := 603) hx hb dL_law_555 (by decide) (fun c166 => ?_) (fun c166 => ?_)
    · have hf := ifn hf c166
      refine lv_iconst (v := (0 : Int32)) hx hb dL_law_603 (by decide) ?_
      exact law_fin hx hb hr hlocks hS (congrArg Prod.snd (Option.some.inj hf)) dL_law_604
    · have hf := ifp hf c166
      refine lv_aload_n hx hb dL_law_558 rfl (lv_at hl 2 rfl) ?_
      refine lv_iload hx hb dL_law_559 (lv_at hl 5 rfl) ?_
      refine lv_iconst (v := (1 : Int32)) hx hb dL_law_561 (by decide) ?_
      obtain ⟨z154, q155, hf⟩ := bsp hf
      refine kc_V (ci := 8) (i := 0) (As := [.int v6, .int (1 : Int32)]) (rest := []) hok.2.2.1 C hP hS hl.1 (hok.2.1 8 0 (Nat.le_of_ble_eq_true rfl)) rfl rfl cw_X8_partOf ml_L_86 (c_X8_partOf l D ca ad PL Z A (okM_X hok) N w v6 (1 : Int32) z154.1 z154.2 q155) rfl ⟨rfl, rfl⟩ ⟨Nat.le_of_ble_eq_true rfl, Nat.le_of_ble_eq_true rfl⟩ ⟨Nat.le_refl _, Nat.le_refl _⟩ (Nat.le_of_ble_eq_true rfl) rfl dL_law_562 (fun H locs hP hS => ?_)
      refine lv_aload_n hx hb dL_law_565 rfl (lv_at hl 1 rfl) ?_
      refine gn_10_0 (i := 0) C hP (hok.2.1 9 0 (Nat.le_of_ble_eq_true rfl)) (hts0 _ nf_71) dL_law_566 ?_
      refine lv_iload hx hb dL_law_569 (lv_at hl 5 rfl) ?_
      obtain ⟨b156, hf⟩ := gsp hf
      refine ra_ild (k := 40) (i := 0) (n := 12) (f := (gA z154.1 40 0)) C hP (hok.2.1 40 0 (Nat.le_of_ble_eq_true rfl)) rfl b156 dL_law_571 ?_
      refine lv_iconst (v := (4 : Int32)) hx hb dL_law_572 (by decide) ?_
      refine lv_icmp_ne (tgt := 586) hx hb dL_law_573 (by decide) (fun c165 => ?_) (fun c165 => ?_)
      · have hf := ifn hf c165
        refine lv_bipush (v := (-2 : Int32)) hx hb dL_law_586 (by decide) ?_
        refine lv_icmp_ne (tgt := 603) hx hb dL_law_588 (by decide) (fun c160 => ?_) (fun c160 => ?_)
        · have hf := ifn hf c160
          refine lv_iconst (v := (0 : Int32)) hx hb dL_law_603 (by decide) ?_
          exact law_fin hx hb hr hlocks hS (congrArg Prod.snd (Option.some.inj hf)) dL_law_604
        · have hf := ifp hf c160
          refine lv_aload_n hx hb dL_law_591 rfl (lv_at hl 2 rfl) ?_
          refine lv_iload hx hb dL_law_592 (lv_at hl 5 rfl) ?_
          refine lv_iconst (v := (3 : Int32)) hx hb dL_law_594 (by decide) ?_
          obtain ⟨z157, q158, hf⟩ := bsp hf
          refine kc_V (ci := 8) (i := 0) (As := [.int v6, .int (3 : Int32)]) (rest := []) hok.2.2.1 C hP hS hl.1 (hok.2.1 8 0 (Nat.le_of_ble_eq_true rfl)) rfl rfl cw_X8_partOf ml_L_86 (c_X8_partOf l D ca ad PL Z A (okM_X hok) N z154.1 v6 (3 : Int32) z157.1 z157.2 q158) rfl ⟨rfl, rfl⟩ ⟨Nat.le_of_ble_eq_true rfl, Nat.le_of_ble_eq_true rfl⟩ ⟨Nat.le_refl _, Nat.le_refl _⟩ (Nat.le_of_ble_eq_true rfl) rfl dL_law_595 (fun H locs hP hS => ?_)
          refine lv_bipush (v := (-2 : Int32)) hx hb dL_law_598 (by decide) ?_
          refine lv_icmp_eq (tgt := 605) hx hb dL_law_600 (by decide) (fun c159 => ?_) (fun c159 => ?_)
          · have hf := ifp hf c159
            refine lv_iinc (v := (v6 + (1 : Int32))) (lv' := [(6, .int (v6 + (1 : Int32))), (1, .ref (ad 46 0)), (2, .ref (ad 9 0)), (3, .ref (ad 8 0)), (4, .int v4), (5, .int v5)]) hx hb dL_law_605 hl (k := 5) rfl rfl (by decide) rfl (fun ls hl => ?_)
            refine lv_goto (tgt := 220) hx hb dL_law_608 (by decide) ?_
            exact hrc z157.1 v5 (v6 + (1 : Int32)) hf _ _ ls hP hS (lv_sub hl [1, 2, 3, 4, 5, 0] rfl)
          · have hf := ifn hf c159
            refine lv_iconst (v := (0 : Int32)) hx hb dL_law_603 (by decide) ?_
            exact law_fin hx hb hr hlocks hS (congrArg Prod.snd (Option.some.inj hf)) dL_law_604
      · have hf := ifp hf c165
        refine lv_aload_n hx hb dL_law_576 rfl (lv_at hl 1 rfl) ?_
        refine gn_10_2 (i := 0) C hP (hok.2.1 9 0 (Nat.le_of_ble_eq_true rfl)) (hts0 _ nf_77) dL_law_577 ?_
        refine lv_iload hx hb dL_law_580 (lv_at hl 5 rfl) ?_
        refine ra_ild (k := 42) (i := 0) (n := 12) (f := (gA z154.1 42 0)) C hP (hok.2.1 42 0 (Nat.le_of_ble_eq_true rfl)) rfl b156 dL_law_582 ?_
        refine lv_goto (tgt := 588) hx hb dL_law_583 (by decide) ?_
        refine lv_icmp_ne (tgt := 603) hx hb dL_law_588 (by decide) (fun c164 => ?_) (fun c164 => ?_)
        · have hf := ifn hf c164
          refine lv_iconst (v := (0 : Int32)) hx hb dL_law_603 (by decide) ?_
          exact law_fin hx hb hr hlocks hS (congrArg Prod.snd (Option.some.inj hf)) dL_law_604
        · have hf := ifp hf c164
          refine lv_aload_n hx hb dL_law_591 rfl (lv_at hl 2 rfl) ?_
          refine lv_iload hx hb dL_law_592 (lv_at hl 5 rfl) ?_
          refine lv_iconst (v := (3 : Int32)) hx hb dL_law_594 (by decide) ?_
          obtain ⟨z161, q162, hf⟩ := bsp hf
          refine kc_V (ci := 8) (i := 0) (As := [.int v6, .int (3 : Int32)]) (rest := []) hok.2.2.1 C hP hS hl.1 (hok.2.1 8 0 (Nat.le_of_ble_eq_true rfl)) rfl rfl cw_X8_partOf ml_L_86 (c_X8_partOf l D ca ad PL Z A (okM_X hok) N z154.1 v6 (3 : Int32) z161.1 z161.2 q162) rfl ⟨rfl, rfl⟩ ⟨Nat.le_of_ble_eq_true rfl, Nat.le_of_ble_eq_true rfl⟩ ⟨Nat.le_refl _, Nat.le_refl _⟩ (Nat.le_of_ble_eq_true rfl) rfl dL_law_595 (fun H locs hP hS => ?_)
          refine lv_bipush (v := (-2 : Int32)) hx hb dL_law_598 (by decide) ?_
          refine lv_icmp_eq (tgt := 605) hx hb dL_law_600 (by decide) (fun c163 => ?_) (fun c163 => ?_)
          · have hf := ifp hf c163
            refine lv_iinc (v := (v6 + (1 : Int32))) (lv' := [(6, .int (v6 + (1 : Int32))), (1, .ref (ad 46 0)), (2, .ref (ad 9 0)), (3, .ref (ad 8 0)), (4, .int v4), (5, .int v5)]) hx hb dL_law_605 hl (k := 5) rfl rfl (by decide) rfl (fun ls hl => ?_)
            refine lv_goto (tgt := 220) hx hb dL_law_608 (by decide) ?_
            exact hrc z161.1 v5 (v6 + (1 : Int32)) hf _ _ ls hP hS (lv_sub hl [1, 2, 3, 4, 5, 0] rfl)
          · have hf := ifn hf c163
            refine lv_iconst (v := (0 : Int32)) hx hb dL_law_603 (by decide) ?_
            exact law_fin hx hb hr hlocks hS (congrArg Prod.snd (Option.some.inj hf)) dL_law_604
  have P_f_L_law_525_220 : ∀ (v4 : Int32) (rc : Mem → Int32 → Int32 → Option (Mem × Int32)) (hrc : ∀ (w : Mem) (v5 : Int32) (v6 : Int32), rc w v5 v6 = some (w', 1) → WPL p l e s m b below meth c D ca ad PL 220 [] [(1, .ref (ad 46 0)), (2, .ref (ad 9 0)), (3, .ref (ad 8 0)), (4, .int v4), (5, .int v5), (6, .int v6)] w) (k : Mem → Int32 → Option (Mem × Int32)) (hk : ∀ (w : Mem) (v5 : Int32), k w v5 = some (w', 1) → WPL p l e s m b below meth c D ca ad PL 611 [] [(1, .ref (ad 46 0)), (2, .ref (ad 9 0)), (3, .ref (ad 8 0)), (4, .int v4), (5, .int v5)] w) (w : Mem) (v5 : Int32) (v6 : Int32), f_L_law_525_220 rc k N w sx v4 v5 v6  = some (w', 1) → WPL p l e s m b below meth c D ca ad PL 525 [] [(1, .ref (ad 46 0)), (2, .ref (ad 9 0)), (3, .ref (ad 8 0)), (4, .int v4), (5, .int v5), (6, .int v6)] w := by
    intro v4 rc hrc k hk w v5 v6 hf _ _ ls hP hS hl
    unfold f_L_law_525_220 at hf
    refine lv_aload_n hx hb dL_law_525 rfl (lv_at hl 2 rfl) ?_
    refine lv_iload hx hb dL_law_526 (lv_at hl 5 rfl) ?_
    refine lv_iconst (v := (0 : Int32)) hx hb dL_law_528 (by decide) ?_
    obtain ⟨z151, q152, hf⟩ := bsp hf
    refine kc_V (ci := 8) (i := 0) (As := [.int v6, .int (0 : Int32)]) (rest := []) hok.2.2.1 C hP hS hl.1 (hok.2.1 8 0 (Nat.le_of_ble_eq_true rfl)) rfl rfl cw_X8_partOf ml_L_86 (c_X8_partOf l D ca ad PL Z A (okM_X hok) N w v6 (0 : Int32) z151.1 z151.2 q152) rfl ⟨rfl, rfl⟩ ⟨Nat.le_of_ble_eq_true rfl, Nat.le_of_ble_eq_true rfl⟩ ⟨Nat.le_refl _, Nat.le_refl _⟩ (Nat.le_of_ble_eq_true rfl) rfl dL_law_529 (fun H locs hP hS => ?_)
    refine lv_aload_n hx hb dL_law_532 rfl (lv_at hl 1 rfl) ?_
    refine gn_10_0 (i := 0) C hP (hok.2.1 9 0 (Nat.le_of_ble_eq_true rfl)) (hts0 _ nf_71) dL_law_533 ?_
    refine lv_iload hx hb dL_law_536 (lv_at hl 5 rfl) ?_
    obtain ⟨b153, hf⟩ := gsp hf
    refine ra_ild (k := 40) (i := 0) (n := 12) (f := (gA z151.1 40 0)) C hP (hok.2.1 40 0 (Nat.le_of_ble_eq_true rfl)) rfl b153 dL_law_538 ?_
    refine lv_iconst (v := (2 : Int32)) hx hb dL_law_539 (by decide) ?_
    refine lv_icmp_le (tgt := 553) hx hb dL_law_540 (by decide) (fun c167 => ?_) (fun c167 => ?_)
    · have hf := ifp hf c167
      refine lv_bipush (v := (-2 : Int32)) hx hb dL_law_553 (by decide) ?_
      exact P_f_L_law_555_220_s2 v4 _ hrc _ hk z151.1 v5 v6 (-2 : Int32) z151.2 hf _ _ ls hP hS (lv_sub hl [0, 1, 2, 3, 4, 5] rfl)
    · have hf := ifn hf c167
      refine lv_aload_n hx hb dL_law_543 rfl (lv_at hl 1 rfl) ?_
      refine gn_10_1 (i := 0) C hP (hok.2.1 9 0 (Nat.le_of_ble_eq_true rfl)) (hts0 _ nf_74) dL_law_544 ?_
      refine lv_iload hx hb dL_law_547 (lv_at hl 5 rfl) ?_
      refine ra_ild (k := 41) (i := 0) (n := 12) (f := (gA z151.1 41 0)) C hP (hok.2.1 41 0 (Nat.le_of_ble_eq_true rfl)) rfl b153 dL_law_549 ?_
      refine lv_goto (tgt := 555) hx hb dL_law_550 (by decide) ?_
      exact P_f_L_law_555_220_s2 v4 _ hrc _ hk z151.1 v5 v6 (gA z151.1 41 0 v6.toNatClampNeg) z151.2 hf _ _ ls hP hS (lv_sub hl [0, 1, 2, 3, 4, 5] rfl)
  have P_f_L_law_422_220_s2 : ∀ (v4 : Int32) (rc : Mem → Int32 → Int32 → Option (Mem × Int32)) (hrc : ∀ (w : Mem) (v5 : Int32) (v6 : Int32), rc w v5 v6 = some (w', 1) → WPL p l e s m b below meth c D ca ad PL 220 [] [(1, .ref (ad 46 0)), (2, .ref (ad 9 0)), (3, .ref (ad 8 0)), (4, .int v4), (5, .int v5), (6, .int v6)] w) (k : Mem → Int32 → Option (Mem × Int32)) (hk : ∀ (w : Mem) (v5 : Int32), k w v5 = some (w', 1) → WPL p l e s m b below meth c D ca ad PL 611 [] [(1, .ref (ad 46 0)), (2, .ref (ad 9 0)), (3, .ref (ad 8 0)), (4, .int v4), (5, .int v5)] w) (w : Mem) (v6 : Int32) (v7 : Int32) (v8 : Int32) (s0 : Int32) (s1 : Int32), f_L_law_422_220_s2 rc k N w sx v4 v6 v7 v8 s0 s1 = some (w', 1) → WPL p l e s m b below meth c D ca ad PL 422 [.int s0, .int s1] [(1, .ref (ad 46 0)), (2, .ref (ad 9 0)), (3, .ref (ad 8 0)), (4, .int v4), (6, .int v6), (7, .int v7), (8, .int v8)] w := by
    intro v4 rc hrc k hk w v6 v7 v8 s0 s1 hf _ _ ls hP hS hl
    unfold f_L_law_422_220_s2 at hf
    refine lv_iadd hx hb dL_law_422 ?_
    refine lv_istore (lv' := [(5, .int (s1 + s0)), (1, .ref (ad 46 0)), (2, .ref (ad 9 0)), (3, .ref (ad 8 0)), (4, .int v4), (6, .int v6), (7, .int v7), (8, .int v8)]) hx hb dL_law_423 hl (by decide) rfl (fun ls hl => ?_)
    refine lv_aload_n hx hb dL_law_425 rfl (lv_at hl 3 rfl) ?_
    refine lv_iload hx hb dL_law_426 (lv_at hl 5 rfl) ?_
    refine lv_iconst (v := (5 : Int32)) hx hb dL_law_428 (by decide) ?_
    obtain ⟨z140, q141, hf⟩ := bsp hf
    refine kc_V (ci := 8) (i := 0) (As := [.int v6, .int (5 : Int32)]) (rest := []) hok.2.2.1 C hP hS hl.1 (hok.2.1 8 0 (Nat.le_of_ble_eq_true rfl)) rfl rfl cw_X8_term ml_L_83 (c_X8_term l D ca ad PL Z A (okM_X hok) N w v6 (5 : Int32) z140.1 z140.2 q141) rfl ⟨rfl, rfl⟩ ⟨Nat.le_of_ble_eq_true rfl, Nat.le_of_ble_eq_true rfl⟩ ⟨Nat.le_refl _, Nat.le_refl _⟩ (Nat.le_of_ble_eq_true rfl) rfl dL_law_429 (fun H locs hP hS => ?_)
    refine lv_istore (lv' := [(9, .int z140.2), (5, .int (s1 + s0)), (1, .ref (ad 46 0)), (2, .ref (ad 9 0)), (3, .ref (ad 8 0)), (4, .int v4), (6, .int v6), (7, .int v7), (8, .int v8)]) hx hb dL_law_432 hl (by decide) rfl (fun ls hl => ?_)
    refine lv_aload_n hx hb dL_law_434 rfl (lv_at hl 4 rfl) ?_
    refine lv_iload hx hb dL_law_435 (lv_at hl 6 rfl) ?_
    refine lv_iconst (v := (0 : Int32)) hx hb dL_law_437 (by decide) ?_
    obtain ⟨z142, q143, hf⟩ := bsp hf
    refine kc_V (ci := 8) (i := 0) (As := [.int v6, .int (0 : Int32)]) (rest := []) hok.2.2.1 C hP hS hl.1 (hok.2.1 8 0 (Nat.le_of_ble_eq_true rfl)) rfl rfl cw_X8_term ml_L_83 (c_X8_term l D ca ad PL Z A (okM_X hok) N z140.1 v6 (0 : Int32) z142.1 z142.2 q143) rfl ⟨rfl, rfl⟩ ⟨Nat.le_of_ble_eq_true rfl, Nat.le_of_ble_eq_true rfl⟩ ⟨Nat.le_refl _, Nat.le_refl _⟩ (Nat.le_of_ble_eq_true rfl) rfl dL_law_438 (fun H locs hP hS => ?_)
    refine lv_aload_n hx hb dL_law_441 rfl (lv_at hl 3 rfl) ?_
    refine gn_10_0 (i := 0) C hP (hok.2.1 9 0 (Nat.le_of_ble_eq_true rfl)) (hts0 _ nf_71) dL_law_442 ?_
    refine lv_iload hx hb dL_law_445 (lv_at hl 6 rfl) ?_
    obtain ⟨b144, hf⟩ := gsp hf
    refine ra_ild (k := 40) (i := 0) (n := 12) (f := (gA z142.1 40 0)) C hP (hok.2.1 40 0 (Nat.le_of_ble_eq_true rfl)) rfl b144 dL_law_447 ?_
    refine lv_icmp_ne (tgt := 523) hx hb dL_law_448 (by decide) (fun c175 => ?_) (fun c175 => ?_)
    · have hf := ifn hf c175
      refine lv_iconst (v := (0 : Int32)) hx hb dL_law_523 (by decide) ?_
      exact law_fin hx hb hr hlocks hS (congrArg Prod.snd (Option.some.inj hf)) dL_law_524
    · have hf := ifp hf c175
      refine lv_aload_n hx hb dL_law_451 rfl (lv_at hl 4 rfl) ?_
      refine lv_iload hx hb dL_law_452 (lv_at hl 6 rfl) ?_
      refine lv_iconst (v := (1 : Int32)) hx hb dL_law_454 (by decide) ?_
      obtain ⟨z145, q146, hf⟩ := bsp hf
      refine kc_V (ci := 8) (i := 0) (As := [.int v6, .int (1 : Int32)]) (rest := []) hok.2.2.1 C hP hS hl.1 (hok.2.1 8 0 (Nat.le_of_ble_eq_true rfl)) rfl rfl cw_X8_term ml_L_83 (c_X8_term l D ca ad PL Z A (okM_X hok) N z142.1 v6 (1 : Int32) z145.1 z145.2 q146) rfl ⟨rfl, rfl⟩ ⟨Nat.le_of_ble_eq_true rfl, Nat.le_of_ble_eq_true rfl⟩ ⟨Nat.le_refl _, Nat.le_refl _⟩ (Nat.le_of_ble_eq_true rfl) rfl dL_law_455 (fun H locs hP hS => ?_)
      refine lv_aload_n hx hb dL_law_458 rfl (lv_at hl 3 rfl) ?_
      refine gn_10_7 (i := 0) C hP (hok.2.1 9 0 (Nat.le_of_ble_eq_true rfl)) (hts0 _ nf_67) dL_law_459 ?_
      refine lv_iload hx hb dL_law_462 (lv_at hl 6 rfl) ?_
      refine ra_ild (k := 45) (i := 0) (n := 12) (f := (gA z145.1 45 0)) C hP (hok.2.1 45 0 (Nat.le_of_ble_eq_true rfl)) rfl b144 dL_law_464 ?_
      refine lv_icmp_ne (tgt := 523) hx hb dL_law_465 (by decide) (fun c174 => ?_) (fun c174 => ?_)
      · have hf := ifn hf c174
        refine lv_iconst (v := (0 : Int32)) hx hb dL_law_523 (by decide) ?_
        exact law_fin hx hb hr hlocks hS (congrArg Prod.snd (Option.some.inj hf)) dL_law_524
      · have hf := ifp hf c174
        refine lv_aload_n hx hb dL_law_468 rfl (lv_at hl 4 rfl) ?_
        refine lv_iload hx hb dL_law_469 (lv_at hl 6 rfl) ?_
        refine lv_iconst (v := (2 : Int32)) hx hb dL_law_471 (by decide) ?_
        obtain ⟨z147, q148, hf⟩ := bsp hf
        refine kc_V (ci := 8) (i := 0) (As := [.int v6, .int (2 : Int32)]) (rest := []) hok.2.2.1 C hP hS hl.1 (hok.2.1 8 0 (Nat.le_of_ble_eq_true rfl)) rfl rfl cw_X8_term ml_L_83 (c_X8_term l D ca ad PL Z A (okM_X hok) N z145.1 v6 (2 : Int32) z147.1 z147.2 q148) rfl ⟨rfl, rfl⟩ ⟨Nat.le_of_ble_eq_true rfl, Nat.le_of_ble_eq_true rfl⟩ ⟨Nat.le_refl _, Nat.le_refl _⟩ (Nat.le_of_ble_eq_true rfl) rfl dL_law_472 (fun H locs hP hS => ?_)
        refine lv_iload hx hb dL_law_475 (lv_at hl 7 rfl) ?_
        refine lv_icmp_ne (tgt := 523) hx hb dL_law_477 (by decide) (fun c173 => ?_) (fun c173 => ?_)
        · have hf := ifn hf c173
          refine lv_iconst (v := (0 : Int32)) hx hb dL_law_523 (by decide) ?_
          exact law_fin hx hb hr hlocks hS (congrArg Prod.snd (Option.some.inj hf)) dL_law_524
        · have hf := ifp hf c173
          refine lv_aload_n hx hb dL_law_480 rfl (lv_at hl 4 rfl) ?_
          refine lv_iload hx hb dL_law_481 (lv_at hl 6 rfl) ?_
          refine lv_iconst (v := (3 : Int32)) hx hb dL_law_483 (by decide) ?_
          obtain ⟨z149, q150, hf⟩ := bsp hf
          refine kc_V (ci := 8) (i := 0) (As := [.int v6, .int (3 : Int32)]) (rest := []) hok.2.2.1 C hP hS hl.1 (hok.2.1 8 0 (Nat.le_of_ble_eq_true rfl)) rfl rfl cw_X8_term ml_L_83 (c_X8_term l D ca ad PL Z A (okM_X hok) N z147.1 v6 (3 : Int32) z149.1 z149.2 q150) rfl ⟨rfl, rfl⟩ ⟨Nat.le_of_ble_eq_true rfl, Nat.le_of_ble_eq_true rfl⟩ ⟨Nat.le_refl _, Nat.le_refl _⟩ (Nat.le_of_ble_eq_true rfl) rfl dL_law_484 (fun H locs hP hS => ?_)
          refine lv_iload hx hb dL_law_487 (lv_at hl 8 rfl) ?_
          refine lv_icmp_ne (tgt := 523) hx hb dL_law_489 (by decide) (fun c172 => ?_) (fun c172 => ?_)
          · have hf := ifn hf c172
            refine lv_iconst (v := (0 : Int32)) hx hb dL_law_523 (by decide) ?_
            exact law_fin hx hb hr hlocks hS (congrArg Prod.snd (Option.some.inj hf)) dL_law_524
          · have hf := ifp hf c172
            refine lv_iload hx hb dL_law_492 (lv_at hl 0 rfl) ?_
            refine lv_bipush (v := (-2 : Int32)) hx hb dL_law_494 (by decide) ?_
            refine lv_icmp_eq (tgt := 525) hx hb dL_law_496 (by decide) (fun c171 => ?_) (fun c171 => ?_)
            · have hf := ifp hf c171
              exact P_f_L_law_525_220 v4 _ hrc _ hk z149.1 (s1 + s0) v6 hf _ _ ls hP hS (lv_sub hl [2, 3, 4, 5, 1, 6] rfl)
            · have hf := ifn hf c171
              refine lv_aload_n hx hb dL_law_499 rfl (lv_at hl 3 rfl) ?_
              refine gn_10_7 (i := 0) C hP (hok.2.1 9 0 (Nat.le_of_ble_eq_true rfl)) (hts0 _ nf_67) dL_law_500 ?_
              refine lv_iload hx hb dL_law_503 (lv_at hl 0 rfl) ?_
              obtain ⟨b168, hf⟩ := gsp hf
              refine ra_ild (k := 45) (i := 0) (n := 12) (f := (gA z149.1 45 0)) C hP (hok.2.1 45 0 (Nat.le_of_ble_eq_true rfl)) rfl b168 dL_law_505 ?_
              refine lv_aload_n hx hb dL_law_506 rfl (lv_at hl 3 rfl) ?_
              refine gn_10_7 (i := 0) C hP (hok.2.1 9 0 (Nat.le_of_ble_eq_true rfl)) (hts0 _ nf_67) dL_law_507 ?_
              refine lv_iload hx hb dL_law_510 (lv_at hl 6 rfl) ?_
              refine ra_ild (k := 45) (i := 0) (n := 12) (f := (gA z149.1 45 0)) C hP (hok.2.1 45 0 (Nat.le_of_ble_eq_true rfl)) rfl b144 dL_law_512 ?_
              refine lv_icmp_ne (tgt := 523) hx hb dL_law_513 (by decide) (fun c170 => ?_) (fun c170 => ?_)
              · have hf := ifn hf c170
                refine lv_iconst (v := (0 : Int32)) hx hb dL_law_523 (by decide) ?_
                exact law_fin hx hb hr hlocks hS (congrArg Prod.snd (Option.some.inj hf)) dL_law_524
              · have hf := ifp hf c170
                refine lv_iload hx hb dL_law_516 (lv_at hl 0 rfl) ?_
                refine lv_iload hx hb dL_law_518 (lv_at hl 6 rfl) ?_
                refine lv_icmp_ne (tgt := 525) hx hb dL_law_520 (by decide) (fun c169 => ?_) (fun c169 => ?_)
                · have hf := ifn hf c169
                  exact P_f_L_law_525_220 v4 _ hrc _ hk z149.1 (s1 + s0) v6 hf _ _ ls hP hS (lv_sub hl [2, 3, 4, 5, 1, 6] rfl)
                · have hf := ifp hf c169
                  refine lv_iconst (v := (0 : Int32)) hx hb dL_law_523 (by decide) ?_
                  exact law_fin hx hb hr hlocks hS (congrArg Prod.snd (Option.some.inj hf)) dL_law_524
  have P_f_L_law_403_220 : ∀ (v4 : Int32) (rc : Mem → Int32 → Int32 → Option (Mem × Int32)) (hrc : ∀ (w : Mem) (v5 : Int32) (v6 : Int32), rc w v5 v6 = some (w', 1) → WPL p l e s m b below meth c D ca ad PL 220 [] [(1, .ref (ad 46 0)), (2, .ref (ad 9 0)), (3, .ref (ad 8 0)), (4, .int v4), (5, .int v5), (6, .int v6)] w) (k : Mem → Int32 → Option (Mem × Int32)) (hk : ∀ (w : Mem) (v5 : Int32), k w v5 = some (w', 1) → WPL p l e s m b below meth c D ca ad PL 611 [] [(1, .ref (ad 46 0)), (2, .ref (ad 9 0)), (3, .ref (ad 8 0)), (4, .int v4), (5, .int v5)] w) (w : Mem) (v5 : Int32) (v6 : Int32) (v7 : Int32) (v8 : Int32), f_L_law_403_220 rc k N w sx v4 v5 v6 v7 v8  = some (w', 1) → WPL p l e s m b below meth c D ca ad PL 403 [] [(1, .ref (ad 46 0)), (2, .ref (ad 9 0)), (3, .ref (ad 8 0)), (4, .int v4), (5, .int v5), (6, .int v6), (7, .int v7), (8, .int v8)] w := by
    intro v4 rc hrc k hk w v5 v6 v7 v8 hf _ _ ls hP hS hl
    unfold f_L_law_403_220 at hf
    refine lv_iload hx hb dL_law_403 (lv_at hl 4 rfl) ?_
    refine lv_aload_n hx hb dL_law_405 rfl (lv_at hl 1 rfl) ?_
    refine gn_10_7 (i := 0) C hP (hok.2.1 9 0 (Nat.le_of_ble_eq_true rfl)) (hts0 _ nf_67) dL_law_406 ?_
    refine lv_iload hx hb dL_law_409 (lv_at hl 5 rfl) ?_
    obtain ⟨b139, hf⟩ := gsp hf
    refine ra_ild (k := 45) (i := 0) (n := 12) (f := (gA w 45 0)) C hP (hok.2.1 45 0 (Nat.le_of_ble_eq_true rfl)) rfl b139 dL_law_411 ?_
    refine lv_iload hx hb dL_law_412 (lv_at hl 5 rfl) ?_
    refine lv_icmp_ne (tgt := 421) hx hb dL_law_414 (by decide) (fun c176 => ?_) (fun c176 => ?_)
    · have hf := ifn hf c176
      refine lv_iconst (v := (0 : Int32)) hx hb dL_law_421 (by decide) ?_
      exact P_f_L_law_422_220_s2 v4 _ hrc _ hk w v6 v7 v8 (0 : Int32) v5 hf _ _ ls hP hS (lv_sub hl [0, 1, 2, 3, 5, 6, 7] rfl)
    · have hf := ifp hf c176
      refine lv_iconst (v := (1 : Int32)) hx hb dL_law_417 (by decide) ?_
      refine lv_goto (tgt := 422) hx hb dL_law_418 (by decide) ?_
      exact P_f_L_law_422_220_s2 v4 _ hrc _ hk w v6 v7 v8 (1 : Int32) v5 hf _ _ ls hP hS (lv_sub hl [0, 1, 2, 3, 5, 6, 7] rfl)
  have P_f_L_law_359_238_s2 : ∀ (v4 : Int32) (v5 : Int32) (v6 : Int32) (rc : Mem → Int32 → Int32 → Int32 → Option (Mem × Int32)) (hrc : ∀ (w : Mem) (v7 : Int32) (v8 : Int32) (v9 : Int32), rc w v7 v8 v9 = some (w', 1) → WPL p l e s m b below meth c D ca ad PL 238 [] [(1, .ref (ad 46 0)), (2, .ref (ad 9 0)), (3, .ref (ad 8 0)), (4, .int v4), (5, .int v5), (6, .int v6), (7, .int v7), (8, .int v8), (9, .int v9)] w) (k : Mem → Int32 → Int32 → Option (Mem × Int32)) (hk : ∀ (w : Mem) (v7 : Int32) (v8 : Int32), k w v7 v8 = some (w', 1) → WPL p l e s m b below meth c D ca ad PL 403 [] [(1, .ref (ad 46 0)), (2, .ref (ad 9 0)), (3, .ref (ad 8 0)), (4, .int v4), (5, .int v5), (6, .int v6), (7, .int v7), (8, .int v8)] w) (w : Mem) (v7 : Int32) (v9 : Int32) (s0 : Int32) (s1 : Int32), f_L_law_359_238_s2 rc k N w sx v4 v5 v6 v7 v9 s0 s1 = some (w', 1) → WPL p l e s m b below meth c D ca ad PL 359 [.int s0, .int s1] [(1, .ref (ad 46 0)), (2, .ref (ad 9 0)), (3, .ref (ad 8 0)), (4, .int v4), (5, .int v5), (6, .int v6), (7, .int v7), (9, .int v9)] w := by
    intro v4 v5 v6 rc hrc k hk w v7 v9 s0 s1 hf _ _ ls hP hS hl
    unfold f_L_law_359_238_s2 at hf
    refine lv_iadd hx hb dL_law_359 ?_
    refine lv_istore (lv' := [(8, .int (s1 + s0)), (1, .ref (ad 46 0)), (2, .ref (ad 9 0)), (3, .ref (ad 8 0)), (4, .int v4), (5, .int v5), (6, .int v6), (7, .int v7), (9, .int v9)]) hx hb dL_law_360 hl (by decide) rfl (fun ls hl => ?_)
    refine lv_aload_n hx hb dL_law_362 rfl (lv_at hl 3 rfl) ?_
    refine lv_iload hx hb dL_law_363 (lv_at hl 6 rfl) ?_
    refine lv_iload hx hb dL_law_365 (lv_at hl 8 rfl) ?_
    obtain ⟨z181, q182, hf⟩ := bsp hf
    refine kc_V (ci := 8) (i := 0) (As := [.int v6, .int v9]) (rest := []) hok.2.2.1 C hP hS hl.1 (hok.2.1 8 0 (Nat.le_of_ble_eq_true rfl)) rfl rfl cw_X8_equal ml_L_80 (c_X8_equal l D ca ad PL Z A (okM_X hok) N w v6 v9 z181.1 z181.2 q182) rfl ⟨rfl, rfl⟩ ⟨Nat.le_of_ble_eq_true rfl, Nat.le_of_ble_eq_true rfl⟩ ⟨Nat.le_refl _, Nat.le_refl _⟩ (Nat.le_of_ble_eq_true rfl) rfl dL_law_367 (fun H locs hP hS => ?_)
    refine lv_aload_n hx hb dL_law_370 rfl (lv_at hl 2 rfl) ?_
    refine gn_10_7 (i := 0) C hP (hok.2.1 9 0 (Nat.le_of_ble_eq_true rfl)) (hts0 _ nf_67) dL_law_371 ?_
    refine lv_iload hx hb dL_law_374 (lv_at hl 6 rfl) ?_
    obtain ⟨b183, hf⟩ := gsp hf
    refine ra_ild (k := 45) (i := 0) (n := 12) (f := (gA z181.1 45 0)) C hP (hok.2.1 45 0 (Nat.le_of_ble_eq_true rfl)) rfl b183 dL_law_376 ?_
    refine lv_aload_n hx hb dL_law_377 rfl (lv_at hl 2 rfl) ?_
    refine gn_10_7 (i := 0) C hP (hok.2.1 9 0 (Nat.le_of_ble_eq_true rfl)) (hts0 _ nf_67) dL_law_378 ?_
    refine lv_iload hx hb dL_law_381 (lv_at hl 8 rfl) ?_
    obtain ⟨b184, hf⟩ := gsp hf
    refine ra_ild (k := 45) (i := 0) (n := 12) (f := (gA z181.1 45 0)) C hP (hok.2.1 45 0 (Nat.le_of_ble_eq_true rfl)) rfl b184 dL_law_383 ?_
    refine lv_icmp_ne (tgt := 391) hx hb dL_law_384 (by decide) (fun c187 => ?_) (fun c187 => ?_)
    · have hf := ifn hf c187
      refine lv_iconst (v := (0 : Int32)) hx hb dL_law_391 (by decide) ?_
      refine lv_icmp_eq (tgt := 397) hx hb dL_law_392 (by decide) (fun c185 => ?_) (fun c185 => ?_)
      · have hf := ifp hf c185
        refine lv_iinc (v := (v9 + (1 : Int32))) (lv' := [(9, .int (v9 + (1 : Int32))), (8, .int (s1 + s0)), (1, .ref (ad 46 0)), (2, .ref (ad 9 0)), (3, .ref (ad 8 0)), (4, .int v4), (5, .int v5), (6, .int v6), (7, .int v7)]) hx hb dL_law_397 hl (k := 8) rfl rfl (by decide) rfl (fun ls hl => ?_)
        refine lv_goto (tgt := 238) hx hb dL_law_400 (by decide) ?_
        exact hrc z181.1 v7 (s1 + s0) (v9 + (1 : Int32)) hf _ _ ls hP hS (lv_sub hl [2, 3, 4, 5, 6, 7, 8, 1, 0] rfl)
      · have hf := ifn hf c185
        refine lv_iconst (v := (0 : Int32)) hx hb dL_law_395 (by decide) ?_
        exact law_fin hx hb hr hlocks hS (congrArg Prod.snd (Option.some.inj hf)) dL_law_396
    · have hf := ifp hf c187
      refine lv_iconst (v := (1 : Int32)) hx hb dL_law_387 (by decide) ?_
      refine lv_goto (tgt := 392) hx hb dL_law_388 (by decide) ?_
      refine lv_icmp_eq (tgt := 397) hx hb dL_law_392 (by decide) (fun c186 => ?_) (fun c186 => ?_)
      · have hf := ifp hf c186
        refine lv_iinc (v := (v9 + (1 : Int32))) (lv' := [(9, .int (v9 + (1 : Int32))), (8, .int (s1 + s0)), (1, .ref (ad 46 0)), (2, .ref (ad 9 0)), (3, .ref (ad 8 0)), (4, .int v4), (5, .int v5), (6, .int v6), (7, .int v7)]) hx hb dL_law_397 hl (k := 8) rfl rfl (by decide) rfl (fun ls hl => ?_)
        refine lv_goto (tgt := 238) hx hb dL_law_400 (by decide) ?_
        exact hrc z181.1 v7 (s1 + s0) (v9 + (1 : Int32)) hf _ _ ls hP hS (lv_sub hl [2, 3, 4, 5, 6, 7, 8, 1, 0] rfl)
      · have hf := ifn hf c186
        refine lv_iconst (v := (0 : Int32)) hx hb dL_law_395 (by decide) ?_
        exact law_fin hx hb hr hlocks hS (congrArg Prod.snd (Option.some.inj hf)) dL_law_396
  have P_f_L_law_307_238 : ∀ (v4 : Int32) (v5 : Int32) (v6 : Int32) (rc : Mem → Int32 → Int32 → Int32 → Option (Mem × Int32)) (hrc : ∀ (w : Mem) (v7 : Int32) (v8 : Int32) (v9 : Int32), rc w v7 v8 v9 = some (w', 1) → WPL p l e s m b below meth c D ca ad PL 238 [] [(1, .ref (ad 46 0)), (2, .ref (ad 9 0)), (3, .ref (ad 8 0)), (4, .int v4), (5, .int v5), (6, .int v6), (7, .int v7), (8, .int v8), (9, .int v9)] w) (k : Mem → Int32 → Int32 → Option (Mem × Int32)) (hk : ∀ (w : Mem) (v7 : Int32) (v8 : Int32), k w v7 v8 = some (w', 1) → WPL p l e s m b below meth c D ca ad PL 403 [] [(1, .ref (ad 46 0)), (2, .ref (ad 9 0)), (3, .ref (ad 8 0)), (4, .int v4), (5, .int v5), (6, .int v6), (7, .int v7), (8, .int v8)] w) (w : Mem) (v7 : Int32) (v8 : Int32) (v9 : Int32), f_L_law_307_238 rc k N w sx v4 v5 v6 v7 v8 v9  = some (w', 1) → WPL p l e s m b below meth c D ca ad PL 307 [] [(1, .ref (ad 46 0)), (2, .ref (ad 9 0)), (3, .ref (ad 8 0)), (4, .int v4), (5, .int v5), (6, .int v6), (7, .int v7), (8, .int v8), (9, .int v9)] w := by
    intro v4 v5 v6 rc hrc k hk w v7 v8 v9 hf _ _ ls hP hS hl
    unfold f_L_law_307_238 at hf
    refine lv_aload_n hx hb dL_law_307 rfl (lv_at hl 1 rfl) ?_
    refine gn_10_0 (i := 0) C hP (hok.2.1 9 0 (Nat.le_of_ble_eq_true rfl)) (hts0 _ nf_71) dL_law_308 ?_
    refine lv_iload hx hb dL_law_311 (lv_at hl 8 rfl) ?_
    obtain ⟨b180, hf⟩ := gsp hf
    refine ra_ild (k := 40) (i := 0) (n := 12) (f := (gA w 40 0)) C hP (hok.2.1 40 0 (Nat.le_of_ble_eq_true rfl)) rfl b180 dL_law_313 ?_
    refine lv_iconst (v := (4 : Int32)) hx hb dL_law_314 (by decide) ?_
    refine lv_icmp_ne (tgt := 344) hx hb dL_law_315 (by decide) (fun c194 => ?_) (fun c194 => ?_)
    · have hf := ifn hf c194
      refine lv_iconst (v := (0 : Int32)) hx hb dL_law_344 (by decide) ?_
      refine lv_istore (lv' := [(10, .int (0 : Int32)), (1, .ref (ad 46 0)), (2, .ref (ad 9 0)), (3, .ref (ad 8 0)), (4, .int v4), (5, .int v5), (6, .int v6), (7, .int v7), (8, .int v8), (9, .int v9)]) hx hb dL_law_345 hl (by decide) rfl (fun ls hl => ?_)
      refine lv_iload hx hb dL_law_347 (lv_at hl 8 rfl) ?_
      refine lv_iload hx hb dL_law_349 (lv_at hl 0 rfl) ?_
      refine lv_if_eq (tgt := 358) hx hb dL_law_351 (by decide) (fun c188 => ?_) (fun c188 => ?_)
      · have hf := ifp hf c188
        refine lv_iconst (v := (0 : Int32)) hx hb dL_law_358 (by decide) ?_
        exact P_f_L_law_359_238_s2 v4 v5 v6 _ hrc _ hk w v7 v9 (0 : Int32) v8 hf _ _ ls hP hS (lv_sub hl [1, 2, 3, 4, 5, 6, 7, 9] rfl)
      · have hf := ifn hf c188
        refine lv_iconst (v := (1 : Int32)) hx hb dL_law_354 (by decide) ?_
        refine lv_goto (tgt := 359) hx hb dL_law_355 (by decide) ?_
        exact P_f_L_law_359_238_s2 v4 v5 v6 _ hrc _ hk w v7 v9 (1 : Int32) v8 hf _ _ ls hP hS (lv_sub hl [1, 2, 3, 4, 5, 6, 7, 9] rfl)
    · have hf := ifp hf c194
      refine lv_aload_n hx hb dL_law_318 rfl (lv_at hl 1 rfl) ?_
      refine gn_10_7 (i := 0) C hP (hok.2.1 9 0 (Nat.le_of_ble_eq_true rfl)) (hts0 _ nf_67) dL_law_319 ?_
      refine lv_aload_n hx hb dL_law_322 rfl (lv_at hl 1 rfl) ?_
      refine gn_10_2 (i := 0) C hP (hok.2.1 9 0 (Nat.le_of_ble_eq_true rfl)) (hts0 _ nf_77) dL_law_323 ?_
      refine lv_iload hx hb dL_law_326 (lv_at hl 8 rfl) ?_
      refine ra_ild (k := 42) (i := 0) (n := 12) (f := (gA w 42 0)) C hP (hok.2.1 42 0 (Nat.le_of_ble_eq_true rfl)) rfl b180 dL_law_328 ?_
      obtain ⟨b189, hf⟩ := gsp hf
      refine ra_ild (k := 45) (i := 0) (n := 12) (f := (gA w 45 0)) C hP (hok.2.1 45 0 (Nat.le_of_ble_eq_true rfl)) rfl b189 dL_law_329 ?_
      refine lv_aload_n hx hb dL_law_330 rfl (lv_at hl 1 rfl) ?_
      refine gn_10_7 (i := 0) C hP (hok.2.1 9 0 (Nat.le_of_ble_eq_true rfl)) (hts0 _ nf_67) dL_law_331 ?_
      refine lv_iload hx hb dL_law_334 (lv_at hl 5 rfl) ?_
      obtain ⟨b190, hf⟩ := gsp hf
      refine ra_ild (k := 45) (i := 0) (n := 12) (f := (gA w 45 0)) C hP (hok.2.1 45 0 (Nat.le_of_ble_eq_true rfl)) rfl b190 dL_law_336 ?_
      refine lv_icmp_ne (tgt := 344) hx hb dL_law_337 (by decide) (fun c193 => ?_) (fun c193 => ?_)
      · have hf := ifn hf c193
        refine lv_iconst (v := (0 : Int32)) hx hb dL_law_344 (by decide) ?_
        refine lv_istore (lv' := [(10, .int (0 : Int32)), (1, .ref (ad 46 0)), (2, .ref (ad 9 0)), (3, .ref (ad 8 0)), (4, .int v4), (5, .int v5), (6, .int v6), (7, .int v7), (8, .int v8), (9, .int v9)]) hx hb dL_law_345 hl (by decide) rfl (fun ls hl => ?_)
        refine lv_iload hx hb dL_law_347 (lv_at hl 8 rfl) ?_
        refine lv_iload hx hb dL_law_349 (lv_at hl 0 rfl) ?_
        refine lv_if_eq (tgt := 358) hx hb dL_law_351 (by decide) (fun c191 => ?_) (fun c191 => ?_)
        · have hf := ifp hf c191
          refine lv_iconst (v := (0 : Int32)) hx hb dL_law_358 (by decide) ?_
          exact P_f_L_law_359_238_s2 v4 v5 v6 _ hrc _ hk w v7 v9 (0 : Int32) v8 hf _ _ ls hP hS (lv_sub hl [1, 2, 3, 4, 5, 6, 7, 9] rfl)
        · have hf := ifn hf c191
          refine lv_iconst (v := (1 : Int32)) hx hb dL_law_354 (by decide) ?_
          refine lv_goto (tgt := 359) hx hb dL_law_355 (by decide) ?_
          exact P_f_L_law_359_238_s2 v4 v5 v6 _ hrc _ hk w v7 v9 (1 : Int32) v8 hf _ _ ls hP hS (lv_sub hl [1, 2, 3, 4, 5, 6, 7, 9] rfl)
      · have hf := ifp hf c193
        refine lv_iconst (v := (1 : Int32)) hx hb dL_law_340 (by decide) ?_
        refine lv_goto (tgt := 345) hx hb dL_law_341 (by decide) ?_
        refine lv_istore (lv' := [(10, .int (1 : Int32)), (1, .ref (ad 46 0)), (2, .ref (ad 9 0)), (3, .ref (ad 8 0)), (4, .int v4), (5, .int v5), (6, .int v6), (7, .int v7), (8, .int v8), (9, .int v9)]) hx hb dL_law_345 hl (by decide) rfl (fun ls hl => ?_)
        refine lv_iload hx hb dL_law_347 (lv_at hl 8 rfl) ?_
        refine lv_iload hx hb dL_law_349 (lv_at hl 0 rfl) ?_
        refine lv_if_eq (tgt := 358) hx hb dL_law_351 (by decide) (fun c192 => ?_) (fun c192 => ?_)
        · have hf := ifp hf c192
          refine lv_iconst (v := (0 : Int32)) hx hb dL_law_358 (by decide) ?_
          exact P_f_L_law_359_238_s2 v4 v5 v6 _ hrc _ hk w v7 v9 (0 : Int32) v8 hf _ _ ls hP hS (lv_sub hl [1, 2, 3, 4, 5, 6, 7, 9] rfl)
        · have hf := ifn hf c192
          refine lv_iconst (v := (1 : Int32)) hx hb dL_law_354 (by decide) ?_
          refine lv_goto (tgt := 359) hx hb dL_law_355 (by decide) ?_
          exact P_f_L_law_359_238_s2 v4 v5 v6 _ hrc _ hk w v7 v9 (1 : Int32) v8 hf _ _ ls hP hS (lv_sub hl [1, 2, 3, 4, 5, 6, 7, 9] rfl)
  have P_f_L_law_271_238_s2 : ∀ (v4 : Int32) (v5 : Int32) (v6 : Int32) (rc : Mem → Int32 → Int32 → Int32 → Option (Mem × Int32)) (hrc : ∀ (w : Mem) (v7 : Int32) (v8 : Int32) (v9 : Int32), rc w v7 v8 v9 = some (w', 1) → WPL p l e s m b below meth c D ca ad PL 238 [] [(1, .ref (ad 46 0)), (2, .ref (ad 9 0)), (3, .ref (ad 8 0)), (4, .int v4), (5, .int v5), (6, .int v6), (7, .int v7), (8, .int v8), (9, .int v9)] w) (k : Mem → Int32 → Int32 → Option (Mem × Int32)) (hk : ∀ (w : Mem) (v7 : Int32) (v8 : Int32), k w v7 v8 = some (w', 1) → WPL p l e s m b below meth c D ca ad PL 403 [] [(1, .ref (ad 46 0)), (2, .ref (ad 9 0)), (3, .ref (ad 8 0)), (4, .int v4), (5, .int v5), (6, .int v6), (7, .int v7), (8, .int v8)] w) (w : Mem) (v8 : Int32) (v9 : Int32) (s0 : Int32) (s1 : Int32), f_L_law_271_238_s2 rc k N w sx v4 v5 v6 v8 v9 s0 s1 = some (w', 1) → WPL p l e s m b below meth c D ca ad PL 271 [.int s0, .int s1] [(1, .ref (ad 46 0)), (2, .ref (ad 9 0)), (3, .ref (ad 8 0)), (4, .int v4), (5, .int v5), (6, .int v6), (8, .int v8), (9, .int v9)] w := by
    intro v4 v5 v6 rc hrc k hk w v8 v9 s0 s1 hf _ _ ls hP hS hl
    unfold f_L_law_271_238_s2 at hf
    refine lv_iadd hx hb dL_law_271 ?_
    refine lv_istore (lv' := [(7, .int (s1 + s0)), (1, .ref (ad 46 0)), (2, .ref (ad 9 0)), (3, .ref (ad 8 0)), (4, .int v4), (5, .int v5), (6, .int v6), (8, .int v8), (9, .int v9)]) hx hb dL_law_272 hl (by decide) rfl (fun ls hl => ?_)
    refine lv_aload_n hx hb dL_law_274 rfl (lv_at hl 2 rfl) ?_
    refine gn_10_0 (i := 0) C hP (hok.2.1 9 0 (Nat.le_of_ble_eq_true rfl)) (hts0 _ nf_71) dL_law_275 ?_
    refine lv_iload hx hb dL_law_278 (lv_at hl 8 rfl) ?_
    obtain ⟨b179, hf⟩ := gsp hf
    refine ra_ild (k := 40) (i := 0) (n := 12) (f := (gA w 40 0)) C hP (hok.2.1 40 0 (Nat.le_of_ble_eq_true rfl)) rfl b179 dL_law_280 ?_
    refine lv_iconst (v := (2 : Int32)) hx hb dL_law_281 (by decide) ?_
    refine lv_icmp_le (tgt := 307) hx hb dL_law_282 (by decide) (fun c199 => ?_) (fun c199 => ?_)
    · have hf := ifp hf c199
      exact P_f_L_law_307_238 v4 v5 v6 _ hrc _ hk w (s1 + s0) v8 v9 hf _ _ ls hP hS (lv_sub hl [1, 2, 3, 4, 5, 6, 0, 7, 8] rfl)
    · have hf := ifn hf c199
      refine lv_aload_n hx hb dL_law_285 rfl (lv_at hl 2 rfl) ?_
      refine gn_10_7 (i := 0) C hP (hok.2.1 9 0 (Nat.le_of_ble_eq_true rfl)) (hts0 _ nf_67) dL_law_286 ?_
      refine lv_aload_n hx hb dL_law_289 rfl (lv_at hl 2 rfl) ?_
      refine gn_10_1 (i := 0) C hP (hok.2.1 9 0 (Nat.le_of_ble_eq_true rfl)) (hts0 _ nf_74) dL_law_290 ?_
      refine lv_iload hx hb dL_law_293 (lv_at hl 8 rfl) ?_
      refine ra_ild (k := 41) (i := 0) (n := 12) (f := (gA w 41 0)) C hP (hok.2.1 41 0 (Nat.le_of_ble_eq_true rfl)) rfl b179 dL_law_295 ?_
      obtain ⟨b195, hf⟩ := gsp hf
      refine ra_ild (k := 45) (i := 0) (n := 12) (f := (gA w 45 0)) C hP (hok.2.1 45 0 (Nat.le_of_ble_eq_true rfl)) rfl b195 dL_law_296 ?_
      refine lv_aload_n hx hb dL_law_297 rfl (lv_at hl 2 rfl) ?_
      refine gn_10_7 (i := 0) C hP (hok.2.1 9 0 (Nat.le_of_ble_eq_true rfl)) (hts0 _ nf_67) dL_law_298 ?_
      refine lv_iload hx hb dL_law_301 (lv_at hl 6 rfl) ?_
      obtain ⟨b196, hf⟩ := gsp hf
      refine ra_ild (k := 45) (i := 0) (n := 12) (f := (gA w 45 0)) C hP (hok.2.1 45 0 (Nat.le_of_ble_eq_true rfl)) rfl b196 dL_law_303 ?_
      refine lv_icmp_eq (tgt := 340) hx hb dL_law_304 (by decide) (fun c198 => ?_) (fun c198 => ?_)
      · have hf := ifp hf c198
        refine lv_iconst (v := (1 : Int32)) hx hb dL_law_340 (by decide) ?_
        refine lv_goto (tgt := 345) hx hb dL_law_341 (by decide) ?_
        refine lv_istore (lv' := [(10, .int (1 : Int32)), (7, .int (s1 + s0)), (1, .ref (ad 46 0)), (2, .ref (ad 9 0)), (3, .ref (ad 8 0)), (4, .int v4), (5, .int v5), (6, .int v6), (8, .int v8), (9, .int v9)]) hx hb dL_law_345 hl (by decide) rfl (fun ls hl => ?_)
        refine lv_iload hx hb dL_law_347 (lv_at hl 8 rfl) ?_
        refine lv_iload hx hb dL_law_349 (lv_at hl 0 rfl) ?_
        refine lv_if_eq (tgt := 358) hx hb dL_law_351 (by decide) (fun c197 => ?_) (fun c197 => ?_)
        · have hf := ifp hf c197
          refine lv_iconst (v := (0 : Int32)) hx hb dL_law_358 (by decide) ?_
          exact P_f_L_law_359_238_s2 v4 v5 v6 _ hrc _ hk w (s1 + s0) v9 (0 : Int32) v8 hf _ _ ls hP hS (lv_sub hl [2, 3, 4, 5, 6, 7, 1, 9] rfl)
        · have hf := ifn hf c197
          refine lv_iconst (v := (1 : Int32)) hx hb dL_law_354 (by decide) ?_
          refine lv_goto (tgt := 359) hx hb dL_law_355 (by decide) ?_
          exact P_f_L_law_359_238_s2 v4 v5 v6 _ hrc _ hk w (s1 + s0) v9 (1 : Int32) v8 hf _ _ ls hP hS (lv_sub hl [2, 3, 4, 5, 6, 7, 1, 9] rfl)
      · have hf := ifn hf c198
        exact P_f_L_law_307_238 v4 v5 v6 _ hrc _ hk w (s1 + s0) v8 v9 hf _ _ ls hP hS (lv_sub hl [1, 2, 3, 4, 5, 6, 0, 7, 8] rfl)
  have L_lp_L_law_238 : ∀ (v4 : Int32) (v5 : Int32) (v6 : Int32) (k : Mem → Int32 → Int32 → Option (Mem × Int32)) (hk : ∀ (w : Mem) (v7 : Int32) (v8 : Int32), k w v7 v8 = some (w', 1) → WPL p l e s m b below meth c D ca ad PL 403 [] [(1, .ref (ad 46 0)), (2, .ref (ad 9 0)), (3, .ref (ad 8 0)), (4, .int v4), (5, .int v5), (6, .int v6), (7, .int v7), (8, .int v8)] w) (n : Nat) (w : Mem) (v7 : Int32) (v8 : Int32) (v9 : Int32), lp_L_law_238 k N  sx v4 v5 v6 n w v7 v8 v9 = some (w', 1) → WPL p l e s m b below meth c D ca ad PL 238 [] [(1, .ref (ad 46 0)), (2, .ref (ad 9 0)), (3, .ref (ad 8 0)), (4, .int v4), (5, .int v5), (6, .int v6), (7, .int v7), (8, .int v8), (9, .int v9)] w := by
    intro v4 v5 v6 k hk n
    induction n with
    | zero => intro w v7 v8 v9 hf; rw [lp_L_law_238] at hf; cases hf
    | succ n ih =>
      intro w v7 v8 v9 hf _ _ ls hP hS hl
      rw [lp_L_law_238] at hf
      refine lv_iload hx hb dL_law_238 (lv_at hl 8 rfl) ?_
      refine lv_aload_n hx hb dL_law_240 rfl (lv_at hl 1 rfl) ?_
      refine gn_10_5 (i := 0) C hP (hok.2.1 9 0 (Nat.le_of_ble_eq_true rfl)) (hts0 _ nf_45) dL_law_241 ?_
      refine lv_icmp_ge (tgt := 403) hx hb dL_law_244 (by decide) (fun c201 => ?_) (fun c201 => ?_)
      · have hf := ifp hf c201
        exact hk w v7 v8 hf _ _ ls hP hS (lv_sub hl [0, 1, 2, 3, 4, 5, 6, 7] rfl)
      · have hf := ifn hf c201
        refine lv_iload hx hb dL_law_247 (lv_at hl 6 rfl) ?_
        refine lv_aload_n hx hb dL_law_249 rfl (lv_at hl 1 rfl) ?_
        refine gn_10_7 (i := 0) C hP (hok.2.1 9 0 (Nat.le_of_ble_eq_true rfl)) (hts0 _ nf_67) dL_law_250 ?_
        refine lv_iload hx hb dL_law_253 (lv_at hl 5 rfl) ?_
        obtain ⟨b177, hf⟩ := gsp hf
        refine ra_ild (k := 45) (i := 0) (n := 12) (f := (gA w 45 0)) C hP (hok.2.1 45 0 (Nat.le_of_ble_eq_true rfl)) rfl b177 dL_law_255 ?_
        refine lv_aload_n hx hb dL_law_256 rfl (lv_at hl 1 rfl) ?_
        refine gn_10_7 (i := 0) C hP (hok.2.1 9 0 (Nat.le_of_ble_eq_true rfl)) (hts0 _ nf_67) dL_law_257 ?_
        refine lv_iload hx hb dL_law_260 (lv_at hl 8 rfl) ?_
        obtain ⟨b178, hf⟩ := gsp hf
        refine ra_ild (k := 45) (i := 0) (n := 12) (f := (gA w 45 0)) C hP (hok.2.1 45 0 (Nat.le_of_ble_eq_true rfl)) rfl b178 dL_law_262 ?_
        refine lv_icmp_ne (tgt := 270) hx hb dL_law_263 (by decide) (fun c200 => ?_) (fun c200 => ?_)
        · have hf := ifn hf c200
          refine lv_iconst (v := (0 : Int32)) hx hb dL_law_270 (by decide) ?_
          exact P_f_L_law_271_238_s2 v4 v5 v6 _ ih _ hk w v8 v9 (0 : Int32) v7 hf _ _ ls hP hS (lv_sub hl [0, 1, 2, 3, 4, 5, 7, 8] rfl)
        · have hf := ifp hf c200
          refine lv_iconst (v := (1 : Int32)) hx hb dL_law_266 (by decide) ?_
          refine lv_goto (tgt := 271) hx hb dL_law_267 (by decide) ?_
          exact P_f_L_law_271_238_s2 v4 v5 v6 _ ih _ hk w v8 v9 (1 : Int32) v7 hf _ _ ls hP hS (lv_sub hl [0, 1, 2, 3, 4, 5, 7, 8] rfl)
  have L_lp_L_law_220 : ∀ (v4 : Int32) (k : Mem → Int32 → Option (Mem × Int32)) (hk : ∀ (w : Mem) (v5 : Int32), k w v5 = some (w', 1) → WPL p l e s m b below meth c D ca ad PL 611 [] [(1, .ref (ad 46 0)), (2, .ref (ad 9 0)), (3, .ref (ad 8 0)), (4, .int v4), (5, .int v5)] w) (n : Nat) (w : Mem) (v5 : Int32) (v6 : Int32), lp_L_law_220 k N  sx v4 n w v5 v6 = some (w', 1) → WPL p l e s m b below meth c D ca ad PL 220 [] [(1, .ref (ad 46 0)), (2, .ref (ad 9 0)), (3, .ref (ad 8 0)), (4, .int v4), (5, .int v5), (6, .int v6)] w := by
    intro v4 k hk n
    induction n with
    | zero => intro w v5 v6 hf; rw [lp_L_law_220] at hf; cases hf
    | succ n ih =>
      intro w v5 v6 hf _ _ ls hP hS hl
      rw [lp_L_law_220] at hf
      refine lv_iload hx hb dL_law_220 (lv_at hl 5 rfl) ?_
      refine lv_aload_n hx hb dL_law_222 rfl (lv_at hl 1 rfl) ?_
      refine gn_10_5 (i := 0) C hP (hok.2.1 9 0 (Nat.le_of_ble_eq_true rfl)) (hts0 _ nf_45) dL_law_223 ?_
      refine lv_icmp_ge (tgt := 611) hx hb dL_law_226 (by decide) (fun c202 => ?_) (fun c202 => ?_)
      · have hf := ifp hf c202
        exact hk w v5 hf _ _ ls hP hS (lv_sub hl [0, 1, 2, 3, 4] rfl)
      · have hf := ifn hf c202
        refine lv_iconst (v := (0 : Int32)) hx hb dL_law_229 (by decide) ?_
        refine lv_istore (lv' := [(7, .int (0 : Int32)), (1, .ref (ad 46 0)), (2, .ref (ad 9 0)), (3, .ref (ad 8 0)), (4, .int v4), (5, .int v5), (6, .int v6)]) hx hb dL_law_230 hl (by decide) rfl (fun ls hl => ?_)
        refine lv_iconst (v := (0 : Int32)) hx hb dL_law_232 (by decide) ?_
        refine lv_istore (lv' := [(8, .int (0 : Int32)), (7, .int (0 : Int32)), (1, .ref (ad 46 0)), (2, .ref (ad 9 0)), (3, .ref (ad 8 0)), (4, .int v4), (5, .int v5), (6, .int v6)]) hx hb dL_law_233 hl (by decide) rfl (fun ls hl => ?_)
        refine lv_iconst (v := (0 : Int32)) hx hb dL_law_235 (by decide) ?_
        refine lv_istore (lv' := [(9, .int (0 : Int32)), (8, .int (0 : Int32)), (7, .int (0 : Int32)), (1, .ref (ad 46 0)), (2, .ref (ad 9 0)), (3, .ref (ad 8 0)), (4, .int v4), (5, .int v5), (6, .int v6)]) hx hb dL_law_236 hl (by decide) rfl (fun ls hl => ?_)
        exact L_lp_L_law_238 v4 v5 v6 _ (fun w_138 u7_138 u8_138 hf H locs ls hP hS hl => P_f_L_law_403_220 v4 _ ih _ hk w_138 v5 v6 u7_138 u8_138 hf _ _ ls hP hS (lv_sub hl [0, 1, 2, 3, 4, 5, 6, 7] rfl)) N w (0 : Int32) (0 : Int32) (0 : Int32) hf _ _ ls hP hS (lv_sub hl [3, 4, 5, 6, 7, 8, 2, 1, 0] rfl)
  have P_f_L_law_208 : ∀ (w : Mem) (v4 : Int32), f_L_law_208 N w sx v4  = some (w', 1) → WPL p l e s m b below meth c D ca ad PL 208 [] [(1, .ref (ad 46 0)), (2, .ref (ad 9 0)), (3, .ref (ad 8 0)), (4, .int v4)] w := by
    intro w v4 hf _ _ ls hP hS hl
    unfold f_L_law_208 at hf
    refine lv_aload_n hx hb dL_law_208 rfl (lv_at hl 1 rfl) ?_
    refine lv_iload hx hb dL_law_209 (lv_at hl 3 rfl) ?_
    obtain ⟨z10, q11, hf⟩ := bsp hf
    refine kc_V (ci := 9) (i := 0) (As := [.int v4]) (rest := []) hok.2.2.1 C hP hS hl.1 (hok.2.1 9 0 (Nat.le_of_ble_eq_true rfl)) rfl rfl cw_X10_closes ml_L_59 (c_X10_closes l D ca ad PL Z A hok N w v4 z10 q11) rfl ⟨rfl, rfl⟩ ⟨Nat.le_of_ble_eq_true rfl, Nat.le_of_ble_eq_true rfl⟩ ⟨Nat.le_refl _, Nat.le_refl _⟩ (Nat.le_of_ble_eq_true rfl) rfl dL_law_211 (fun H locs hP hS => ?_)
    refine lv_iconst (v := (0 : Int32)) hx hb dL_law_214 (by decide) ?_
    refine lv_istore (lv' := [(5, .int (0 : Int32)), (1, .ref (ad 46 0)), (2, .ref (ad 9 0)), (3, .ref (ad 8 0)), (4, .int v4)]) hx hb dL_law_215 hl (by decide) rfl (fun ls hl => ?_)
    refine lv_iconst (v := (0 : Int32)) hx hb dL_law_217 (by decide) ?_
    refine lv_istore (lv' := [(6, .int (0 : Int32)), (5, .int (0 : Int32)), (1, .ref (ad 46 0)), (2, .ref (ad 9 0)), (3, .ref (ad 8 0)), (4, .int v4)]) hx hb dL_law_218 hl (by decide) rfl (fun ls hl => ?_)
    exact L_lp_L_law_220 v4 _ (fun w_12 u5_12 hf H locs ls hP hS hl => P_f_L_law_611 w_12 v4 u5_12 hf _ _ ls hP hS (lv_sub hl [0, 1, 2, 3, 4] rfl)) N z10 (0 : Int32) (0 : Int32) hf _ _ ls hP hS (lv_sub hl [2, 3, 4, 5, 1, 0] rfl)
  have P_f_L_law_202_97 : ∀ (v4 : Int32) (rc : Mem → Int32 → Option (Mem × Int32)) (hrc : ∀ (w : Mem) (v5 : Int32), rc w v5 = some (w', 1) → WPL p l e s m b below meth c D ca ad PL 97 [] [(1, .ref (ad 46 0)), (2, .ref (ad 9 0)), (3, .ref (ad 8 0)), (4, .int v4), (5, .int v5)] w) (k : Mem → Option (Mem × Int32)) (hk : ∀ (w : Mem), k w = some (w', 1) → WPL p l e s m b below meth c D ca ad PL 208 [] [(1, .ref (ad 46 0)), (2, .ref (ad 9 0)), (3, .ref (ad 8 0)), (4, .int v4)] w) (w : Mem) (v5 : Int32), f_L_law_202_97 rc k N w sx v4 v5  = some (w', 1) → WPL p l e s m b below meth c D ca ad PL 202 [] [(1, .ref (ad 46 0)), (2, .ref (ad 9 0)), (3, .ref (ad 8 0)), (4, .int v4), (5, .int v5)] w := by
    intro v4 rc hrc k hk w v5 hf _ _ ls hP hS hl
    unfold f_L_law_202_97 at hf
    refine lv_iinc (v := (v5 + (1 : Int32))) (lv' := [(5, .int (v5 + (1 : Int32))), (1, .ref (ad 46 0)), (2, .ref (ad 9 0)), (3, .ref (ad 8 0)), (4, .int v4)]) hx hb dL_law_202 hl (k := 4) rfl rfl (by decide) rfl (fun ls hl => ?_)
    refine lv_goto (tgt := 97) hx hb dL_law_205 (by decide) ?_
    exact hrc w (v5 + (1 : Int32)) hf _ _ ls hP hS (lv_sub hl [1, 2, 3, 4, 0] rfl)
  have P_f_L_law_196_132 : ∀ (v4 : Int32) (v5 : Int32) (v6 : Int32) (rc : Mem → Int32 → Option (Mem × Int32)) (hrc : ∀ (w : Mem) (v7 : Int32), rc w v7 = some (w', 1) → WPL p l e s m b below meth c D ca ad PL 132 [] [(1, .ref (ad 46 0)), (2, .ref (ad 9 0)), (3, .ref (ad 8 0)), (4, .int v4), (5, .int v5), (6, .int v6), (7, .int v7)] w) (k : Mem → Option (Mem × Int32)) (hk : ∀ (w : Mem), k w = some (w', 1) → WPL p l e s m b below meth c D ca ad PL 202 [] [(1, .ref (ad 46 0)), (2, .ref (ad 9 0)), (3, .ref (ad 8 0)), (4, .int v4), (5, .int v5)] w) (w : Mem) (v7 : Int32), f_L_law_196_132 rc k N w sx v4 v5 v6 v7  = some (w', 1) → WPL p l e s m b below meth c D ca ad PL 196 [] [(1, .ref (ad 46 0)), (2, .ref (ad 9 0)), (3, .ref (ad 8 0)), (4, .int v4), (5, .int v5), (6, .int v6), (7, .int v7)] w := by
    intro v4 v5 v6 rc hrc k hk w v7 hf _ _ ls hP hS hl
    unfold f_L_law_196_132 at hf
    refine lv_iinc (v := (v7 + (1 : Int32))) (lv' := [(7, .int (v7 + (1 : Int32))), (1, .ref (ad 46 0)), (2, .ref (ad 9 0)), (3, .ref (ad 8 0)), (4, .int v4), (5, .int v5), (6, .int v6)]) hx hb dL_law_196 hl (k := 6) rfl rfl (by decide) rfl (fun ls hl => ?_)
    refine lv_goto (tgt := 132) hx hb dL_law_199 (by decide) ?_
    exact hrc w (v7 + (1 : Int32)) hf _ _ ls hP hS (lv_sub hl [1, 2, 3, 4, 5, 6, 0] rfl)
  have L_lp_L_law_144 : ∀ (v4 : Int32) (v5 : Int32) (v6 : Int32) (v7 : Int32) (k : Mem → Option (Mem × Int32)) (hk : ∀ (w : Mem), k w = some (w', 1) → WPL p l e s m b below meth c D ca ad PL 196 [] [(1, .ref (ad 46 0)), (2, .ref (ad 9 0)), (3, .ref (ad 8 0)), (4, .int v4), (5, .int v5), (6, .int v6), (7, .int v7)] w) (n : Nat) (w : Mem) (v8 : Int32), lp_L_law_144 k N  sx v4 v5 v6 v7 n w v8 = some (w', 1) → WPL p l e s m b below meth c D ca ad PL 144 [] [(1, .ref (ad 46 0)), (2, .ref (ad 9 0)), (3, .ref (ad 8 0)), (4, .int v4), (5, .int v5), (6, .int v6), (7, .int v7), (8, .int v8)] w := by
    intro v4 v5 v6 v7 k hk n
    induction n with
    | zero => intro w v8 hf; rw [lp_L_law_144] at hf; cases hf
    | succ n ih =>
      intro w v8 hf _ _ ls hP hS hl
      rw [lp_L_law_144] at hf
      refine lv_iload hx hb dL_law_144 (lv_at hl 7 rfl) ?_
      refine lv_aload_n hx hb dL_law_146 rfl (lv_at hl 1 rfl) ?_
      refine gn_10_5 (i := 0) C hP (hok.2.1 9 0 (Nat.le_of_ble_eq_true rfl)) (hts0 _ nf_45) dL_law_147 ?_
      refine lv_icmp_ge (tgt := 196) hx hb dL_law_150 (by decide) (fun c216 => ?_) (fun c216 => ?_)
      · have hf := ifp hf c216
        exact hk w hf _ _ ls hP hS (lv_sub hl [0, 1, 2, 3, 4, 5, 6] rfl)
      · have hf := ifn hf c216
        refine lv_aload_n hx hb dL_law_153 rfl (lv_at hl 2 rfl) ?_
        refine lv_iload hx hb dL_law_154 (lv_at hl 5 rfl) ?_
        refine lv_iload hx hb dL_law_156 (lv_at hl 6 rfl) ?_
        refine lv_iload hx hb dL_law_158 (lv_at hl 7 rfl) ?_
        obtain ⟨z209, q210, hf⟩ := bsp hf
        refine kc_V (ci := 8) (i := 0) (As := [.int v6, .int v7, .int v8]) (rest := []) hok.2.2.1 C hP hS hl.1 (hok.2.1 8 0 (Nat.le_of_ble_eq_true rfl)) rfl rfl cw_X8_proves ml_L_63 (c_X8_proves l D ca ad PL Z A (okM_X hok) N w v6 v7 v8 z209.1 z209.2 q210) rfl ⟨rfl, rfl⟩ ⟨Nat.le_of_ble_eq_true rfl, Nat.le_of_ble_eq_true rfl⟩ ⟨Nat.le_refl _, Nat.le_refl _⟩ (Nat.le_of_ble_eq_true rfl) rfl dL_law_160 (fun H locs hP hS => ?_)
        refine lv_aload_n hx hb dL_law_163 rfl (lv_at hl 1 rfl) ?_
        refine gn_10_7 (i := 0) C hP (hok.2.1 9 0 (Nat.le_of_ble_eq_true rfl)) (hts0 _ nf_67) dL_law_164 ?_
        refine lv_iload hx hb dL_law_167 (lv_at hl 6 rfl) ?_
        obtain ⟨b211, hf⟩ := gsp hf
        refine ra_ild (k := 45) (i := 0) (n := 12) (f := (gA z209.1 45 0)) C hP (hok.2.1 45 0 (Nat.le_of_ble_eq_true rfl)) rfl b211 dL_law_169 ?_
        refine lv_aload_n hx hb dL_law_170 rfl (lv_at hl 1 rfl) ?_
        refine gn_10_7 (i := 0) C hP (hok.2.1 9 0 (Nat.le_of_ble_eq_true rfl)) (hts0 _ nf_67) dL_law_171 ?_
        refine lv_iload hx hb dL_law_174 (lv_at hl 7 rfl) ?_
        obtain ⟨b212, hf⟩ := gsp hf
        refine ra_ild (k := 45) (i := 0) (n := 12) (f := (gA z209.1 45 0)) C hP (hok.2.1 45 0 (Nat.le_of_ble_eq_true rfl)) rfl b212 dL_law_176 ?_
        refine lv_icmp_ne (tgt := 184) hx hb dL_law_177 (by decide) (fun c215 => ?_) (fun c215 => ?_)
        · have hf := ifn hf c215
          refine lv_iconst (v := (0 : Int32)) hx hb dL_law_184 (by decide) ?_
          refine lv_icmp_eq (tgt := 190) hx hb dL_law_185 (by decide) (fun c213 => ?_) (fun c213 => ?_)
          · have hf := ifp hf c213
            refine lv_iinc (v := (v8 + (1 : Int32))) (lv' := [(8, .int (v8 + (1 : Int32))), (1, .ref (ad 46 0)), (2, .ref (ad 9 0)), (3, .ref (ad 8 0)), (4, .int v4), (5, .int v5), (6, .int v6), (7, .int v7)]) hx hb dL_law_190 hl (k := 7) rfl rfl (by decide) rfl (fun ls hl => ?_)
            refine lv_goto (tgt := 144) hx hb dL_law_193 (by decide) ?_
            exact ih z209.1 (v8 + (1 : Int32)) hf _ _ ls hP hS (lv_sub hl [1, 2, 3, 4, 5, 6, 7, 0] rfl)
          · have hf := ifn hf c213
            refine lv_iconst (v := (0 : Int32)) hx hb dL_law_188 (by decide) ?_
            exact law_fin hx hb hr hlocks hS (congrArg Prod.snd (Option.some.inj hf)) dL_law_189
        · have hf := ifp hf c215
          refine lv_iconst (v := (1 : Int32)) hx hb dL_law_180 (by decide) ?_
          refine lv_goto (tgt := 185) hx hb dL_law_181 (by decide) ?_
          refine lv_icmp_eq (tgt := 190) hx hb dL_law_185 (by decide) (fun c214 => ?_) (fun c214 => ?_)
          · have hf := ifp hf c214
            refine lv_iinc (v := (v8 + (1 : Int32))) (lv' := [(8, .int (v8 + (1 : Int32))), (1, .ref (ad 46 0)), (2, .ref (ad 9 0)), (3, .ref (ad 8 0)), (4, .int v4), (5, .int v5), (6, .int v6), (7, .int v7)]) hx hb dL_law_190 hl (k := 7) rfl rfl (by decide) rfl (fun ls hl => ?_)
            refine lv_goto (tgt := 144) hx hb dL_law_193 (by decide) ?_
            exact ih z209.1 (v8 + (1 : Int32)) hf _ _ ls hP hS (lv_sub hl [1, 2, 3, 4, 5, 6, 7, 0] rfl)
          · have hf := ifn hf c214
            refine lv_iconst (v := (0 : Int32)) hx hb dL_law_188 (by decide) ?_
            exact law_fin hx hb hr hlocks hS (congrArg Prod.snd (Option.some.inj hf)) dL_law_189
  have L_lp_L_law_132 : ∀ (v4 : Int32) (v5 : Int32) (v6 : Int32) (k : Mem → Option (Mem × Int32)) (hk : ∀ (w : Mem), k w = some (w', 1) → WPL p l e s m b below meth c D ca ad PL 202 [] [(1, .ref (ad 46 0)), (2, .ref (ad 9 0)), (3, .ref (ad 8 0)), (4, .int v4), (5, .int v5)] w) (n : Nat) (w : Mem) (v7 : Int32), lp_L_law_132 k N  sx v4 v5 v6 n w v7 = some (w', 1) → WPL p l e s m b below meth c D ca ad PL 132 [] [(1, .ref (ad 46 0)), (2, .ref (ad 9 0)), (3, .ref (ad 8 0)), (4, .int v4), (5, .int v5), (6, .int v6), (7, .int v7)] w := by
    intro v4 v5 v6 k hk n
    induction n with
    | zero => intro w v7 hf; rw [lp_L_law_132] at hf; cases hf
    | succ n ih =>
      intro w v7 hf _ _ ls hP hS hl
      rw [lp_L_law_132] at hf
      refine lv_iload hx hb dL_law_132 (lv_at hl 6 rfl) ?_
      refine lv_aload_n hx hb dL_law_134 rfl (lv_at hl 1 rfl) ?_
      refine gn_10_5 (i := 0) C hP (hok.2.1 9 0 (Nat.le_of_ble_eq_true rfl)) (hts0 _ nf_45) dL_law_135 ?_
      refine lv_icmp_ge (tgt := 202) hx hb dL_law_138 (by decide) (fun c217 => ?_) (fun c217 => ?_)
      · have hf := ifp hf c217
        exact hk w hf _ _ ls hP hS (lv_sub hl [0, 1, 2, 3, 4] rfl)
      · have hf := ifn hf c217
        refine lv_iconst (v := (0 : Int32)) hx hb dL_law_141 (by decide) ?_
        refine lv_istore (lv' := [(8, .int (0 : Int32)), (1, .ref (ad 46 0)), (2, .ref (ad 9 0)), (3, .ref (ad 8 0)), (4, .int v4), (5, .int v5), (6, .int v6), (7, .int v7)]) hx hb dL_law_142 hl (by decide) rfl (fun ls hl => ?_)
        exact L_lp_L_law_144 v4 v5 v6 v7 _ (fun w_208 hf H locs ls hP hS hl => P_f_L_law_196_132 v4 v5 v6 _ ih _ hk w_208 v7 hf _ _ ls hP hS (lv_sub hl [0, 1, 2, 3, 4, 5, 6] rfl)) N w (0 : Int32) hf _ _ ls hP hS (lv_sub hl [1, 2, 3, 4, 5, 6, 7, 0] rfl)
  have L_lp_L_law_97 : ∀ (v4 : Int32) (k : Mem → Option (Mem × Int32)) (hk : ∀ (w : Mem), k w = some (w', 1) → WPL p l e s m b below meth c D ca ad PL 208 [] [(1, .ref (ad 46 0)), (2, .ref (ad 9 0)), (3, .ref (ad 8 0)), (4, .int v4)] w) (n : Nat) (w : Mem) (v5 : Int32), lp_L_law_97 k N  sx v4 n w v5 = some (w', 1) → WPL p l e s m b below meth c D ca ad PL 97 [] [(1, .ref (ad 46 0)), (2, .ref (ad 9 0)), (3, .ref (ad 8 0)), (4, .int v4), (5, .int v5)] w := by
    intro v4 k hk n
    induction n with
    | zero => intro w v5 hf; rw [lp_L_law_97] at hf; cases hf
    | succ n ih =>
      intro w v5 hf _ _ ls hP hS hl
      rw [lp_L_law_97] at hf
      refine lv_iload hx hb dL_law_97 (lv_at hl 4 rfl) ?_
      refine lv_bipush (v := (6 : Int32)) hx hb dL_law_99 (by decide) ?_
      refine lv_icmp_ge (tgt := 208) hx hb dL_law_101 (by decide) (fun c222 => ?_) (fun c222 => ?_)
      · have hf := ifp hf c222
        exact hk w hf _ _ ls hP hS (lv_sub hl [0, 1, 2, 3] rfl)
      · have hf := ifn hf c222
        refine lv_iload hx hb dL_law_104 (lv_at hl 4 rfl) ?_
        refine lv_if_ne (tgt := 114) hx hb dL_law_106 (by decide) (fun c221 => ?_) (fun c221 => ?_)
        · have hf := ifn hf c221
          refine lv_aload_n hx hb dL_law_114 rfl (lv_at hl 0 rfl) ?_
          refine lv_iconst (v := (0 : Int32)) hx hb dL_law_115 (by decide) ?_
          refine lv_iload hx hb dL_law_116 (lv_at hl 3 rfl) ?_
          obtain ⟨z203, q204, hf⟩ := bsp hf
          refine kc_V (ci := 46) (i := 0) (As := [.int (0 : Int32), .int v4]) (rest := []) hok.2.2.1 C hP hS hl.1 (hok.2.1 46 0 (Nat.le_of_ble_eq_true rfl)) rfl rfl cw_X9_next ml_L_55 (c_X9_next l D ca ad PL Z A hok N w sx hsx (0 : Int32) v4 z203.1 z203.2 q204) rfl ⟨rfl, rfl⟩ ⟨Nat.le_of_ble_eq_true rfl, Nat.le_of_ble_eq_true rfl⟩ ⟨Nat.le_refl _, Nat.le_refl _⟩ (Nat.le_of_ble_eq_true rfl) rfl dL_law_118 (fun H locs hP hS => ?_)
          refine lv_istore (lv' := [(6, .int z203.2), (1, .ref (ad 46 0)), (2, .ref (ad 9 0)), (3, .ref (ad 8 0)), (4, .int v4), (5, .int v5)]) hx hb dL_law_121 hl (by decide) rfl (fun ls hl => ?_)
          refine lv_aload_n hx hb dL_law_123 rfl (lv_at hl 2 rfl) ?_
          refine lv_iload hx hb dL_law_124 (lv_at hl 0 rfl) ?_
          obtain ⟨z205, q206, hf⟩ := bsp hf
          refine kc_V (ci := 9) (i := 0) (As := [.int z203.2]) (rest := []) hok.2.2.1 C hP hS hl.1 (hok.2.1 9 0 (Nat.le_of_ble_eq_true rfl)) rfl rfl cw_X10_closes ml_L_59 (c_X10_closes l D ca ad PL Z A hok N z203.1 z203.2 z205 q206) rfl ⟨rfl, rfl⟩ ⟨Nat.le_of_ble_eq_true rfl, Nat.le_of_ble_eq_true rfl⟩ ⟨Nat.le_refl _, Nat.le_refl _⟩ (Nat.le_of_ble_eq_true rfl) rfl dL_law_126 (fun H locs hP hS => ?_)
          refine lv_iconst (v := (0 : Int32)) hx hb dL_law_129 (by decide) ?_
          refine lv_istore (lv' := [(7, .int (0 : Int32)), (6, .int z203.2), (1, .ref (ad 46 0)), (2, .ref (ad 9 0)), (3, .ref (ad 8 0)), (4, .int v4), (5, .int v5)]) hx hb dL_law_130 hl (by decide) rfl (fun ls hl => ?_)
          exact L_lp_L_law_132 v4 v5 z203.2 _ (fun w_207 hf H locs ls hP hS hl => P_f_L_law_202_97 v4 _ ih _ hk w_207 v5 hf _ _ ls hP hS (lv_sub hl [0, 1, 2, 3, 4] rfl)) N z205 (0 : Int32) hf _ _ ls hP hS (lv_sub hl [2, 3, 4, 5, 6, 1, 0] rfl)
        · have hf := ifp hf c221
          refine lv_iload hx hb dL_law_109 (lv_at hl 3 rfl) ?_
          refine lv_goto (tgt := 121) hx hb dL_law_111 (by decide) ?_
          refine lv_istore (lv' := [(6, .int v4), (1, .ref (ad 46 0)), (2, .ref (ad 9 0)), (3, .ref (ad 8 0)), (4, .int v4), (5, .int v5)]) hx hb dL_law_121 hl (by decide) rfl (fun ls hl => ?_)
          refine lv_aload_n hx hb dL_law_123 rfl (lv_at hl 2 rfl) ?_
          refine lv_iload hx hb dL_law_124 (lv_at hl 0 rfl) ?_
          obtain ⟨z218, q219, hf⟩ := bsp hf
          refine kc_V (ci := 9) (i := 0) (As := [.int v4]) (rest := []) hok.2.2.1 C hP hS hl.1 (hok.2.1 9 0 (Nat.le_of_ble_eq_true rfl)) rfl rfl cw_X10_closes ml_L_59 (c_X10_closes l D ca ad PL Z A hok N w v4 z218 q219) rfl ⟨rfl, rfl⟩ ⟨Nat.le_of_ble_eq_true rfl, Nat.le_of_ble_eq_true rfl⟩ ⟨Nat.le_refl _, Nat.le_refl _⟩ (Nat.le_of_ble_eq_true rfl) rfl dL_law_126 (fun H locs hP hS => ?_)
          refine lv_iconst (v := (0 : Int32)) hx hb dL_law_129 (by decide) ?_
          refine lv_istore (lv' := [(7, .int (0 : Int32)), (6, .int v4), (1, .ref (ad 46 0)), (2, .ref (ad 9 0)), (3, .ref (ad 8 0)), (4, .int v4), (5, .int v5)]) hx hb dL_law_130 hl (by decide) rfl (fun ls hl => ?_)
          exact L_lp_L_law_132 v4 v5 v4 _ (fun w_220 hf H locs ls hP hS hl => P_f_L_law_202_97 v4 _ ih _ hk w_220 v5 hf _ _ ls hP hS (lv_sub hl [0, 1, 2, 3, 4] rfl)) N z218 (0 : Int32) hf _ _ ls hP hS (lv_sub hl [2, 3, 4, 5, 6, 1, 0] rfl)
  unfold f_L_law at hf
  intro H locs ls hP hS hl
  refine lv_aload_n hx hb dL_law_34 rfl (lv_at hl 2 rfl) ?_
  refine gn_10_5 (i := 0) C hP (hok.2.1 9 0 (Nat.le_of_ble_eq_true rfl)) (hts0 _ nf_45) dL_law_35 ?_
  refine lv_icmp_ne (tgt := 82) hx hb dL_law_38 (by decide) (fun c227 => ?_) (fun c227 => ?_)
  · have hf := ifn hf c227
    refine lv_iconst (v := (0 : Int32)) hx hb dL_law_82 (by decide) ?_
    exact law_fin hx hb hr hlocks hS (congrArg Prod.snd (Option.some.inj hf)) dL_law_83
  · have hf := ifp hf c227
    refine lv_aload_n hx hb dL_law_41 rfl (lv_at hl 3 rfl) ?_
    refine lv_iconst (v := (0 : Int32)) hx hb dL_law_42 (by decide) ?_
    obtain ⟨z1, q2, hf⟩ := bsp hf
    refine kc_V (ci := 8) (i := 0) (As := [.int (0 : Int32)]) (rest := []) hok.2.2.1 C hP hS hl.1 (hok.2.1 8 0 (Nat.le_of_ble_eq_true rfl)) rfl rfl cw_X8_about ml_L_49 (c_X8_about l D ca ad PL Z A (okM_X hok) N w (0 : Int32) z1.1 z1.2 q2) rfl ⟨rfl, rfl⟩ ⟨Nat.le_of_ble_eq_true rfl, Nat.le_of_ble_eq_true rfl⟩ ⟨Nat.le_refl _, Nat.le_refl _⟩ (Nat.le_of_ble_eq_true rfl) rfl dL_law_43 (fun H locs hP hS => ?_)
    refine lv_iconst (v := (5 : Int32)) hx hb dL_law_46 (by decide) ?_
    refine lv_icmp_ne (tgt := 82) hx hb dL_law_47 (by decide) (fun c226 => ?_) (fun c226 => ?_)
    · have hf := ifn hf c226
      refine lv_iconst (v := (0 : Int32)) hx hb dL_law_82 (by decide) ?_
      exact law_fin hx hb hr hlocks hS (congrArg Prod.snd (Option.some.inj hf)) dL_law_83
    · have hf := ifp hf c226
      refine lv_aload_n hx hb dL_law_50 rfl (lv_at hl 3 rfl) ?_
      refine lv_iconst (v := (1 : Int32)) hx hb dL_law_51 (by decide) ?_
      obtain ⟨z3, q4, hf⟩ := bsp hf
      refine kc_V (ci := 8) (i := 0) (As := [.int (1 : Int32)]) (rest := []) hok.2.2.1 C hP hS hl.1 (hok.2.1 8 0 (Nat.le_of_ble_eq_true rfl)) rfl rfl cw_X8_about ml_L_49 (c_X8_about l D ca ad PL Z A (okM_X hok) N z1.1 (1 : Int32) z3.1 z3.2 q4) rfl ⟨rfl, rfl⟩ ⟨Nat.le_of_ble_eq_true rfl, Nat.le_of_ble_eq_true rfl⟩ ⟨Nat.le_refl _, Nat.le_refl _⟩ (Nat.le_of_ble_eq_true rfl) rfl dL_law_52 (fun H locs hP hS => ?_)
      refine lv_aload_n hx hb dL_law_55 rfl (lv_at hl 2 rfl) ?_
      refine gn_10_5 (i := 0) C hP (hok.2.1 9 0 (Nat.le_of_ble_eq_true rfl)) (hts0 _ nf_45) dL_law_56 ?_
      refine lv_icmp_ne (tgt := 82) hx hb dL_law_59 (by decide) (fun c225 => ?_) (fun c225 => ?_)
      · have hf := ifn hf c225
        refine lv_iconst (v := (0 : Int32)) hx hb dL_law_82 (by decide) ?_
        exact law_fin hx hb hr hlocks hS (congrArg Prod.snd (Option.some.inj hf)) dL_law_83
      · have hf := ifp hf c225
        refine lv_aload_n hx hb dL_law_62 rfl (lv_at hl 3 rfl) ?_
        refine lv_iconst (v := (2 : Int32)) hx hb dL_law_63 (by decide) ?_
        obtain ⟨z5, q6, hf⟩ := bsp hf
        refine kc_V (ci := 8) (i := 0) (As := [.int (2 : Int32)]) (rest := []) hok.2.2.1 C hP hS hl.1 (hok.2.1 8 0 (Nat.le_of_ble_eq_true rfl)) rfl rfl cw_X8_about ml_L_49 (c_X8_about l D ca ad PL Z A (okM_X hok) N z3.1 (2 : Int32) z5.1 z5.2 q6) rfl ⟨rfl, rfl⟩ ⟨Nat.le_of_ble_eq_true rfl, Nat.le_of_ble_eq_true rfl⟩ ⟨Nat.le_refl _, Nat.le_refl _⟩ (Nat.le_of_ble_eq_true rfl) rfl dL_law_64 (fun H locs hP hS => ?_)
        refine lv_aload_n hx hb dL_law_67 rfl (lv_at hl 2 rfl) ?_
        refine gn_10_6 (i := 0) C hP (hok.2.1 9 0 (Nat.le_of_ble_eq_true rfl)) (hts0 _ nf_52) dL_law_68 ?_
        refine lv_icmp_ne (tgt := 82) hx hb dL_law_71 (by decide) (fun c224 => ?_) (fun c224 => ?_)
        · have hf := ifn hf c224
          refine lv_iconst (v := (0 : Int32)) hx hb dL_law_82 (by decide) ?_
          exact law_fin hx hb hr hlocks hS (congrArg Prod.snd (Option.some.inj hf)) dL_law_83
        · have hf := ifp hf c224
          refine lv_aload_n hx hb dL_law_74 rfl (lv_at hl 3 rfl) ?_
          refine lv_iconst (v := (5 : Int32)) hx hb dL_law_75 (by decide) ?_
          obtain ⟨z7, q8, hf⟩ := bsp hf
          refine kc_V (ci := 8) (i := 0) (As := [.int (5 : Int32)]) (rest := []) hok.2.2.1 C hP hS hl.1 (hok.2.1 8 0 (Nat.le_of_ble_eq_true rfl)) rfl rfl cw_X8_about ml_L_49 (c_X8_about l D ca ad PL Z A (okM_X hok) N z5.1 (5 : Int32) z7.1 z7.2 q8) rfl ⟨rfl, rfl⟩ ⟨Nat.le_of_ble_eq_true rfl, Nat.le_of_ble_eq_true rfl⟩ ⟨Nat.le_refl _, Nat.le_refl _⟩ (Nat.le_of_ble_eq_true rfl) rfl dL_law_76 (fun H locs hP hS => ?_)
          refine lv_if_eq (tgt := 84) hx hb dL_law_79 (by decide) (fun c223 => ?_) (fun c223 => ?_)
          · have hf := ifp hf c223
            refine lv_iconst (v := (1 : Int32)) hx hb dL_law_84 (by decide) ?_
            refine lv_aload_n hx hb dL_law_85 rfl (lv_at hl 2 rfl) ?_
            refine gn_10_6 (i := 0) C hP (hok.2.1 9 0 (Nat.le_of_ble_eq_true rfl)) (hts0 _ nf_52) dL_law_86 ?_
            refine lv_ishl hx hb dL_law_89 ?_
            refine lv_iconst (v := (1 : Int32)) hx hb dL_law_90 (by decide) ?_
            refine lv_isub hx hb dL_law_91 ?_
            refine lv_istore (lv' := [(4, .int (((1 : Int32) <<< ((gF z7.1 9 6 0) &&& 31)) - (1 : Int32))), (0, .ref b), (1, .ref (ad 46 0)), (2, .ref (ad 9 0)), (3, .ref (ad 8 0))]) hx hb dL_law_92 hl (by decide) rfl (fun ls hl => ?_)
            refine lv_iconst (v := (0 : Int32)) hx hb dL_law_94 (by decide) ?_
            refine lv_istore (lv' := [(5, .int (0 : Int32)), (4, .int (((1 : Int32) <<< ((gF z7.1 9 6 0) &&& 31)) - (1 : Int32))), (0, .ref b), (1, .ref (ad 46 0)), (2, .ref (ad 9 0)), (3, .ref (ad 8 0))]) hx hb dL_law_95 hl (by decide) rfl (fun ls hl => ?_)
            exact L_lp_L_law_97 (((1 : Int32) <<< ((gF z7.1 9 6 0) &&& 31)) - (1 : Int32)) _ (fun w_9 hf H locs ls hP hS hl => P_f_L_law_208 w_9 (((1 : Int32) <<< ((gF z7.1 9 6 0) &&& 31)) - (1 : Int32)) hf _ _ ls hP hS (lv_sub hl [0, 1, 2, 3] rfl)) N z7.1 (0 : Int32) hf _ _ ls hP hS (lv_sub hl [3, 4, 5, 1, 0] rfl)
          · have hf := ifn hf c223
            refine lv_iconst (v := (0 : Int32)) hx hb dL_law_82 (by decide) ?_
            exact law_fin hx hb hr hlocks hS (congrArg Prod.snd (Option.some.inj hf)) dL_law_83
