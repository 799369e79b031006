/-! the law: its blocks (printed by program), and its loop -/
def cut_247 (pc : Nat) : Option (List Bool) := (cond (Nat.beq pc 18) (some [true, true, true, true]) (cond (Nat.beq pc 216) (some [true, true, true, true]) (cond (Nat.beq pc 239) (some [true, true, true, true]) (cond (Nat.beq pc 272) (some [true, true, true, true]) (cond (Nat.beq pc 335) (some [true, true, true, true]) (cond (Nat.beq pc 414) (some [true, true, true, true]) (cond (Nat.beq pc 447) (some [true, true, true, true]) (cond (Nat.beq pc 500) (some [true, true, true, true]) (cond (Nat.beq pc 543) (some [true, true, true, true]) (cond (Nat.beq pc 596) (some [true, true, true, true]) (cond (Nat.beq pc 619) (some [true, true, true, true]) (cond (Nat.beq pc 682) (some [true, true, true, true]) (cond (Nat.beq pc 705) (some [true, true, true, true]) (cond (Nat.beq pc 768) (some [true, true, true, true]) (cond (Nat.beq pc 807) (some [true, true, true, true]) (cond (Nat.beq pc 850) (some [true, true, true, true]) (cond (Nat.beq pc 903) (some [true, true, true, true]) (cond (Nat.beq pc 946) (some [true, true, true, true]) (cond (Nat.beq pc 999) (some [true, true, true, true]) (cond (Nat.beq pc 1022) (some [true, true, true, true]) (cond (Nat.beq pc 1055) (some [true, true, true, true]) (cond (Nat.beq pc 1098) (some [true, true, true, true]) (cond (Nat.beq pc 1141) (some [true, true, true, true]) (cond (Nat.beq pc 1174) (some [true, true, true, true]) (cond (Nat.beq pc 1207) (some [true, true, true, true]) (cond (Nat.beq pc 1240) (some [true, true, true, true]) (cond (Nat.beq pc 1293) (some [true, true, true, true]) (cond (Nat.beq pc 1316) (some [true, true, true, true]) (cond (Nat.beq pc 1339) (some [true, true, true, true]) (cond (Nat.beq pc 1392) (some [true, true, true, true]) (cond (Nat.beq pc 1435) (some [true, true, true, true]) (cond (Nat.beq pc 1478) (some [true, true, true, true]) (cond (Nat.beq pc 1511) (some [true, true, true, true]) (cond (Nat.beq pc 1544) (some [true, true, true, true]) (cond (Nat.beq pc 1597) (some [true, true, true, true]) (cond (Nat.beq pc 1640) (some [true, true, true, true]) (cond (Nat.beq pc 1673) (some [true, true, true, true]) (cond (Nat.beq pc 1706) (some [true, true, true, true]) (cond (Nat.beq pc 1749) (some [true, true, true, true]) (cond (Nat.beq pc 1782) (some [true, true, true, true]) (cond (Nat.beq pc 1835) (some [true, true, true, true]) (cond (Nat.beq pc 1858) (some [true, true, true, true]) (cond (Nat.beq pc 1891) (some [true, true, true, true]) (cond (Nat.beq pc 1914) (some [true, true, true, true]) none))))))))))))))))))))))))))))))))))))))))))))
set_option maxRecDepth 100000 in
theorem bk_247_18 {d : Nat} {L : Int} {xs : Nat → Int} {Q : Option AV → Wd → Prop} {x3 : Int} {w : Wd} (h : (if (wr (L - 6)) < x3 then (((1 : Int) = 0 ∨ (1 : Int) = 1) ∧ Q (some (.inl 1)) w) else ((0 ≤ x3 ∧ x3 < L) ∧ (if (iand (xs x3.toNat) 63) = 0 then Ev (some (L, xs)) (Cal d) (cd 247) Q (216, [some (.inr (.inr 2000)), some (.inr (.inr 11)), some (.inr (.inr 12)), some (.inl x3)], [], w) else (if (iand (xs x3.toNat) 63) = 1 then Ev (some (L, xs)) (Cal d) (cd 247) Q (239, [some (.inr (.inr 2000)), some (.inr (.inr 11)), some (.inr (.inr 12)), some (.inl x3)], [], w) else (if (iand (xs x3.toNat) 63) = 2 then Ev (some (L, xs)) (Cal d) (cd 247) Q (272, [some (.inr (.inr 2000)), some (.inr (.inr 11)), some (.inr (.inr 12)), some (.inl x3)], [], w) else (if (iand (xs x3.toNat) 63) = 3 then Ev (some (L, xs)) (Cal d) (cd 247) Q (335, [some (.inr (.inr 2000)), some (.inr (.inr 11)), some (.inr (.inr 12)), some (.inl x3)], [], w) else (if (iand (xs x3.toNat) 63) = 4 then Ev (some (L, xs)) (Cal d) (cd 247) Q (414, [some (.inr (.inr 2000)), some (.inr (.inr 11)), some (.inr (.inr 12)), some (.inl x3)], [], w) else (if (iand (xs x3.toNat) 63) = 5 then Ev (some (L, xs)) (Cal d) (cd 247) Q (447, [some (.inr (.inr 2000)), some (.inr (.inr 11)), some (.inr (.inr 12)), some (.inl x3)], [], w) else (if (iand (xs x3.toNat) 63) = 6 then Ev (some (L, xs)) (Cal d) (cd 247) Q (500, [some (.inr (.inr 2000)), some (.inr (.inr 11)), some (.inr (.inr 12)), some (.inl x3)], [], w) else (if (iand (xs x3.toNat) 63) = 7 then Ev (some (L, xs)) (Cal d) (cd 247) Q (543, [some (.inr (.inr 2000)), some (.inr (.inr 11)), some (.inr (.inr 12)), some (.inl x3)], [], w) else (if (iand (xs x3.toNat) 63) = 8 then Ev (some (L, xs)) (Cal d) (cd 247) Q (596, [some (.inr (.inr 2000)), some (.inr (.inr 11)), some (.inr (.inr 12)), some (.inl x3)], [], w) else (if (iand (xs x3.toNat) 63) = 9 then Ev (some (L, xs)) (Cal d) (cd 247) Q (619, [some (.inr (.inr 2000)), some (.inr (.inr 11)), some (.inr (.inr 12)), some (.inl x3)], [], w) else (if (iand (xs x3.toNat) 63) = 10 then Ev (some (L, xs)) (Cal d) (cd 247) Q (682, [some (.inr (.inr 2000)), some (.inr (.inr 11)), some (.inr (.inr 12)), some (.inl x3)], [], w) else (if (iand (xs x3.toNat) 63) = 11 then Ev (some (L, xs)) (Cal d) (cd 247) Q (705, [some (.inr (.inr 2000)), some (.inr (.inr 11)), some (.inr (.inr 12)), some (.inl x3)], [], w) else (if (iand (xs x3.toNat) 63) = 12 then Ev (some (L, xs)) (Cal d) (cd 247) Q (768, [some (.inr (.inr 2000)), some (.inr (.inr 11)), some (.inr (.inr 12)), some (.inl x3)], [], w) else (if (iand (xs x3.toNat) 63) = 13 then Ev (some (L, xs)) (Cal d) (cd 247) Q (807, [some (.inr (.inr 2000)), some (.inr (.inr 11)), some (.inr (.inr 12)), some (.inl x3)], [], w) else (if (iand (xs x3.toNat) 63) = 14 then Ev (some (L, xs)) (Cal d) (cd 247) Q (850, [some (.inr (.inr 2000)), some (.inr (.inr 11)), some (.inr (.inr 12)), some (.inl x3)], [], w) else (if (iand (xs x3.toNat) 63) = 15 then Ev (some (L, xs)) (Cal d) (cd 247) Q (903, [some (.inr (.inr 2000)), some (.inr (.inr 11)), some (.inr (.inr 12)), some (.inl x3)], [], w) else (if (iand (xs x3.toNat) 63) = 16 then Ev (some (L, xs)) (Cal d) (cd 247) Q (946, [some (.inr (.inr 2000)), some (.inr (.inr 11)), some (.inr (.inr 12)), some (.inl x3)], [], w) else (if (iand (xs x3.toNat) 63) = 17 then Ev (some (L, xs)) (Cal d) (cd 247) Q (999, [some (.inr (.inr 2000)), some (.inr (.inr 11)), some (.inr (.inr 12)), some (.inl x3)], [], w) else (if (iand (xs x3.toNat) 63) = 18 then Ev (some (L, xs)) (Cal d) (cd 247) Q (1022, [some (.inr (.inr 2000)), some (.inr (.inr 11)), some (.inr (.inr 12)), some (.inl x3)], [], w) else (if (iand (xs x3.toNat) 63) = 19 then Ev (some (L, xs)) (Cal d) (cd 247) Q (1055, [some (.inr (.inr 2000)), some (.inr (.inr 11)), some (.inr (.inr 12)), some (.inl x3)], [], w) else (if (iand (xs x3.toNat) 63) = 20 then Ev (some (L, xs)) (Cal d) (cd 247) Q (1098, [some (.inr (.inr 2000)), some (.inr (.inr 11)), some (.inr (.inr 12)), some (.inl x3)], [], w) else (if (iand (xs x3.toNat) 63) = 21 then Ev (some (L, xs)) (Cal d) (cd 247) Q (1141, [some (.inr (.inr 2000)), some (.inr (.inr 11)), some (.inr (.inr 12)), some (.inl x3)], [], w) else (if (iand (xs x3.toNat) 63) = 22 then Ev (some (L, xs)) (Cal d) (cd 247) Q (1174, [some (.inr (.inr 2000)), some (.inr (.inr 11)), some (.inr (.inr 12)), some (.inl x3)], [], w) else (if (iand (xs x3.toNat) 63) = 23 then Ev (some (L, xs)) (Cal d) (cd 247) Q (1207, [some (.inr (.inr 2000)), some (.inr (.inr 11)), some (.inr (.inr 12)), some (.inl x3)], [], w) else (if (iand (xs x3.toNat) 63) = 24 then Ev (some (L, xs)) (Cal d) (cd 247) Q (1240, [some (.inr (.inr 2000)), some (.inr (.inr 11)), some (.inr (.inr 12)), some (.inl x3)], [], w) else (if (iand (xs x3.toNat) 63) = 25 then Ev (some (L, xs)) (Cal d) (cd 247) Q (1293, [some (.inr (.inr 2000)), some (.inr (.inr 11)), some (.inr (.inr 12)), some (.inl x3)], [], w) else (if (iand (xs x3.toNat) 63) = 26 then Ev (some (L, xs)) (Cal d) (cd 247) Q (1316, [some (.inr (.inr 2000)), some (.inr (.inr 11)), some (.inr (.inr 12)), some (.inl x3)], [], w) else (if (iand (xs x3.toNat) 63) = 27 then Ev (some (L, xs)) (Cal d) (cd 247) Q (1339, [some (.inr (.inr 2000)), some (.inr (.inr 11)), some (.inr (.inr 12)), some (.inl x3)], [], w) else (if (iand (xs x3.toNat) 63) = 28 then Ev (some (L, xs)) (Cal d) (cd 247) Q (1392, [some (.inr (.inr 2000)), some (.inr (.inr 11)), some (.inr (.inr 12)), some (.inl x3)], [], w) else (if (iand (xs x3.toNat) 63) = 29 then Ev (some (L, xs)) (Cal d) (cd 247) Q (1435, [some (.inr (.inr 2000)), some (.inr (.inr 11)), some (.inr (.inr 12)), some (.inl x3)], [], w) else (if (iand (xs x3.toNat) 63) = 30 then Ev (some (L, xs)) (Cal d) (cd 247) Q (1478, [some (.inr (.inr 2000)), some (.inr (.inr 11)), some (.inr (.inr 12)), some (.inl x3)], [], w) else (if (iand (xs x3.toNat) 63) = 31 then Ev (some (L, xs)) (Cal d) (cd 247) Q (1511, [some (.inr (.inr 2000)), some (.inr (.inr 11)), some (.inr (.inr 12)), some (.inl x3)], [], w) else (if (iand (xs x3.toNat) 63) = 32 then Ev (some (L, xs)) (Cal d) (cd 247) Q (1544, [some (.inr (.inr 2000)), some (.inr (.inr 11)), some (.inr (.inr 12)), some (.inl x3)], [], w) else (if (iand (xs x3.toNat) 63) = 33 then Ev (some (L, xs)) (Cal d) (cd 247) Q (1597, [some (.inr (.inr 2000)), some (.inr (.inr 11)), some (.inr (.inr 12)), some (.inl x3)], [], w) else (if (iand (xs x3.toNat) 63) = 34 then Ev (some (L, xs)) (Cal d) (cd 247) Q (1640, [some (.inr (.inr 2000)), some (.inr (.inr 11)), some (.inr (.inr 12)), some (.inl x3)], [], w) else (if (iand (xs x3.toNat) 63) = 35 then Ev (some (L, xs)) (Cal d) (cd 247) Q (1673, [some (.inr (.inr 2000)), some (.inr (.inr 11)), some (.inr (.inr 12)), some (.inl x3)], [], w) else (if (iand (xs x3.toNat) 63) = 36 then Ev (some (L, xs)) (Cal d) (cd 247) Q (1706, [some (.inr (.inr 2000)), some (.inr (.inr 11)), some (.inr (.inr 12)), some (.inl x3)], [], w) else (if (iand (xs x3.toNat) 63) = 37 then Ev (some (L, xs)) (Cal d) (cd 247) Q (1749, [some (.inr (.inr 2000)), some (.inr (.inr 11)), some (.inr (.inr 12)), some (.inl x3)], [], w) else (if (iand (xs x3.toNat) 63) = 38 then Ev (some (L, xs)) (Cal d) (cd 247) Q (1782, [some (.inr (.inr 2000)), some (.inr (.inr 11)), some (.inr (.inr 12)), some (.inl x3)], [], w) else (if (iand (xs x3.toNat) 63) = 39 then Ev (some (L, xs)) (Cal d) (cd 247) Q (1835, [some (.inr (.inr 2000)), some (.inr (.inr 11)), some (.inr (.inr 12)), some (.inl x3)], [], w) else (if (iand (xs x3.toNat) 63) = 40 then Ev (some (L, xs)) (Cal d) (cd 247) Q (1858, [some (.inr (.inr 2000)), some (.inr (.inr 11)), some (.inr (.inr 12)), some (.inl x3)], [], w) else (if (iand (xs x3.toNat) 63) = 41 then Ev (some (L, xs)) (Cal d) (cd 247) Q (1891, [some (.inr (.inr 2000)), some (.inr (.inr 11)), some (.inr (.inr 12)), some (.inl x3)], [], w) else Ev (some (L, xs)) (Cal d) (cd 247) Q (1914, [some (.inr (.inr 2000)), some (.inr (.inr 11)), some (.inr (.inr 12)), some (.inl x3)], [], w)))))))))))))))))))))))))))))))))))))))))))))) : Ev (some (L, xs)) (Cal d) (cd 247) Q (18, [some (.inr (.inr 2000)), some (.inr (.inr 11)), some (.inr (.inr 12)), some (.inl x3)], [], w) := Ev.run (Cal_m d).1 cut_247 15 h
set_option maxRecDepth 100000 in
theorem bk_247_216 {d : Nat} {L : Int} {xs : Nat → Int} {Q : Option AV → Wd → Prop} {x3 : Int} {w : Wd} (h : ((0 ≤ (wr (x3 + 1)) ∧ (wr (x3 + 1)) < L) ∧ Cal d 13 [.inr (.inr 11), .inl (xs ((wr (x3 + 1))).toNat)] w (rI fun v1 w1 => ((0 ≤ (wr (x3 + 1)) ∧ (wr (x3 + 1)) < L) ∧ Cal d 157 [.inr (.inr 12), .inl (xs ((wr (x3 + 1))).toNat)] w1 (rI fun v2 w2 => (if v1 = v2 then Ev (some (L, xs)) (Cal d) (cd 247) Q (1914, [some (.inr (.inr 2000)), some (.inr (.inr 11)), some (.inr (.inr 12)), some (.inl x3)], [], w2) else (((0 : Int) = 0 ∨ (0 : Int) = 1) ∧ Q (some (.inl 0)) w2))))))) : Ev (some (L, xs)) (Cal d) (cd 247) Q (216, [some (.inr (.inr 2000)), some (.inr (.inr 11)), some (.inr (.inr 12)), some (.inl x3)], [], w) := Ev.run (Cal_m d).1 cut_247 18 h
set_option maxRecDepth 100000 in
theorem bk_247_239 {d : Nat} {L : Int} {xs : Nat → Int} {Q : Option AV → Wd → Prop} {x3 : Int} {w : Wd} (h : ((0 ≤ (wr (x3 + 1)) ∧ (wr (x3 + 1)) < L) ∧ ((0 ≤ (wr (x3 + 2)) ∧ (wr (x3 + 2)) < L) ∧ Cal d 15 [.inr (.inr 11), .inl (xs ((wr (x3 + 1))).toNat), .inl (xs ((wr (x3 + 2))).toNat)] w (rI fun v1 w1 => ((0 ≤ (wr (x3 + 1)) ∧ (wr (x3 + 1)) < L) ∧ ((0 ≤ (wr (x3 + 2)) ∧ (wr (x3 + 2)) < L) ∧ Cal d 159 [.inr (.inr 12), .inl (xs ((wr (x3 + 1))).toNat), .inl (xs ((wr (x3 + 2))).toNat)] w1 (rI fun v2 w2 => (if v1 = v2 then Ev (some (L, xs)) (Cal d) (cd 247) Q (1914, [some (.inr (.inr 2000)), some (.inr (.inr 11)), some (.inr (.inr 12)), some (.inl x3)], [], w2) else (((0 : Int) = 0 ∨ (0 : Int) = 1) ∧ Q (some (.inl 0)) w2))))))))) : Ev (some (L, xs)) (Cal d) (cd 247) Q (239, [some (.inr (.inr 2000)), some (.inr (.inr 11)), some (.inr (.inr 12)), some (.inl x3)], [], w) := Ev.run (Cal_m d).1 cut_247 28 h
set_option maxRecDepth 100000 in
theorem bk_247_272 {d : Nat} {L : Int} {xs : Nat → Int} {Q : Option AV → Wd → Prop} {x3 : Int} {w : Wd} (h : ((0 ≤ (wr (x3 + 1)) ∧ (wr (x3 + 1)) < L) ∧ ((0 ≤ (wr (x3 + 2)) ∧ (wr (x3 + 2)) < L) ∧ ((0 ≤ (wr (x3 + 3)) ∧ (wr (x3 + 3)) < L) ∧ ((0 ≤ (wr (x3 + 4)) ∧ (wr (x3 + 4)) < L) ∧ ((0 ≤ (wr (x3 + 5)) ∧ (wr (x3 + 5)) < L) ∧ Cal d 18 [.inr (.inr 11), .inl (xs ((wr (x3 + 1))).toNat), .inl (xs ((wr (x3 + 2))).toNat), .inl (xs ((wr (x3 + 3))).toNat), .inl (xs ((wr (x3 + 4))).toNat), .inl (xs ((wr (x3 + 5))).toNat)] w (rI fun v1 w1 => ((0 ≤ (wr (x3 + 1)) ∧ (wr (x3 + 1)) < L) ∧ ((0 ≤ (wr (x3 + 2)) ∧ (wr (x3 + 2)) < L) ∧ ((0 ≤ (wr (x3 + 3)) ∧ (wr (x3 + 3)) < L) ∧ ((0 ≤ (wr (x3 + 4)) ∧ (wr (x3 + 4)) < L) ∧ ((0 ≤ (wr (x3 + 5)) ∧ (wr (x3 + 5)) < L) ∧ Cal d 161 [.inr (.inr 12), .inl (xs ((wr (x3 + 1))).toNat), .inl (xs ((wr (x3 + 2))).toNat), .inl (xs ((wr (x3 + 3))).toNat), .inl (xs ((wr (x3 + 4))).toNat), .inl (xs ((wr (x3 + 5))).toNat)] w1 (rI fun v2 w2 => (if v1 = v2 then Ev (some (L, xs)) (Cal d) (cd 247) Q (1914, [some (.inr (.inr 2000)), some (.inr (.inr 11)), some (.inr (.inr 12)), some (.inl x3)], [], w2) else (((0 : Int) = 0 ∨ (0 : Int) = 1) ∧ Q (some (.inl 0)) w2))))))))))))))) : Ev (some (L, xs)) (Cal d) (cd 247) Q (272, [some (.inr (.inr 2000)), some (.inr (.inr 11)), some (.inr (.inr 12)), some (.inl x3)], [], w) := Ev.run (Cal_m d).1 cut_247 58 h
set_option maxRecDepth 100000 in
theorem bk_247_335 {d : Nat} {L : Int} {xs : Nat → Int} {Q : Option AV → Wd → Prop} {x3 : Int} {w : Wd} (h : ((0 ≤ (wr (x3 + 1)) ∧ (wr (x3 + 1)) < L) ∧ ((0 ≤ (wr (x3 + 2)) ∧ (wr (x3 + 2)) < L) ∧ ((0 ≤ (wr (x3 + 3)) ∧ (wr (x3 + 3)) < L) ∧ ((0 ≤ (wr (x3 + 4)) ∧ (wr (x3 + 4)) < L) ∧ ((0 ≤ (wr (x3 + 5)) ∧ (wr (x3 + 5)) < L) ∧ (if (xs ((wr (x3 + 5))).toNat) = 0 then Cal d 22 [.inr (.inr 11), .inl (xs ((wr (x3 + 1))).toNat), .inl (xs ((wr (x3 + 2))).toNat), .inl (xs ((wr (x3 + 3))).toNat), .inl (xs ((wr (x3 + 4))).toNat), .inl 0] w (rI fun v1 w1 => ((0 ≤ (wr (x3 + 1)) ∧ (wr (x3 + 1)) < L) ∧ ((0 ≤ (wr (x3 + 2)) ∧ (wr (x3 + 2)) < L) ∧ ((0 ≤ (wr (x3 + 3)) ∧ (wr (x3 + 3)) < L) ∧ ((0 ≤ (wr (x3 + 4)) ∧ (wr (x3 + 4)) < L) ∧ ((0 ≤ (wr (x3 + 5)) ∧ (wr (x3 + 5)) < L) ∧ (if (xs ((wr (x3 + 5))).toNat) = 0 then Cal d 163 [.inr (.inr 12), .inl (xs ((wr (x3 + 1))).toNat), .inl (xs ((wr (x3 + 2))).toNat), .inl (xs ((wr (x3 + 3))).toNat), .inl (xs ((wr (x3 + 4))).toNat), .inl 0] w1 (rI fun v2 w2 => (if v1 = v2 then Ev (some (L, xs)) (Cal d) (cd 247) Q (1914, [some (.inr (.inr 2000)), some (.inr (.inr 11)), some (.inr (.inr 12)), some (.inl x3)], [], w2) else (((0 : Int) = 0 ∨ (0 : Int) = 1) ∧ Q (some (.inl 0)) w2))) else Cal d 163 [.inr (.inr 12), .inl (xs ((wr (x3 + 1))).toNat), .inl (xs ((wr (x3 + 2))).toNat), .inl (xs ((wr (x3 + 3))).toNat), .inl (xs ((wr (x3 + 4))).toNat), .inl 1] w1 (rI fun v3 w3 => (if v1 = v3 then Ev (some (L, xs)) (Cal d) (cd 247) Q (1914, [some (.inr (.inr 2000)), some (.inr (.inr 11)), some (.inr (.inr 12)), some (.inl x3)], [], w3) else (((0 : Int) = 0 ∨ (0 : Int) = 1) ∧ Q (some (.inl 0)) w3)))))))))) else Cal d 22 [.inr (.inr 11), .inl (xs ((wr (x3 + 1))).toNat), .inl (xs ((wr (x3 + 2))).toNat), .inl (xs ((wr (x3 + 3))).toNat), .inl (xs ((wr (x3 + 4))).toNat), .inl 1] w (rI fun v4 w4 => ((0 ≤ (wr (x3 + 1)) ∧ (wr (x3 + 1)) < L) ∧ ((0 ≤ (wr (x3 + 2)) ∧ (wr (x3 + 2)) < L) ∧ ((0 ≤ (wr (x3 + 3)) ∧ (wr (x3 + 3)) < L) ∧ ((0 ≤ (wr (x3 + 4)) ∧ (wr (x3 + 4)) < L) ∧ ((0 ≤ (wr (x3 + 5)) ∧ (wr (x3 + 5)) < L) ∧ (if (xs ((wr (x3 + 5))).toNat) = 0 then Cal d 163 [.inr (.inr 12), .inl (xs ((wr (x3 + 1))).toNat), .inl (xs ((wr (x3 + 2))).toNat), .inl (xs ((wr (x3 + 3))).toNat), .inl (xs ((wr (x3 + 4))).toNat), .inl 0] w4 (rI fun v5 w5 => (if v4 = v5 then Ev (some (L, xs)) (Cal d) (cd 247) Q (1914, [some (.inr (.inr 2000)), some (.inr (.inr 11)), some (.inr (.inr 12)), some (.inl x3)], [], w5) else (((0 : Int) = 0 ∨ (0 : Int) = 1) ∧ Q (some (.inl 0)) w5))) else Cal d 163 [.inr (.inr 12), .inl (xs ((wr (x3 + 1))).toNat), .inl (xs ((wr (x3 + 2))).toNat), .inl (xs ((wr (x3 + 3))).toNat), .inl (xs ((wr (x3 + 4))).toNat), .inl 1] w4 (rI fun v6 w6 => (if v4 = v6 then Ev (some (L, xs)) (Cal d) (cd 247) Q (1914, [some (.inr (.inr 2000)), some (.inr (.inr 11)), some (.inr (.inr 12)), some (.inl x3)], [], w6) else (((0 : Int) = 0 ∨ (0 : Int) = 1) ∧ Q (some (.inl 0)) w6))))))))))))))))) : Ev (some (L, xs)) (Cal d) (cd 247) Q (335, [some (.inr (.inr 2000)), some (.inr (.inr 11)), some (.inr (.inr 12)), some (.inl x3)], [], w) := Ev.run (Cal_m d).1 cut_247 109 h
set_option maxRecDepth 100000 in
theorem bk_247_414 {d : Nat} {L : Int} {xs : Nat → Int} {Q : Option AV → Wd → Prop} {x3 : Int} {w : Wd} (h : ((0 ≤ (wr (x3 + 1)) ∧ (wr (x3 + 1)) < L) ∧ ((0 ≤ (wr (x3 + 2)) ∧ (wr (x3 + 2)) < L) ∧ Cal d 27 [.inr (.inr 11), .inl (xs ((wr (x3 + 1))).toNat), .inl (xs ((wr (x3 + 2))).toNat)] w (rI fun v1 w1 => ((0 ≤ (wr (x3 + 1)) ∧ (wr (x3 + 1)) < L) ∧ ((0 ≤ (wr (x3 + 2)) ∧ (wr (x3 + 2)) < L) ∧ Cal d 166 [.inr (.inr 12), .inl (xs ((wr (x3 + 1))).toNat), .inl (xs ((wr (x3 + 2))).toNat)] w1 (rI fun v2 w2 => (if v1 = v2 then Ev (some (L, xs)) (Cal d) (cd 247) Q (1914, [some (.inr (.inr 2000)), some (.inr (.inr 11)), some (.inr (.inr 12)), some (.inl x3)], [], w2) else (((0 : Int) = 0 ∨ (0 : Int) = 1) ∧ Q (some (.inl 0)) w2))))))))) : Ev (some (L, xs)) (Cal d) (cd 247) Q (414, [some (.inr (.inr 2000)), some (.inr (.inr 11)), some (.inr (.inr 12)), some (.inl x3)], [], w) := Ev.run (Cal_m d).1 cut_247 28 h
set_option maxRecDepth 100000 in
theorem bk_247_447 {d : Nat} {L : Int} {xs : Nat → Int} {Q : Option AV → Wd → Prop} {x3 : Int} {w : Wd} (h : ((0 ≤ (wr (x3 + 1)) ∧ (wr (x3 + 1)) < L) ∧ ((0 ≤ (wr (x3 + 2)) ∧ (wr (x3 + 2)) < L) ∧ ((0 ≤ (wr (x3 + 3)) ∧ (wr (x3 + 3)) < L) ∧ ((0 ≤ (wr (x3 + 4)) ∧ (wr (x3 + 4)) < L) ∧ Cal d 28 [.inr (.inr 11), .inl (xs ((wr (x3 + 1))).toNat), .inl (xs ((wr (x3 + 2))).toNat), .inl (xs ((wr (x3 + 3))).toNat), .inl (xs ((wr (x3 + 4))).toNat)] w (rI fun v1 w1 => ((0 ≤ (wr (x3 + 1)) ∧ (wr (x3 + 1)) < L) ∧ ((0 ≤ (wr (x3 + 2)) ∧ (wr (x3 + 2)) < L) ∧ ((0 ≤ (wr (x3 + 3)) ∧ (wr (x3 + 3)) < L) ∧ ((0 ≤ (wr (x3 + 4)) ∧ (wr (x3 + 4)) < L) ∧ Cal d 168 [.inr (.inr 12), .inl (xs ((wr (x3 + 1))).toNat), .inl (xs ((wr (x3 + 2))).toNat), .inl (xs ((wr (x3 + 3))).toNat), .inl (xs ((wr (x3 + 4))).toNat)] w1 (rI fun v2 w2 => (if v1 = v2 then Ev (some (L, xs)) (Cal d) (cd 247) Q (1914, [some (.inr (.inr 2000)), some (.inr (.inr 11)), some (.inr (.inr 12)), some (.inl x3)], [], w2) else (((0 : Int) = 0 ∨ (0 : Int) = 1) ∧ Q (some (.inl 0)) w2))))))))))))) : Ev (some (L, xs)) (Cal d) (cd 247) Q (447, [some (.inr (.inr 2000)), some (.inr (.inr 11)), some (.inr (.inr 12)), some (.inl x3)], [], w) := Ev.run (Cal_m d).1 cut_247 48 h
set_option maxRecDepth 100000 in
theorem bk_247_500 {d : Nat} {L : Int} {xs : Nat → Int} {Q : Option AV → Wd → Prop} {x3 : Int} {w : Wd} (h : ((0 ≤ (wr (x3 + 1)) ∧ (wr (x3 + 1)) < L) ∧ ((0 ≤ (wr (x3 + 2)) ∧ (wr (x3 + 2)) < L) ∧ ((0 ≤ (wr (x3 + 3)) ∧ (wr (x3 + 3)) < L) ∧ Cal d 35 [.inr (.inr 11), .inl (xs ((wr (x3 + 1))).toNat), .inl (xs ((wr (x3 + 2))).toNat), .inl (xs ((wr (x3 + 3))).toNat)] w (rI fun v1 w1 => ((0 ≤ (wr (x3 + 1)) ∧ (wr (x3 + 1)) < L) ∧ ((0 ≤ (wr (x3 + 2)) ∧ (wr (x3 + 2)) < L) ∧ ((0 ≤ (wr (x3 + 3)) ∧ (wr (x3 + 3)) < L) ∧ Cal d 171 [.inr (.inr 12), .inl (xs ((wr (x3 + 1))).toNat), .inl (xs ((wr (x3 + 2))).toNat), .inl (xs ((wr (x3 + 3))).toNat)] w1 (rI fun v2 w2 => (if v1 = v2 then Ev (some (L, xs)) (Cal d) (cd 247) Q (1914, [some (.inr (.inr 2000)), some (.inr (.inr 11)), some (.inr (.inr 12)), some (.inl x3)], [], w2) else (((0 : Int) = 0 ∨ (0 : Int) = 1) ∧ Q (some (.inl 0)) w2))))))))))) : Ev (some (L, xs)) (Cal d) (cd 247) Q (500, [some (.inr (.inr 2000)), some (.inr (.inr 11)), some (.inr (.inr 12)), some (.inl x3)], [], w) := Ev.run (Cal_m d).1 cut_247 38 h
set_option maxRecDepth 100000 in
theorem bk_247_543 {d : Nat} {L : Int} {xs : Nat → Int} {Q : Option AV → Wd → Prop} {x3 : Int} {w : Wd} (h : ((0 ≤ (wr (x3 + 1)) ∧ (wr (x3 + 1)) < L) ∧ ((0 ≤ (wr (x3 + 2)) ∧ (wr (x3 + 2)) < L) ∧ ((0 ≤ (wr (x3 + 3)) ∧ (wr (x3 + 3)) < L) ∧ ((0 ≤ (wr (x3 + 4)) ∧ (wr (x3 + 4)) < L) ∧ Cal d 36 [.inr (.inr 11), .inl (xs ((wr (x3 + 1))).toNat), .inl (xs ((wr (x3 + 2))).toNat), .inl (xs ((wr (x3 + 3))).toNat), .inl (xs ((wr (x3 + 4))).toNat)] w (rI fun v1 w1 => ((0 ≤ (wr (x3 + 1)) ∧ (wr (x3 + 1)) < L) ∧ ((0 ≤ (wr (x3 + 2)) ∧ (wr (x3 + 2)) < L) ∧ ((0 ≤ (wr (x3 + 3)) ∧ (wr (x3 + 3)) < L) ∧ ((0 ≤ (wr (x3 + 4)) ∧ (wr (x3 + 4)) < L) ∧ Cal d 172 [.inr (.inr 12), .inl (xs ((wr (x3 + 1))).toNat), .inl (xs ((wr (x3 + 2))).toNat), .inl (xs ((wr (x3 + 3))).toNat), .inl (xs ((wr (x3 + 4))).toNat)] w1 (rI fun v2 w2 => (if v1 = v2 then Ev (some (L, xs)) (Cal d) (cd 247) Q (1914, [some (.inr (.inr 2000)), some (.inr (.inr 11)), some (.inr (.inr 12)), some (.inl x3)], [], w2) else (((0 : Int) = 0 ∨ (0 : Int) = 1) ∧ Q (some (.inl 0)) w2))))))))))))) : Ev (some (L, xs)) (Cal d) (cd 247) Q (543, [some (.inr (.inr 2000)), some (.inr (.inr 11)), some (.inr (.inr 12)), some (.inl x3)], [], w) := Ev.run (Cal_m d).1 cut_247 48 h
set_option maxRecDepth 100000 in
theorem bk_247_596 {d : Nat} {L : Int} {xs : Nat → Int} {Q : Option AV → Wd → Prop} {x3 : Int} {w : Wd} (h : ((0 ≤ (wr (x3 + 1)) ∧ (wr (x3 + 1)) < L) ∧ Cal d 38 [.inr (.inr 11), .inl (xs ((wr (x3 + 1))).toNat)] w (rI fun v1 w1 => ((0 ≤ (wr (x3 + 1)) ∧ (wr (x3 + 1)) < L) ∧ Cal d 173 [.inr (.inr 12), .inl (xs ((wr (x3 + 1))).toNat)] w1 (rI fun v2 w2 => (if v1 = v2 then Ev (some (L, xs)) (Cal d) (cd 247) Q (1914, [some (.inr (.inr 2000)), some (.inr (.inr 11)), some (.inr (.inr 12)), some (.inl x3)], [], w2) else (((0 : Int) = 0 ∨ (0 : Int) = 1) ∧ Q (some (.inl 0)) w2))))))) : Ev (some (L, xs)) (Cal d) (cd 247) Q (596, [some (.inr (.inr 2000)), some (.inr (.inr 11)), some (.inr (.inr 12)), some (.inl x3)], [], w) := Ev.run (Cal_m d).1 cut_247 18 h
set_option maxRecDepth 100000 in
theorem bk_247_619 {d : Nat} {L : Int} {xs : Nat → Int} {Q : Option AV → Wd → Prop} {x3 : Int} {w : Wd} (h : ((0 ≤ (wr (x3 + 1)) ∧ (wr (x3 + 1)) < L) ∧ ((0 ≤ (wr (x3 + 2)) ∧ (wr (x3 + 2)) < L) ∧ ((0 ≤ (wr (x3 + 3)) ∧ (wr (x3 + 3)) < L) ∧ ((0 ≤ (wr (x3 + 4)) ∧ (wr (x3 + 4)) < L) ∧ ((0 ≤ (wr (x3 + 5)) ∧ (wr (x3 + 5)) < L) ∧ Cal d 40 [.inr (.inr 11), .inl (xs ((wr (x3 + 1))).toNat), .inl (xs ((wr (x3 + 2))).toNat), .inl (xs ((wr (x3 + 3))).toNat), .inl (xs ((wr (x3 + 4))).toNat), .inl (xs ((wr (x3 + 5))).toNat)] w (rI fun v1 w1 => ((0 ≤ (wr (x3 + 1)) ∧ (wr (x3 + 1)) < L) ∧ ((0 ≤ (wr (x3 + 2)) ∧ (wr (x3 + 2)) < L) ∧ ((0 ≤ (wr (x3 + 3)) ∧ (wr (x3 + 3)) < L) ∧ ((0 ≤ (wr (x3 + 4)) ∧ (wr (x3 + 4)) < L) ∧ ((0 ≤ (wr (x3 + 5)) ∧ (wr (x3 + 5)) < L) ∧ Cal d 175 [.inr (.inr 12), .inl (xs ((wr (x3 + 1))).toNat), .inl (xs ((wr (x3 + 2))).toNat), .inl (xs ((wr (x3 + 3))).toNat), .inl (xs ((wr (x3 + 4))).toNat), .inl (xs ((wr (x3 + 5))).toNat)] w1 (rI fun v2 w2 => (if v1 = v2 then Ev (some (L, xs)) (Cal d) (cd 247) Q (1914, [some (.inr (.inr 2000)), some (.inr (.inr 11)), some (.inr (.inr 12)), some (.inl x3)], [], w2) else (((0 : Int) = 0 ∨ (0 : Int) = 1) ∧ Q (some (.inl 0)) w2))))))))))))))) : Ev (some (L, xs)) (Cal d) (cd 247) Q (619, [some (.inr (.inr 2000)), some (.inr (.inr 11)), some (.inr (.inr 12)), some (.inl x3)], [], w) := Ev.run (Cal_m d).1 cut_247 58 h
set_option maxRecDepth 100000 in
theorem bk_247_682 {d : Nat} {L : Int} {xs : Nat → Int} {Q : Option AV → Wd → Prop} {x3 : Int} {w : Wd} (h : ((0 ≤ (wr (x3 + 1)) ∧ (wr (x3 + 1)) < L) ∧ Cal d 42 [.inr (.inr 11), .inl (xs ((wr (x3 + 1))).toNat)] w (rI fun v1 w1 => ((0 ≤ (wr (x3 + 1)) ∧ (wr (x3 + 1)) < L) ∧ Cal d 176 [.inr (.inr 12), .inl (xs ((wr (x3 + 1))).toNat)] w1 (rI fun v2 w2 => (if v1 = v2 then Ev (some (L, xs)) (Cal d) (cd 247) Q (1914, [some (.inr (.inr 2000)), some (.inr (.inr 11)), some (.inr (.inr 12)), some (.inl x3)], [], w2) else (((0 : Int) = 0 ∨ (0 : Int) = 1) ∧ Q (some (.inl 0)) w2))))))) : Ev (some (L, xs)) (Cal d) (cd 247) Q (682, [some (.inr (.inr 2000)), some (.inr (.inr 11)), some (.inr (.inr 12)), some (.inl x3)], [], w) := Ev.run (Cal_m d).1 cut_247 18 h
set_option maxRecDepth 100000 in
theorem bk_247_705 {d : Nat} {L : Int} {xs : Nat → Int} {Q : Option AV → Wd → Prop} {x3 : Int} {w : Wd} (h : ((0 ≤ (wr (x3 + 1)) ∧ (wr (x3 + 1)) < L) ∧ ((0 ≤ (wr (x3 + 2)) ∧ (wr (x3 + 2)) < L) ∧ ((0 ≤ (wr (x3 + 3)) ∧ (wr (x3 + 3)) < L) ∧ Cal d 43 [.inr (.inr 11), .inl (xs ((wr (x3 + 1))).toNat), .inr (.inl (lor (lshl (xs ((wr (x3 + 2))).toNat) 32) (land (xs ((wr (x3 + 3))).toNat) 4294967295)))] w (rI fun v1 w1 => ((0 ≤ (wr (x3 + 1)) ∧ (wr (x3 + 1)) < L) ∧ ((0 ≤ (wr (x3 + 2)) ∧ (wr (x3 + 2)) < L) ∧ ((0 ≤ (wr (x3 + 3)) ∧ (wr (x3 + 3)) < L) ∧ Cal d 177 [.inr (.inr 12), .inl (xs ((wr (x3 + 1))).toNat), .inr (.inl (lor (lshl (xs ((wr (x3 + 2))).toNat) 32) (land (xs ((wr (x3 + 3))).toNat) 4294967295)))] w1 (rI fun v2 w2 => (if v1 = v2 then Ev (some (L, xs)) (Cal d) (cd 247) Q (1914, [some (.inr (.inr 2000)), some (.inr (.inr 11)), some (.inr (.inr 12)), some (.inl x3)], [], w2) else (((0 : Int) = 0 ∨ (0 : Int) = 1) ∧ Q (some (.inl 0)) w2))))))))))) : Ev (some (L, xs)) (Cal d) (cd 247) Q (705, [some (.inr (.inr 2000)), some (.inr (.inr 11)), some (.inr (.inr 12)), some (.inl x3)], [], w) := Ev.run (Cal_m d).1 cut_247 52 h
set_option maxRecDepth 100000 in
theorem bk_247_768 {d : Nat} {L : Int} {xs : Nat → Int} {Q : Option AV → Wd → Prop} {x3 : Int} {w : Wd} (h : ((0 ≤ (wr (x3 + 1)) ∧ (wr (x3 + 1)) < L) ∧ (if (xs ((wr (x3 + 1))).toNat) = 0 then Cal d 45 [.inr (.inr 11), .inl 0] w (rI fun v1 w1 => ((0 ≤ (wr (x3 + 1)) ∧ (wr (x3 + 1)) < L) ∧ (if (xs ((wr (x3 + 1))).toNat) = 0 then Cal d 178 [.inr (.inr 12), .inl 0] w1 (rI fun v2 w2 => (if v1 = v2 then Ev (some (L, xs)) (Cal d) (cd 247) Q (1914, [some (.inr (.inr 2000)), some (.inr (.inr 11)), some (.inr (.inr 12)), some (.inl x3)], [], w2) else (((0 : Int) = 0 ∨ (0 : Int) = 1) ∧ Q (some (.inl 0)) w2))) else Cal d 178 [.inr (.inr 12), .inl 1] w1 (rI fun v3 w3 => (if v1 = v3 then Ev (some (L, xs)) (Cal d) (cd 247) Q (1914, [some (.inr (.inr 2000)), some (.inr (.inr 11)), some (.inr (.inr 12)), some (.inl x3)], [], w3) else (((0 : Int) = 0 ∨ (0 : Int) = 1) ∧ Q (some (.inl 0)) w3)))))) else Cal d 45 [.inr (.inr 11), .inl 1] w (rI fun v4 w4 => ((0 ≤ (wr (x3 + 1)) ∧ (wr (x3 + 1)) < L) ∧ (if (xs ((wr (x3 + 1))).toNat) = 0 then Cal d 178 [.inr (.inr 12), .inl 0] w4 (rI fun v5 w5 => (if v4 = v5 then Ev (some (L, xs)) (Cal d) (cd 247) Q (1914, [some (.inr (.inr 2000)), some (.inr (.inr 11)), some (.inr (.inr 12)), some (.inl x3)], [], w5) else (((0 : Int) = 0 ∨ (0 : Int) = 1) ∧ Q (some (.inl 0)) w5))) else Cal d 178 [.inr (.inr 12), .inl 1] w4 (rI fun v6 w6 => (if v4 = v6 then Ev (some (L, xs)) (Cal d) (cd 247) Q (1914, [some (.inr (.inr 2000)), some (.inr (.inr 11)), some (.inr (.inr 12)), some (.inl x3)], [], w6) else (((0 : Int) = 0 ∨ (0 : Int) = 1) ∧ Q (some (.inl 0)) w6))))))))) : Ev (some (L, xs)) (Cal d) (cd 247) Q (768, [some (.inr (.inr 2000)), some (.inr (.inr 11)), some (.inr (.inr 12)), some (.inl x3)], [], w) := Ev.run (Cal_m d).1 cut_247 49 h
set_option maxRecDepth 100000 in
theorem bk_247_807 {d : Nat} {L : Int} {xs : Nat → Int} {Q : Option AV → Wd → Prop} {x3 : Int} {w : Wd} (h : ((0 ≤ (wr (x3 + 1)) ∧ (wr (x3 + 1)) < L) ∧ ((0 ≤ (wr (x3 + 2)) ∧ (wr (x3 + 2)) < L) ∧ ((0 ≤ (wr (x3 + 3)) ∧ (wr (x3 + 3)) < L) ∧ Cal d 72 [.inr (.inr 11), .inl (xs ((wr (x3 + 1))).toNat), .inl (xs ((wr (x3 + 2))).toNat), .inl (xs ((wr (x3 + 3))).toNat)] w (rI fun v1 w1 => ((0 ≤ (wr (x3 + 1)) ∧ (wr (x3 + 1)) < L) ∧ ((0 ≤ (wr (x3 + 2)) ∧ (wr (x3 + 2)) < L) ∧ ((0 ≤ (wr (x3 + 3)) ∧ (wr (x3 + 3)) < L) ∧ Cal d 187 [.inr (.inr 12), .inl (xs ((wr (x3 + 1))).toNat), .inl (xs ((wr (x3 + 2))).toNat), .inl (xs ((wr (x3 + 3))).toNat)] w1 (rI fun v2 w2 => (if v1 = v2 then Ev (some (L, xs)) (Cal d) (cd 247) Q (1914, [some (.inr (.inr 2000)), some (.inr (.inr 11)), some (.inr (.inr 12)), some (.inl x3)], [], w2) else (((0 : Int) = 0 ∨ (0 : Int) = 1) ∧ Q (some (.inl 0)) w2))))))))))) : Ev (some (L, xs)) (Cal d) (cd 247) Q (807, [some (.inr (.inr 2000)), some (.inr (.inr 11)), some (.inr (.inr 12)), some (.inl x3)], [], w) := Ev.run (Cal_m d).1 cut_247 38 h
set_option maxRecDepth 100000 in
theorem bk_247_850 {d : Nat} {L : Int} {xs : Nat → Int} {Q : Option AV → Wd → Prop} {x3 : Int} {w : Wd} (h : ((0 ≤ (wr (x3 + 1)) ∧ (wr (x3 + 1)) < L) ∧ ((0 ≤ (wr (x3 + 2)) ∧ (wr (x3 + 2)) < L) ∧ ((0 ≤ (wr (x3 + 3)) ∧ (wr (x3 + 3)) < L) ∧ ((0 ≤ (wr (x3 + 4)) ∧ (wr (x3 + 4)) < L) ∧ Cal d 75 [.inr (.inr 11), .inl (xs ((wr (x3 + 1))).toNat), .inl (xs ((wr (x3 + 2))).toNat), .inl (xs ((wr (x3 + 3))).toNat), .inl (xs ((wr (x3 + 4))).toNat)] w (rI fun v1 w1 => ((0 ≤ (wr (x3 + 1)) ∧ (wr (x3 + 1)) < L) ∧ ((0 ≤ (wr (x3 + 2)) ∧ (wr (x3 + 2)) < L) ∧ ((0 ≤ (wr (x3 + 3)) ∧ (wr (x3 + 3)) < L) ∧ ((0 ≤ (wr (x3 + 4)) ∧ (wr (x3 + 4)) < L) ∧ Cal d 189 [.inr (.inr 12), .inl (xs ((wr (x3 + 1))).toNat), .inl (xs ((wr (x3 + 2))).toNat), .inl (xs ((wr (x3 + 3))).toNat), .inl (xs ((wr (x3 + 4))).toNat)] w1 (rI fun v2 w2 => (if v1 = v2 then Ev (some (L, xs)) (Cal d) (cd 247) Q (1914, [some (.inr (.inr 2000)), some (.inr (.inr 11)), some (.inr (.inr 12)), some (.inl x3)], [], w2) else (((0 : Int) = 0 ∨ (0 : Int) = 1) ∧ Q (some (.inl 0)) w2))))))))))))) : Ev (some (L, xs)) (Cal d) (cd 247) Q (850, [some (.inr (.inr 2000)), some (.inr (.inr 11)), some (.inr (.inr 12)), some (.inl x3)], [], w) := Ev.run (Cal_m d).1 cut_247 48 h
set_option maxRecDepth 100000 in
theorem bk_247_903 {d : Nat} {L : Int} {xs : Nat → Int} {Q : Option AV → Wd → Prop} {x3 : Int} {w : Wd} (h : ((0 ≤ (wr (x3 + 1)) ∧ (wr (x3 + 1)) < L) ∧ ((0 ≤ (wr (x3 + 2)) ∧ (wr (x3 + 2)) < L) ∧ ((0 ≤ (wr (x3 + 3)) ∧ (wr (x3 + 3)) < L) ∧ Cal d 80 [.inr (.inr 11), .inl (xs ((wr (x3 + 1))).toNat), .inl (xs ((wr (x3 + 2))).toNat), .inl (xs ((wr (x3 + 3))).toNat)] w (rI fun v1 w1 => ((0 ≤ (wr (x3 + 1)) ∧ (wr (x3 + 1)) < L) ∧ ((0 ≤ (wr (x3 + 2)) ∧ (wr (x3 + 2)) < L) ∧ ((0 ≤ (wr (x3 + 3)) ∧ (wr (x3 + 3)) < L) ∧ Cal d 194 [.inr (.inr 12), .inl (xs ((wr (x3 + 1))).toNat), .inl (xs ((wr (x3 + 2))).toNat), .inl (xs ((wr (x3 + 3))).toNat)] w1 (rI fun v2 w2 => (if v1 = v2 then Ev (some (L, xs)) (Cal d) (cd 247) Q (1914, [some (.inr (.inr 2000)), some (.inr (.inr 11)), some (.inr (.inr 12)), some (.inl x3)], [], w2) else (((0 : Int) = 0 ∨ (0 : Int) = 1) ∧ Q (some (.inl 0)) w2))))))))))) : Ev (some (L, xs)) (Cal d) (cd 247) Q (903, [some (.inr (.inr 2000)), some (.inr (.inr 11)), some (.inr (.inr 12)), some (.inl x3)], [], w) := Ev.run (Cal_m d).1 cut_247 38 h
set_option maxRecDepth 100000 in
theorem bk_247_946 {d : Nat} {L : Int} {xs : Nat → Int} {Q : Option AV → Wd → Prop} {x3 : Int} {w : Wd} (h : ((0 ≤ (wr (x3 + 1)) ∧ (wr (x3 + 1)) < L) ∧ ((0 ≤ (wr (x3 + 2)) ∧ (wr (x3 + 2)) < L) ∧ ((0 ≤ (wr (x3 + 3)) ∧ (wr (x3 + 3)) < L) ∧ ((0 ≤ (wr (x3 + 4)) ∧ (wr (x3 + 4)) < L) ∧ Cal d 81 [.inr (.inr 11), .inl (xs ((wr (x3 + 1))).toNat), .inl (xs ((wr (x3 + 2))).toNat), .inl (xs ((wr (x3 + 3))).toNat), .inl (xs ((wr (x3 + 4))).toNat)] w (rI fun v1 w1 => ((0 ≤ (wr (x3 + 1)) ∧ (wr (x3 + 1)) < L) ∧ ((0 ≤ (wr (x3 + 2)) ∧ (wr (x3 + 2)) < L) ∧ ((0 ≤ (wr (x3 + 3)) ∧ (wr (x3 + 3)) < L) ∧ ((0 ≤ (wr (x3 + 4)) ∧ (wr (x3 + 4)) < L) ∧ Cal d 195 [.inr (.inr 12), .inl (xs ((wr (x3 + 1))).toNat), .inl (xs ((wr (x3 + 2))).toNat), .inl (xs ((wr (x3 + 3))).toNat), .inl (xs ((wr (x3 + 4))).toNat)] w1 (rI fun v2 w2 => (if v1 = v2 then Ev (some (L, xs)) (Cal d) (cd 247) Q (1914, [some (.inr (.inr 2000)), some (.inr (.inr 11)), some (.inr (.inr 12)), some (.inl x3)], [], w2) else (((0 : Int) = 0 ∨ (0 : Int) = 1) ∧ Q (some (.inl 0)) w2))))))))))))) : Ev (some (L, xs)) (Cal d) (cd 247) Q (946, [some (.inr (.inr 2000)), some (.inr (.inr 11)), some (.inr (.inr 12)), some (.inl x3)], [], w) := Ev.run (Cal_m d).1 cut_247 48 h
set_option maxRecDepth 100000 in
theorem bk_247_999 {d : Nat} {L : Int} {xs : Nat → Int} {Q : Option AV → Wd → Prop} {x3 : Int} {w : Wd} (h : ((0 ≤ (wr (x3 + 1)) ∧ (wr (x3 + 1)) < L) ∧ Cal d 83 [.inr (.inr 11), .inl (xs ((wr (x3 + 1))).toNat)] w (rI fun v1 w1 => ((0 ≤ (wr (x3 + 1)) ∧ (wr (x3 + 1)) < L) ∧ Cal d 196 [.inr (.inr 12), .inl (xs ((wr (x3 + 1))).toNat)] w1 (rI fun v2 w2 => (if v1 = v2 then Ev (some (L, xs)) (Cal d) (cd 247) Q (1914, [some (.inr (.inr 2000)), some (.inr (.inr 11)), some (.inr (.inr 12)), some (.inl x3)], [], w2) else (((0 : Int) = 0 ∨ (0 : Int) = 1) ∧ Q (some (.inl 0)) w2))))))) : Ev (some (L, xs)) (Cal d) (cd 247) Q (999, [some (.inr (.inr 2000)), some (.inr (.inr 11)), some (.inr (.inr 12)), some (.inl x3)], [], w) := Ev.run (Cal_m d).1 cut_247 18 h
set_option maxRecDepth 100000 in
theorem bk_247_1022 {d : Nat} {L : Int} {xs : Nat → Int} {Q : Option AV → Wd → Prop} {x3 : Int} {w : Wd} (h : ((0 ≤ (wr (x3 + 1)) ∧ (wr (x3 + 1)) < L) ∧ ((0 ≤ (wr (x3 + 2)) ∧ (wr (x3 + 2)) < L) ∧ Cal d 88 [.inr (.inr 11), .inl (xs ((wr (x3 + 1))).toNat), .inl (xs ((wr (x3 + 2))).toNat)] w (rI fun v1 w1 => ((0 ≤ (wr (x3 + 1)) ∧ (wr (x3 + 1)) < L) ∧ ((0 ≤ (wr (x3 + 2)) ∧ (wr (x3 + 2)) < L) ∧ Cal d 198 [.inr (.inr 12), .inl (xs ((wr (x3 + 1))).toNat), .inl (xs ((wr (x3 + 2))).toNat)] w1 (rI fun v2 w2 => (if v1 = v2 then Ev (some (L, xs)) (Cal d) (cd 247) Q (1914, [some (.inr (.inr 2000)), some (.inr (.inr 11)), some (.inr (.inr 12)), some (.inl x3)], [], w2) else (((0 : Int) = 0 ∨ (0 : Int) = 1) ∧ Q (some (.inl 0)) w2))))))))) : Ev (some (L, xs)) (Cal d) (cd 247) Q (1022, [some (.inr (.inr 2000)), some (.inr (.inr 11)), some (.inr (.inr 12)), some (.inl x3)], [], w) := Ev.run (Cal_m d).1 cut_247 28 h
set_option maxRecDepth 100000 in
theorem bk_247_1055 {d : Nat} {L : Int} {xs : Nat → Int} {Q : Option AV → Wd → Prop} {x3 : Int} {w : Wd} (h : ((0 ≤ (wr (x3 + 1)) ∧ (wr (x3 + 1)) < L) ∧ ((0 ≤ (wr (x3 + 2)) ∧ (wr (x3 + 2)) < L) ∧ ((0 ≤ (wr (x3 + 3)) ∧ (wr (x3 + 3)) < L) ∧ Cal d 89 [.inr (.inr 11), .inl (xs ((wr (x3 + 1))).toNat), .inl (xs ((wr (x3 + 2))).toNat), .inl (xs ((wr (x3 + 3))).toNat)] w (rI fun v1 w1 => ((0 ≤ (wr (x3 + 1)) ∧ (wr (x3 + 1)) < L) ∧ ((0 ≤ (wr (x3 + 2)) ∧ (wr (x3 + 2)) < L) ∧ ((0 ≤ (wr (x3 + 3)) ∧ (wr (x3 + 3)) < L) ∧ Cal d 199 [.inr (.inr 12), .inl (xs ((wr (x3 + 1))).toNat), .inl (xs ((wr (x3 + 2))).toNat), .inl (xs ((wr (x3 + 3))).toNat)] w1 (rI fun v2 w2 => (if v1 = v2 then Ev (some (L, xs)) (Cal d) (cd 247) Q (1914, [some (.inr (.inr 2000)), some (.inr (.inr 11)), some (.inr (.inr 12)), some (.inl x3)], [], w2) else (((0 : Int) = 0 ∨ (0 : Int) = 1) ∧ Q (some (.inl 0)) w2))))))))))) : Ev (some (L, xs)) (Cal d) (cd 247) Q (1055, [some (.inr (.inr 2000)), some (.inr (.inr 11)), some (.inr (.inr 12)), some (.inl x3)], [], w) := Ev.run (Cal_m d).1 cut_247 38 h
set_option maxRecDepth 100000 in
theorem bk_247_1098 {d : Nat} {L : Int} {xs : Nat → Int} {Q : Option AV → Wd → Prop} {x3 : Int} {w : Wd} (h : ((0 ≤ (wr (x3 + 1)) ∧ (wr (x3 + 1)) < L) ∧ ((0 ≤ (wr (x3 + 2)) ∧ (wr (x3 + 2)) < L) ∧ ((0 ≤ (wr (x3 + 3)) ∧ (wr (x3 + 3)) < L) ∧ Cal d 90 [.inr (.inr 11), .inl (xs ((wr (x3 + 1))).toNat), .inl (xs ((wr (x3 + 2))).toNat), .inl (xs ((wr (x3 + 3))).toNat)] w (rI fun v1 w1 => ((0 ≤ (wr (x3 + 1)) ∧ (wr (x3 + 1)) < L) ∧ ((0 ≤ (wr (x3 + 2)) ∧ (wr (x3 + 2)) < L) ∧ ((0 ≤ (wr (x3 + 3)) ∧ (wr (x3 + 3)) < L) ∧ Cal d 200 [.inr (.inr 12), .inl (xs ((wr (x3 + 1))).toNat), .inl (xs ((wr (x3 + 2))).toNat), .inl (xs ((wr (x3 + 3))).toNat)] w1 (rI fun v2 w2 => (if v1 = v2 then Ev (some (L, xs)) (Cal d) (cd 247) Q (1914, [some (.inr (.inr 2000)), some (.inr (.inr 11)), some (.inr (.inr 12)), some (.inl x3)], [], w2) else (((0 : Int) = 0 ∨ (0 : Int) = 1) ∧ Q (some (.inl 0)) w2))))))))))) : Ev (some (L, xs)) (Cal d) (cd 247) Q (1098, [some (.inr (.inr 2000)), some (.inr (.inr 11)), some (.inr (.inr 12)), some (.inl x3)], [], w) := Ev.run (Cal_m d).1 cut_247 38 h
set_option maxRecDepth 100000 in
theorem bk_247_1141 {d : Nat} {L : Int} {xs : Nat → Int} {Q : Option AV → Wd → Prop} {x3 : Int} {w : Wd} (h : ((0 ≤ (wr (x3 + 1)) ∧ (wr (x3 + 1)) < L) ∧ ((0 ≤ (wr (x3 + 2)) ∧ (wr (x3 + 2)) < L) ∧ Cal d 92 [.inr (.inr 11), .inl (xs ((wr (x3 + 1))).toNat), .inl (xs ((wr (x3 + 2))).toNat)] w (rI fun v1 w1 => ((0 ≤ (wr (x3 + 1)) ∧ (wr (x3 + 1)) < L) ∧ ((0 ≤ (wr (x3 + 2)) ∧ (wr (x3 + 2)) < L) ∧ Cal d 202 [.inr (.inr 12), .inl (xs ((wr (x3 + 1))).toNat), .inl (xs ((wr (x3 + 2))).toNat)] w1 (rI fun v2 w2 => (if v1 = v2 then Ev (some (L, xs)) (Cal d) (cd 247) Q (1914, [some (.inr (.inr 2000)), some (.inr (.inr 11)), some (.inr (.inr 12)), some (.inl x3)], [], w2) else (((0 : Int) = 0 ∨ (0 : Int) = 1) ∧ Q (some (.inl 0)) w2))))))))) : Ev (some (L, xs)) (Cal d) (cd 247) Q (1141, [some (.inr (.inr 2000)), some (.inr (.inr 11)), some (.inr (.inr 12)), some (.inl x3)], [], w) := Ev.run (Cal_m d).1 cut_247 28 h
set_option maxRecDepth 100000 in
theorem bk_247_1174 {d : Nat} {L : Int} {xs : Nat → Int} {Q : Option AV → Wd → Prop} {x3 : Int} {w : Wd} (h : ((0 ≤ (wr (x3 + 1)) ∧ (wr (x3 + 1)) < L) ∧ ((0 ≤ (wr (x3 + 2)) ∧ (wr (x3 + 2)) < L) ∧ Cal d 98 [.inr (.inr 11), .inl (xs ((wr (x3 + 1))).toNat), .inl (xs ((wr (x3 + 2))).toNat)] w (rI fun v1 w1 => ((0 ≤ (wr (x3 + 1)) ∧ (wr (x3 + 1)) < L) ∧ ((0 ≤ (wr (x3 + 2)) ∧ (wr (x3 + 2)) < L) ∧ Cal d 205 [.inr (.inr 12), .inl (xs ((wr (x3 + 1))).toNat), .inl (xs ((wr (x3 + 2))).toNat)] w1 (rI fun v2 w2 => (if v1 = v2 then Ev (some (L, xs)) (Cal d) (cd 247) Q (1914, [some (.inr (.inr 2000)), some (.inr (.inr 11)), some (.inr (.inr 12)), some (.inl x3)], [], w2) else (((0 : Int) = 0 ∨ (0 : Int) = 1) ∧ Q (some (.inl 0)) w2))))))))) : Ev (some (L, xs)) (Cal d) (cd 247) Q (1174, [some (.inr (.inr 2000)), some (.inr (.inr 11)), some (.inr (.inr 12)), some (.inl x3)], [], w) := Ev.run (Cal_m d).1 cut_247 28 h
set_option maxRecDepth 100000 in
theorem bk_247_1207 {d : Nat} {L : Int} {xs : Nat → Int} {Q : Option AV → Wd → Prop} {x3 : Int} {w : Wd} (h : ((0 ≤ (wr (x3 + 1)) ∧ (wr (x3 + 1)) < L) ∧ ((0 ≤ (wr (x3 + 2)) ∧ (wr (x3 + 2)) < L) ∧ Cal d 101 [.inr (.inr 11), .inl (xs ((wr (x3 + 1))).toNat), .inl (xs ((wr (x3 + 2))).toNat)] w (rI fun v1 w1 => ((0 ≤ (wr (x3 + 1)) ∧ (wr (x3 + 1)) < L) ∧ ((0 ≤ (wr (x3 + 2)) ∧ (wr (x3 + 2)) < L) ∧ Cal d 207 [.inr (.inr 12), .inl (xs ((wr (x3 + 1))).toNat), .inl (xs ((wr (x3 + 2))).toNat)] w1 (rI fun v2 w2 => (if v1 = v2 then Ev (some (L, xs)) (Cal d) (cd 247) Q (1914, [some (.inr (.inr 2000)), some (.inr (.inr 11)), some (.inr (.inr 12)), some (.inl x3)], [], w2) else (((0 : Int) = 0 ∨ (0 : Int) = 1) ∧ Q (some (.inl 0)) w2))))))))) : Ev (some (L, xs)) (Cal d) (cd 247) Q (1207, [some (.inr (.inr 2000)), some (.inr (.inr 11)), some (.inr (.inr 12)), some (.inl x3)], [], w) := Ev.run (Cal_m d).1 cut_247 28 h
set_option maxRecDepth 100000 in
theorem bk_247_1240 {d : Nat} {L : Int} {xs : Nat → Int} {Q : Option AV → Wd → Prop} {x3 : Int} {w : Wd} (h : ((0 ≤ (wr (x3 + 1)) ∧ (wr (x3 + 1)) < L) ∧ ((0 ≤ (wr (x3 + 2)) ∧ (wr (x3 + 2)) < L) ∧ ((0 ≤ (wr (x3 + 3)) ∧ (wr (x3 + 3)) < L) ∧ ((0 ≤ (wr (x3 + 4)) ∧ (wr (x3 + 4)) < L) ∧ Cal d 107 [.inr (.inr 11), .inl (xs ((wr (x3 + 1))).toNat), .inl (xs ((wr (x3 + 2))).toNat), .inl (xs ((wr (x3 + 3))).toNat), .inl (xs ((wr (x3 + 4))).toNat)] w (rI fun v1 w1 => ((0 ≤ (wr (x3 + 1)) ∧ (wr (x3 + 1)) < L) ∧ ((0 ≤ (wr (x3 + 2)) ∧ (wr (x3 + 2)) < L) ∧ ((0 ≤ (wr (x3 + 3)) ∧ (wr (x3 + 3)) < L) ∧ ((0 ≤ (wr (x3 + 4)) ∧ (wr (x3 + 4)) < L) ∧ Cal d 209 [.inr (.inr 12), .inl (xs ((wr (x3 + 1))).toNat), .inl (xs ((wr (x3 + 2))).toNat), .inl (xs ((wr (x3 + 3))).toNat), .inl (xs ((wr (x3 + 4))).toNat)] w1 (rI fun v2 w2 => (if v1 = v2 then Ev (some (L, xs)) (Cal d) (cd 247) Q (1914, [some (.inr (.inr 2000)), some (.inr (.inr 11)), some (.inr (.inr 12)), some (.inl x3)], [], w2) else (((0 : Int) = 0 ∨ (0 : Int) = 1) ∧ Q (some (.inl 0)) w2))))))))))))) : Ev (some (L, xs)) (Cal d) (cd 247) Q (1240, [some (.inr (.inr 2000)), some (.inr (.inr 11)), some (.inr (.inr 12)), some (.inl x3)], [], w) := Ev.run (Cal_m d).1 cut_247 48 h
set_option maxRecDepth 100000 in
theorem bk_247_1293 {d : Nat} {L : Int} {xs : Nat → Int} {Q : Option AV → Wd → Prop} {x3 : Int} {w : Wd} (h : ((0 ≤ (wr (x3 + 1)) ∧ (wr (x3 + 1)) < L) ∧ Cal d 111 [.inr (.inr 11), .inl (xs ((wr (x3 + 1))).toNat)] w (rI fun v1 w1 => ((0 ≤ (wr (x3 + 1)) ∧ (wr (x3 + 1)) < L) ∧ Cal d 210 [.inr (.inr 12), .inl (xs ((wr (x3 + 1))).toNat)] w1 (rI fun v2 w2 => (if v1 = v2 then Ev (some (L, xs)) (Cal d) (cd 247) Q (1914, [some (.inr (.inr 2000)), some (.inr (.inr 11)), some (.inr (.inr 12)), some (.inl x3)], [], w2) else (((0 : Int) = 0 ∨ (0 : Int) = 1) ∧ Q (some (.inl 0)) w2))))))) : Ev (some (L, xs)) (Cal d) (cd 247) Q (1293, [some (.inr (.inr 2000)), some (.inr (.inr 11)), some (.inr (.inr 12)), some (.inl x3)], [], w) := Ev.run (Cal_m d).1 cut_247 18 h
set_option maxRecDepth 100000 in
theorem bk_247_1316 {d : Nat} {L : Int} {xs : Nat → Int} {Q : Option AV → Wd → Prop} {x3 : Int} {w : Wd} (h : ((0 ≤ (wr (x3 + 1)) ∧ (wr (x3 + 1)) < L) ∧ Cal d 113 [.inr (.inr 11), .inl (xs ((wr (x3 + 1))).toNat)] w (rI fun v1 w1 => ((0 ≤ (wr (x3 + 1)) ∧ (wr (x3 + 1)) < L) ∧ Cal d 213 [.inr (.inr 12), .inl (xs ((wr (x3 + 1))).toNat)] w1 (rI fun v2 w2 => (if v1 = v2 then Ev (some (L, xs)) (Cal d) (cd 247) Q (1914, [some (.inr (.inr 2000)), some (.inr (.inr 11)), some (.inr (.inr 12)), some (.inl x3)], [], w2) else (((0 : Int) = 0 ∨ (0 : Int) = 1) ∧ Q (some (.inl 0)) w2))))))) : Ev (some (L, xs)) (Cal d) (cd 247) Q (1316, [some (.inr (.inr 2000)), some (.inr (.inr 11)), some (.inr (.inr 12)), some (.inl x3)], [], w) := Ev.run (Cal_m d).1 cut_247 18 h
set_option maxRecDepth 100000 in
theorem bk_247_1339 {d : Nat} {L : Int} {xs : Nat → Int} {Q : Option AV → Wd → Prop} {x3 : Int} {w : Wd} (h : ((0 ≤ (wr (x3 + 1)) ∧ (wr (x3 + 1)) < L) ∧ ((0 ≤ (wr (x3 + 2)) ∧ (wr (x3 + 2)) < L) ∧ ((0 ≤ (wr (x3 + 3)) ∧ (wr (x3 + 3)) < L) ∧ ((0 ≤ (wr (x3 + 4)) ∧ (wr (x3 + 4)) < L) ∧ Cal d 116 [.inr (.inr 11), .inl (xs ((wr (x3 + 1))).toNat), .inl (xs ((wr (x3 + 2))).toNat), .inl (xs ((wr (x3 + 3))).toNat), .inl (xs ((wr (x3 + 4))).toNat)] w (rI fun v1 w1 => ((0 ≤ (wr (x3 + 1)) ∧ (wr (x3 + 1)) < L) ∧ ((0 ≤ (wr (x3 + 2)) ∧ (wr (x3 + 2)) < L) ∧ ((0 ≤ (wr (x3 + 3)) ∧ (wr (x3 + 3)) < L) ∧ ((0 ≤ (wr (x3 + 4)) ∧ (wr (x3 + 4)) < L) ∧ Cal d 216 [.inr (.inr 12), .inl (xs ((wr (x3 + 1))).toNat), .inl (xs ((wr (x3 + 2))).toNat), .inl (xs ((wr (x3 + 3))).toNat), .inl (xs ((wr (x3 + 4))).toNat)] w1 (rI fun v2 w2 => (if v1 = v2 then Ev (some (L, xs)) (Cal d) (cd 247) Q (1914, [some (.inr (.inr 2000)), some (.inr (.inr 11)), some (.inr (.inr 12)), some (.inl x3)], [], w2) else (((0 : Int) = 0 ∨ (0 : Int) = 1) ∧ Q (some (.inl 0)) w2))))))))))))) : Ev (some (L, xs)) (Cal d) (cd 247) Q (1339, [some (.inr (.inr 2000)), some (.inr (.inr 11)), some (.inr (.inr 12)), some (.inl x3)], [], w) := Ev.run (Cal_m d).1 cut_247 48 h
set_option maxRecDepth 100000 in
theorem bk_247_1392 {d : Nat} {L : Int} {xs : Nat → Int} {Q : Option AV → Wd → Prop} {x3 : Int} {w : Wd} (h : ((0 ≤ (wr (x3 + 1)) ∧ (wr (x3 + 1)) < L) ∧ ((0 ≤ (wr (x3 + 2)) ∧ (wr (x3 + 2)) < L) ∧ ((0 ≤ (wr (x3 + 3)) ∧ (wr (x3 + 3)) < L) ∧ Cal d 120 [.inr (.inr 11), .inl (xs ((wr (x3 + 1))).toNat), .inl (xs ((wr (x3 + 2))).toNat), .inl (xs ((wr (x3 + 3))).toNat)] w (rI fun v1 w1 => ((0 ≤ (wr (x3 + 1)) ∧ (wr (x3 + 1)) < L) ∧ ((0 ≤ (wr (x3 + 2)) ∧ (wr (x3 + 2)) < L) ∧ ((0 ≤ (wr (x3 + 3)) ∧ (wr (x3 + 3)) < L) ∧ Cal d 218 [.inr (.inr 12), .inl (xs ((wr (x3 + 1))).toNat), .inl (xs ((wr (x3 + 2))).toNat), .inl (xs ((wr (x3 + 3))).toNat)] w1 (rI fun v2 w2 => (if v1 = v2 then Ev (some (L, xs)) (Cal d) (cd 247) Q (1914, [some (.inr (.inr 2000)), some (.inr (.inr 11)), some (.inr (.inr 12)), some (.inl x3)], [], w2) else (((0 : Int) = 0 ∨ (0 : Int) = 1) ∧ Q (some (.inl 0)) w2))))))))))) : Ev (some (L, xs)) (Cal d) (cd 247) Q (1392, [some (.inr (.inr 2000)), some (.inr (.inr 11)), some (.inr (.inr 12)), some (.inl x3)], [], w) := Ev.run (Cal_m d).1 cut_247 38 h
set_option maxRecDepth 100000 in
theorem bk_247_1435 {d : Nat} {L : Int} {xs : Nat → Int} {Q : Option AV → Wd → Prop} {x3 : Int} {w : Wd} (h : ((0 ≤ (wr (x3 + 1)) ∧ (wr (x3 + 1)) < L) ∧ ((0 ≤ (wr (x3 + 2)) ∧ (wr (x3 + 2)) < L) ∧ ((0 ≤ (wr (x3 + 3)) ∧ (wr (x3 + 3)) < L) ∧ Cal d 126 [.inr (.inr 11), .inl (xs ((wr (x3 + 1))).toNat), .inl (xs ((wr (x3 + 2))).toNat), .inl (xs ((wr (x3 + 3))).toNat)] w (rI fun v1 w1 => ((0 ≤ (wr (x3 + 1)) ∧ (wr (x3 + 1)) < L) ∧ ((0 ≤ (wr (x3 + 2)) ∧ (wr (x3 + 2)) < L) ∧ ((0 ≤ (wr (x3 + 3)) ∧ (wr (x3 + 3)) < L) ∧ Cal d 221 [.inr (.inr 12), .inl (xs ((wr (x3 + 1))).toNat), .inl (xs ((wr (x3 + 2))).toNat), .inl (xs ((wr (x3 + 3))).toNat)] w1 (rI fun v2 w2 => (if v1 = v2 then Ev (some (L, xs)) (Cal d) (cd 247) Q (1914, [some (.inr (.inr 2000)), some (.inr (.inr 11)), some (.inr (.inr 12)), some (.inl x3)], [], w2) else (((0 : Int) = 0 ∨ (0 : Int) = 1) ∧ Q (some (.inl 0)) w2))))))))))) : Ev (some (L, xs)) (Cal d) (cd 247) Q (1435, [some (.inr (.inr 2000)), some (.inr (.inr 11)), some (.inr (.inr 12)), some (.inl x3)], [], w) := Ev.run (Cal_m d).1 cut_247 38 h
set_option maxRecDepth 100000 in
theorem bk_247_1478 {d : Nat} {L : Int} {xs : Nat → Int} {Q : Option AV → Wd → Prop} {x3 : Int} {w : Wd} (h : ((0 ≤ (wr (x3 + 1)) ∧ (wr (x3 + 1)) < L) ∧ ((0 ≤ (wr (x3 + 2)) ∧ (wr (x3 + 2)) < L) ∧ Cal d 127 [.inr (.inr 11), .inl (xs ((wr (x3 + 1))).toNat), .inl (xs ((wr (x3 + 2))).toNat)] w (rI fun v1 w1 => ((0 ≤ (wr (x3 + 1)) ∧ (wr (x3 + 1)) < L) ∧ ((0 ≤ (wr (x3 + 2)) ∧ (wr (x3 + 2)) < L) ∧ Cal d 222 [.inr (.inr 12), .inl (xs ((wr (x3 + 1))).toNat), .inl (xs ((wr (x3 + 2))).toNat)] w1 (rI fun v2 w2 => (if v1 = v2 then Ev (some (L, xs)) (Cal d) (cd 247) Q (1914, [some (.inr (.inr 2000)), some (.inr (.inr 11)), some (.inr (.inr 12)), some (.inl x3)], [], w2) else (((0 : Int) = 0 ∨ (0 : Int) = 1) ∧ Q (some (.inl 0)) w2))))))))) : Ev (some (L, xs)) (Cal d) (cd 247) Q (1478, [some (.inr (.inr 2000)), some (.inr (.inr 11)), some (.inr (.inr 12)), some (.inl x3)], [], w) := Ev.run (Cal_m d).1 cut_247 28 h
set_option maxRecDepth 100000 in
theorem bk_247_1511 {d : Nat} {L : Int} {xs : Nat → Int} {Q : Option AV → Wd → Prop} {x3 : Int} {w : Wd} (h : ((0 ≤ (wr (x3 + 1)) ∧ (wr (x3 + 1)) < L) ∧ ((0 ≤ (wr (x3 + 2)) ∧ (wr (x3 + 2)) < L) ∧ Cal d 128 [.inr (.inr 11), .inl (xs ((wr (x3 + 1))).toNat), .inl (xs ((wr (x3 + 2))).toNat)] w (rI fun v1 w1 => ((0 ≤ (wr (x3 + 1)) ∧ (wr (x3 + 1)) < L) ∧ ((0 ≤ (wr (x3 + 2)) ∧ (wr (x3 + 2)) < L) ∧ Cal d 223 [.inr (.inr 12), .inl (xs ((wr (x3 + 1))).toNat), .inl (xs ((wr (x3 + 2))).toNat)] w1 (rI fun v2 w2 => (if v1 = v2 then Ev (some (L, xs)) (Cal d) (cd 247) Q (1914, [some (.inr (.inr 2000)), some (.inr (.inr 11)), some (.inr (.inr 12)), some (.inl x3)], [], w2) else (((0 : Int) = 0 ∨ (0 : Int) = 1) ∧ Q (some (.inl 0)) w2))))))))) : Ev (some (L, xs)) (Cal d) (cd 247) Q (1511, [some (.inr (.inr 2000)), some (.inr (.inr 11)), some (.inr (.inr 12)), some (.inl x3)], [], w) := Ev.run (Cal_m d).1 cut_247 28 h
set_option maxRecDepth 100000 in
theorem bk_247_1544 {d : Nat} {L : Int} {xs : Nat → Int} {Q : Option AV → Wd → Prop} {x3 : Int} {w : Wd} (h : ((0 ≤ (wr (x3 + 1)) ∧ (wr (x3 + 1)) < L) ∧ ((0 ≤ (wr (x3 + 2)) ∧ (wr (x3 + 2)) < L) ∧ ((0 ≤ (wr (x3 + 3)) ∧ (wr (x3 + 3)) < L) ∧ ((0 ≤ (wr (x3 + 4)) ∧ (wr (x3 + 4)) < L) ∧ Cal d 129 [.inr (.inr 11), .inl (xs ((wr (x3 + 1))).toNat), .inl (xs ((wr (x3 + 2))).toNat), .inl (xs ((wr (x3 + 3))).toNat), .inl (xs ((wr (x3 + 4))).toNat)] w (rI fun v1 w1 => ((0 ≤ (wr (x3 + 1)) ∧ (wr (x3 + 1)) < L) ∧ ((0 ≤ (wr (x3 + 2)) ∧ (wr (x3 + 2)) < L) ∧ ((0 ≤ (wr (x3 + 3)) ∧ (wr (x3 + 3)) < L) ∧ ((0 ≤ (wr (x3 + 4)) ∧ (wr (x3 + 4)) < L) ∧ Cal d 224 [.inr (.inr 12), .inl (xs ((wr (x3 + 1))).toNat), .inl (xs ((wr (x3 + 2))).toNat), .inl (xs ((wr (x3 + 3))).toNat), .inl (xs ((wr (x3 + 4))).toNat)] w1 (rI fun v2 w2 => (if v1 = v2 then Ev (some (L, xs)) (Cal d) (cd 247) Q (1914, [some (.inr (.inr 2000)), some (.inr (.inr 11)), some (.inr (.inr 12)), some (.inl x3)], [], w2) else (((0 : Int) = 0 ∨ (0 : Int) = 1) ∧ Q (some (.inl 0)) w2))))))))))))) : Ev (some (L, xs)) (Cal d) (cd 247) Q (1544, [some (.inr (.inr 2000)), some (.inr (.inr 11)), some (.inr (.inr 12)), some (.inl x3)], [], w) := Ev.run (Cal_m d).1 cut_247 48 h
set_option maxRecDepth 100000 in
theorem bk_247_1597 {d : Nat} {L : Int} {xs : Nat → Int} {Q : Option AV → Wd → Prop} {x3 : Int} {w : Wd} (h : ((0 ≤ (wr (x3 + 1)) ∧ (wr (x3 + 1)) < L) ∧ ((0 ≤ (wr (x3 + 2)) ∧ (wr (x3 + 2)) < L) ∧ ((0 ≤ (wr (x3 + 3)) ∧ (wr (x3 + 3)) < L) ∧ Cal d 131 [.inr (.inr 11), .inl (xs ((wr (x3 + 1))).toNat), .inl (xs ((wr (x3 + 2))).toNat), .inl (xs ((wr (x3 + 3))).toNat)] w (rI fun v1 w1 => ((0 ≤ (wr (x3 + 1)) ∧ (wr (x3 + 1)) < L) ∧ ((0 ≤ (wr (x3 + 2)) ∧ (wr (x3 + 2)) < L) ∧ ((0 ≤ (wr (x3 + 3)) ∧ (wr (x3 + 3)) < L) ∧ Cal d 226 [.inr (.inr 12), .inl (xs ((wr (x3 + 1))).toNat), .inl (xs ((wr (x3 + 2))).toNat), .inl (xs ((wr (x3 + 3))).toNat)] w1 (rI fun v2 w2 => (if v1 = v2 then Ev (some (L, xs)) (Cal d) (cd 247) Q (1914, [some (.inr (.inr 2000)), some (.inr (.inr 11)), some (.inr (.inr 12)), some (.inl x3)], [], w2) else (((0 : Int) = 0 ∨ (0 : Int) = 1) ∧ Q (some (.inl 0)) w2))))))))))) : Ev (some (L, xs)) (Cal d) (cd 247) Q (1597, [some (.inr (.inr 2000)), some (.inr (.inr 11)), some (.inr (.inr 12)), some (.inl x3)], [], w) := Ev.run (Cal_m d).1 cut_247 38 h
set_option maxRecDepth 100000 in
theorem bk_247_1640 {d : Nat} {L : Int} {xs : Nat → Int} {Q : Option AV → Wd → Prop} {x3 : Int} {w : Wd} (h : ((0 ≤ (wr (x3 + 1)) ∧ (wr (x3 + 1)) < L) ∧ ((0 ≤ (wr (x3 + 2)) ∧ (wr (x3 + 2)) < L) ∧ Cal d 135 [.inr (.inr 11), .inl (xs ((wr (x3 + 1))).toNat), .inl (xs ((wr (x3 + 2))).toNat)] w (rI fun v1 w1 => ((0 ≤ (wr (x3 + 1)) ∧ (wr (x3 + 1)) < L) ∧ ((0 ≤ (wr (x3 + 2)) ∧ (wr (x3 + 2)) < L) ∧ Cal d 232 [.inr (.inr 12), .inl (xs ((wr (x3 + 1))).toNat), .inl (xs ((wr (x3 + 2))).toNat)] w1 (rI fun v2 w2 => (if v1 = v2 then Ev (some (L, xs)) (Cal d) (cd 247) Q (1914, [some (.inr (.inr 2000)), some (.inr (.inr 11)), some (.inr (.inr 12)), some (.inl x3)], [], w2) else (((0 : Int) = 0 ∨ (0 : Int) = 1) ∧ Q (some (.inl 0)) w2))))))))) : Ev (some (L, xs)) (Cal d) (cd 247) Q (1640, [some (.inr (.inr 2000)), some (.inr (.inr 11)), some (.inr (.inr 12)), some (.inl x3)], [], w) := Ev.run (Cal_m d).1 cut_247 28 h
set_option maxRecDepth 100000 in
theorem bk_247_1673 {d : Nat} {L : Int} {xs : Nat → Int} {Q : Option AV → Wd → Prop} {x3 : Int} {w : Wd} (h : ((0 ≤ (wr (x3 + 1)) ∧ (wr (x3 + 1)) < L) ∧ ((0 ≤ (wr (x3 + 2)) ∧ (wr (x3 + 2)) < L) ∧ Cal d 137 [.inr (.inr 11), .inl (xs ((wr (x3 + 1))).toNat), .inl (xs ((wr (x3 + 2))).toNat)] w (rI fun v1 w1 => ((0 ≤ (wr (x3 + 1)) ∧ (wr (x3 + 1)) < L) ∧ ((0 ≤ (wr (x3 + 2)) ∧ (wr (x3 + 2)) < L) ∧ Cal d 235 [.inr (.inr 12), .inl (xs ((wr (x3 + 1))).toNat), .inl (xs ((wr (x3 + 2))).toNat)] w1 (rI fun v2 w2 => (if v1 = v2 then Ev (some (L, xs)) (Cal d) (cd 247) Q (1914, [some (.inr (.inr 2000)), some (.inr (.inr 11)), some (.inr (.inr 12)), some (.inl x3)], [], w2) else (((0 : Int) = 0 ∨ (0 : Int) = 1) ∧ Q (some (.inl 0)) w2))))))))) : Ev (some (L, xs)) (Cal d) (cd 247) Q (1673, [some (.inr (.inr 2000)), some (.inr (.inr 11)), some (.inr (.inr 12)), some (.inl x3)], [], w) := Ev.run (Cal_m d).1 cut_247 28 h
set_option maxRecDepth 100000 in
theorem bk_247_1706 {d : Nat} {L : Int} {xs : Nat → Int} {Q : Option AV → Wd → Prop} {x3 : Int} {w : Wd} (h : ((0 ≤ (wr (x3 + 1)) ∧ (wr (x3 + 1)) < L) ∧ ((0 ≤ (wr (x3 + 2)) ∧ (wr (x3 + 2)) < L) ∧ ((0 ≤ (wr (x3 + 3)) ∧ (wr (x3 + 3)) < L) ∧ Cal d 145 [.inr (.inr 11), .inl (xs ((wr (x3 + 1))).toNat), .inl (xs ((wr (x3 + 2))).toNat), .inl (xs ((wr (x3 + 3))).toNat)] w (rI fun v1 w1 => ((0 ≤ (wr (x3 + 1)) ∧ (wr (x3 + 1)) < L) ∧ ((0 ≤ (wr (x3 + 2)) ∧ (wr (x3 + 2)) < L) ∧ ((0 ≤ (wr (x3 + 3)) ∧ (wr (x3 + 3)) < L) ∧ Cal d 240 [.inr (.inr 12), .inl (xs ((wr (x3 + 1))).toNat), .inl (xs ((wr (x3 + 2))).toNat), .inl (xs ((wr (x3 + 3))).toNat)] w1 (rI fun v2 w2 => (if v1 = v2 then Ev (some (L, xs)) (Cal d) (cd 247) Q (1914, [some (.inr (.inr 2000)), some (.inr (.inr 11)), some (.inr (.inr 12)), some (.inl x3)], [], w2) else (((0 : Int) = 0 ∨ (0 : Int) = 1) ∧ Q (some (.inl 0)) w2))))))))))) : Ev (some (L, xs)) (Cal d) (cd 247) Q (1706, [some (.inr (.inr 2000)), some (.inr (.inr 11)), some (.inr (.inr 12)), some (.inl x3)], [], w) := Ev.run (Cal_m d).1 cut_247 38 h
set_option maxRecDepth 100000 in
theorem bk_247_1749 {d : Nat} {L : Int} {xs : Nat → Int} {Q : Option AV → Wd → Prop} {x3 : Int} {w : Wd} (h : ((0 ≤ (wr (x3 + 1)) ∧ (wr (x3 + 1)) < L) ∧ ((0 ≤ (wr (x3 + 2)) ∧ (wr (x3 + 2)) < L) ∧ Cal d 146 [.inr (.inr 11), .inl (xs ((wr (x3 + 1))).toNat), .inl (xs ((wr (x3 + 2))).toNat)] w (rI fun v1 w1 => ((0 ≤ (wr (x3 + 1)) ∧ (wr (x3 + 1)) < L) ∧ ((0 ≤ (wr (x3 + 2)) ∧ (wr (x3 + 2)) < L) ∧ Cal d 241 [.inr (.inr 12), .inl (xs ((wr (x3 + 1))).toNat), .inl (xs ((wr (x3 + 2))).toNat)] w1 (rI fun v2 w2 => (if v1 = v2 then Ev (some (L, xs)) (Cal d) (cd 247) Q (1914, [some (.inr (.inr 2000)), some (.inr (.inr 11)), some (.inr (.inr 12)), some (.inl x3)], [], w2) else (((0 : Int) = 0 ∨ (0 : Int) = 1) ∧ Q (some (.inl 0)) w2))))))))) : Ev (some (L, xs)) (Cal d) (cd 247) Q (1749, [some (.inr (.inr 2000)), some (.inr (.inr 11)), some (.inr (.inr 12)), some (.inl x3)], [], w) := Ev.run (Cal_m d).1 cut_247 28 h
set_option maxRecDepth 100000 in
theorem bk_247_1782 {d : Nat} {L : Int} {xs : Nat → Int} {Q : Option AV → Wd → Prop} {x3 : Int} {w : Wd} (h : ((0 ≤ (wr (x3 + 1)) ∧ (wr (x3 + 1)) < L) ∧ ((0 ≤ (wr (x3 + 2)) ∧ (wr (x3 + 2)) < L) ∧ ((0 ≤ (wr (x3 + 3)) ∧ (wr (x3 + 3)) < L) ∧ ((0 ≤ (wr (x3 + 4)) ∧ (wr (x3 + 4)) < L) ∧ Cal d 147 [.inr (.inr 11), .inl (xs ((wr (x3 + 1))).toNat), .inl (xs ((wr (x3 + 2))).toNat), .inl (xs ((wr (x3 + 3))).toNat), .inl (xs ((wr (x3 + 4))).toNat)] w (rI fun v1 w1 => ((0 ≤ (wr (x3 + 1)) ∧ (wr (x3 + 1)) < L) ∧ ((0 ≤ (wr (x3 + 2)) ∧ (wr (x3 + 2)) < L) ∧ ((0 ≤ (wr (x3 + 3)) ∧ (wr (x3 + 3)) < L) ∧ ((0 ≤ (wr (x3 + 4)) ∧ (wr (x3 + 4)) < L) ∧ Cal d 242 [.inr (.inr 12), .inl (xs ((wr (x3 + 1))).toNat), .inl (xs ((wr (x3 + 2))).toNat), .inl (xs ((wr (x3 + 3))).toNat), .inl (xs ((wr (x3 + 4))).toNat)] w1 (rI fun v2 w2 => (if v1 = v2 then Ev (some (L, xs)) (Cal d) (cd 247) Q (1914, [some (.inr (.inr 2000)), some (.inr (.inr 11)), some (.inr (.inr 12)), some (.inl x3)], [], w2) else (((0 : Int) = 0 ∨ (0 : Int) = 1) ∧ Q (some (.inl 0)) w2))))))))))))) : Ev (some (L, xs)) (Cal d) (cd 247) Q (1782, [some (.inr (.inr 2000)), some (.inr (.inr 11)), some (.inr (.inr 12)), some (.inl x3)], [], w) := Ev.run (Cal_m d).1 cut_247 48 h
set_option maxRecDepth 100000 in
theorem bk_247_1835 {d : Nat} {L : Int} {xs : Nat → Int} {Q : Option AV → Wd → Prop} {x3 : Int} {w : Wd} (h : ((0 ≤ (wr (x3 + 1)) ∧ (wr (x3 + 1)) < L) ∧ Cal d 152 [.inr (.inr 11), .inl (xs ((wr (x3 + 1))).toNat)] w (rI fun v1 w1 => ((0 ≤ (wr (x3 + 1)) ∧ (wr (x3 + 1)) < L) ∧ Cal d 244 [.inr (.inr 12), .inl (xs ((wr (x3 + 1))).toNat)] w1 (rI fun v2 w2 => (if v1 = v2 then Ev (some (L, xs)) (Cal d) (cd 247) Q (1914, [some (.inr (.inr 2000)), some (.inr (.inr 11)), some (.inr (.inr 12)), some (.inl x3)], [], w2) else (((0 : Int) = 0 ∨ (0 : Int) = 1) ∧ Q (some (.inl 0)) w2))))))) : Ev (some (L, xs)) (Cal d) (cd 247) Q (1835, [some (.inr (.inr 2000)), some (.inr (.inr 11)), some (.inr (.inr 12)), some (.inl x3)], [], w) := Ev.run (Cal_m d).1 cut_247 18 h
set_option maxRecDepth 100000 in
theorem bk_247_1858 {d : Nat} {L : Int} {xs : Nat → Int} {Q : Option AV → Wd → Prop} {x3 : Int} {w : Wd} (h : ((0 ≤ (wr (x3 + 1)) ∧ (wr (x3 + 1)) < L) ∧ ((0 ≤ (wr (x3 + 2)) ∧ (wr (x3 + 2)) < L) ∧ Cal d 153 [.inr (.inr 11), .inl (xs ((wr (x3 + 1))).toNat), .inl (xs ((wr (x3 + 2))).toNat)] w (rI fun v1 w1 => ((0 ≤ (wr (x3 + 1)) ∧ (wr (x3 + 1)) < L) ∧ ((0 ≤ (wr (x3 + 2)) ∧ (wr (x3 + 2)) < L) ∧ Cal d 245 [.inr (.inr 12), .inl (xs ((wr (x3 + 1))).toNat), .inl (xs ((wr (x3 + 2))).toNat)] w1 (rI fun v2 w2 => (if v1 = v2 then Ev (some (L, xs)) (Cal d) (cd 247) Q (1914, [some (.inr (.inr 2000)), some (.inr (.inr 11)), some (.inr (.inr 12)), some (.inl x3)], [], w2) else (((0 : Int) = 0 ∨ (0 : Int) = 1) ∧ Q (some (.inl 0)) w2))))))))) : Ev (some (L, xs)) (Cal d) (cd 247) Q (1858, [some (.inr (.inr 2000)), some (.inr (.inr 11)), some (.inr (.inr 12)), some (.inl x3)], [], w) := Ev.run (Cal_m d).1 cut_247 28 h
set_option maxRecDepth 100000 in
theorem bk_247_1891 {d : Nat} {L : Int} {xs : Nat → Int} {Q : Option AV → Wd → Prop} {x3 : Int} {w : Wd} (h : ((0 ≤ (wr (x3 + 1)) ∧ (wr (x3 + 1)) < L) ∧ Cal d 154 [.inr (.inr 11), .inl (xs ((wr (x3 + 1))).toNat)] w (rI fun v1 w1 => ((0 ≤ (wr (x3 + 1)) ∧ (wr (x3 + 1)) < L) ∧ Cal d 246 [.inr (.inr 12), .inl (xs ((wr (x3 + 1))).toNat)] w1 (rI fun v2 w2 => (if v1 = v2 then Ev (some (L, xs)) (Cal d) (cd 247) Q (1914, [some (.inr (.inr 2000)), some (.inr (.inr 11)), some (.inr (.inr 12)), some (.inl x3)], [], w2) else (((0 : Int) = 0 ∨ (0 : Int) = 1) ∧ Q (some (.inl 0)) w2))))))) : Ev (some (L, xs)) (Cal d) (cd 247) Q (1891, [some (.inr (.inr 2000)), some (.inr (.inr 11)), some (.inr (.inr 12)), some (.inl x3)], [], w) := Ev.run (Cal_m d).1 cut_247 18 h
set_option maxRecDepth 100000 in
theorem bk_247_1914 {d : Nat} {L : Int} {xs : Nat → Int} {Q : Option AV → Wd → Prop} {x3 : Int} {w : Wd} (h : Ev (some (L, xs)) (Cal d) (cd 247) Q (18, [some (.inr (.inr 2000)), some (.inr (.inr 11)), some (.inr (.inr 12)), some (.inl (wr (x3 + 6)))], [], w)) : Ev (some (L, xs)) (Cal d) (cd 247) Q (1914, [some (.inr (.inr 2000)), some (.inr (.inr 11)), some (.inr (.inr 12)), some (.inl x3)], [], w) := Ev.run (Cal_m d).1 cut_247 3 h
section
variable {w : Wd} {L : Nat} {xs : Nat → Int} {Q : Option AV → Wd → Prop} {i : Nat}
theorem wr_p (hi : i + 6 ≤ L) (hL : L ≤ 384) {k : Nat} (hk : k ≤ 5) : wr ((i : Int) + (k : Int)) = ((i + k : Nat) : Int) := by rw [wr_id (by omega) (by omega)]; omega
theorem law_0 (hi : i + 6 ≤ L) (hL : L ≤ 384) (hxs : ∀ j, in32 (xs j)) (hO : OKW TXT w) (hn : ∀ v, OKW TXT v → Ev (some ((L : Int), xs)) (Cal 30) (cd 247) Q (1914, [some (.inr (.inr 2000)), some (.inr (.inr 11)), some (.inr (.inr 12)), some (.inl (i : Int))], [], v)) : Ev (some ((L : Int), xs)) (Cal 30) (cd 247) Q (216, [some (.inr (.inr 2000)), some (.inr (.inr 11)), some (.inr (.inr 12)), some (.inl (i : Int))], [], w) := by
  have e1 := wr_p hi hL (k := 1) (by decide)
  have e2 := wr_p hi hL (k := 2) (by decide)
  have e3 := wr_p hi hL (k := 3) (by decide)
  have e4 := wr_p hi hL (k := 4) (by decide)
  have e5 := wr_p hi hL (k := 5) (by decide)
  simp only [show ((1 : Nat) : Int) = 1 from rfl, show ((2 : Nat) : Int) = 2 from rfl, show ((3 : Nat) : Int) = 3 from rfl, show ((4 : Nat) : Int) = 4 from rfl, show ((5 : Nat) : Int) = 5 from rfl] at e1 e2 e3 e4 e5
  refine bk_247_216 ?_
  simp only [e1, e2, e3, e4, e5, tn]
  repeat' (refine And.intro (by omega) ?_)
  refine CalI.to (both_days TXT_fr hO (hxs _)) (by decide) (fun x u hu => ?_)
  repeat' (refine And.intro (by omega) ?_)
  refine CalI.to hu (by decide) (fun y v r => ?_)
  rw [if_pos r.1]
  exact hn v r.2
theorem law_1 (hi : i + 6 ≤ L) (hL : L ≤ 384) (hxs : ∀ j, in32 (xs j)) (hO : OKW TXT w) (hn : ∀ v, OKW TXT v → Ev (some ((L : Int), xs)) (Cal 30) (cd 247) Q (1914, [some (.inr (.inr 2000)), some (.inr (.inr 11)), some (.inr (.inr 12)), some (.inl (i : Int))], [], v)) : Ev (some ((L : Int), xs)) (Cal 30) (cd 247) Q (239, [some (.inr (.inr 2000)), some (.inr (.inr 11)), some (.inr (.inr 12)), some (.inl (i : Int))], [], w) := by
  have e1 := wr_p hi hL (k := 1) (by decide)
  have e2 := wr_p hi hL (k := 2) (by decide)
  have e3 := wr_p hi hL (k := 3) (by decide)
  have e4 := wr_p hi hL (k := 4) (by decide)
  have e5 := wr_p hi hL (k := 5) (by decide)
  simp only [show ((1 : Nat) : Int) = 1 from rfl, show ((2 : Nat) : Int) = 2 from rfl, show ((3 : Nat) : Int) = 3 from rfl, show ((4 : Nat) : Int) = 4 from rfl, show ((5 : Nat) : Int) = 5 from rfl] at e1 e2 e3 e4 e5
  refine bk_247_239 ?_
  simp only [e1, e2, e3, e4, e5, tn]
  repeat' (refine And.intro (by omega) ?_)
  refine CalI.to (both_place TXT_fr hO) (by decide) (fun x u hu => ?_)
  repeat' (refine And.intro (by omega) ?_)
  refine CalI.to hu (by decide) (fun y v r => ?_)
  rw [if_pos r.1]
  exact hn v r.2
theorem law_2 (hi : i + 6 ≤ L) (hL : L ≤ 384) (hxs : ∀ j, in32 (xs j)) (hO : OKW TXT w) (hn : ∀ v, OKW TXT v → Ev (some ((L : Int), xs)) (Cal 30) (cd 247) Q (1914, [some (.inr (.inr 2000)), some (.inr (.inr 11)), some (.inr (.inr 12)), some (.inl (i : Int))], [], v)) : Ev (some ((L : Int), xs)) (Cal 30) (cd 247) Q (272, [some (.inr (.inr 2000)), some (.inr (.inr 11)), some (.inr (.inr 12)), some (.inl (i : Int))], [], w) := by
  have e1 := wr_p hi hL (k := 1) (by decide)
  have e2 := wr_p hi hL (k := 2) (by decide)
  have e3 := wr_p hi hL (k := 3) (by decide)
  have e4 := wr_p hi hL (k := 4) (by decide)
  have e5 := wr_p hi hL (k := 5) (by decide)
  simp only [show ((1 : Nat) : Int) = 1 from rfl, show ((2 : Nat) : Int) = 2 from rfl, show ((3 : Nat) : Int) = 3 from rfl, show ((4 : Nat) : Int) = 4 from rfl, show ((5 : Nat) : Int) = 5 from rfl] at e1 e2 e3 e4 e5
  refine bk_247_272 ?_
  simp only [e1, e2, e3, e4, e5, tn]
  repeat' (refine And.intro (by omega) ?_)
  refine CalI.to (both_roll TXT_fr hO) (by decide) (fun x u hu => ?_)
  repeat' (refine And.intro (by omega) ?_)
  refine CalI.to hu (by decide) (fun y v r => ?_)
  rw [if_pos r.1]
  exact hn v r.2
theorem law_3 (hi : i + 6 ≤ L) (hL : L ≤ 384) (hxs : ∀ j, in32 (xs j)) (hO : OKW TXT w) (hn : ∀ v, OKW TXT v → Ev (some ((L : Int), xs)) (Cal 30) (cd 247) Q (1914, [some (.inr (.inr 2000)), some (.inr (.inr 11)), some (.inr (.inr 12)), some (.inl (i : Int))], [], v)) : Ev (some ((L : Int), xs)) (Cal 30) (cd 247) Q (335, [some (.inr (.inr 2000)), some (.inr (.inr 11)), some (.inr (.inr 12)), some (.inl (i : Int))], [], w) := by
  have e1 := wr_p hi hL (k := 1) (by decide)
  have e2 := wr_p hi hL (k := 2) (by decide)
  have e3 := wr_p hi hL (k := 3) (by decide)
  have e4 := wr_p hi hL (k := 4) (by decide)
  have e5 := wr_p hi hL (k := 5) (by decide)
  simp only [show ((1 : Nat) : Int) = 1 from rfl, show ((2 : Nat) : Int) = 2 from rfl, show ((3 : Nat) : Int) = 3 from rfl, show ((4 : Nat) : Int) = 4 from rfl, show ((5 : Nat) : Int) = 5 from rfl] at e1 e2 e3 e4 e5
  refine bk_247_335 ?_
  simp only [e1, e2, e3, e4, e5, tn]
  repeat' (refine And.intro (by omega) ?_)
  refine ite_i (fun q => ?_) (fun q => ?_)
  · refine CalI.to (both_number TXT_fr hO) (by decide) (fun x u hu => ?_)
    repeat' (refine And.intro (by omega) ?_)
    rw [if_pos q]
    refine CalI.to hu (by decide) (fun y v r => ?_)
    rw [if_pos r.1]
    exact hn v r.2
  · refine CalI.to (both_number TXT_fr hO) (by decide) (fun x u hu => ?_)
    repeat' (refine And.intro (by omega) ?_)
    rw [if_neg q]
    refine CalI.to hu (by decide) (fun y v r => ?_)
    rw [if_pos r.1]
    exact hn v r.2
theorem law_4 (hi : i + 6 ≤ L) (hL : L ≤ 384) (hxs : ∀ j, in32 (xs j)) (hO : OKW TXT w) (hn : ∀ v, OKW TXT v → Ev (some ((L : Int), xs)) (Cal 30) (cd 247) Q (1914, [some (.inr (.inr 2000)), some (.inr (.inr 11)), some (.inr (.inr 12)), some (.inl (i : Int))], [], v)) : Ev (some ((L : Int), xs)) (Cal 30) (cd 247) Q (414, [some (.inr (.inr 2000)), some (.inr (.inr 11)), some (.inr (.inr 12)), some (.inl (i : Int))], [], w) := by
  have e1 := wr_p hi hL (k := 1) (by decide)
  have e2 := wr_p hi hL (k := 2) (by decide)
  have e3 := wr_p hi hL (k := 3) (by decide)
  have e4 := wr_p hi hL (k := 4) (by decide)
  have e5 := wr_p hi hL (k := 5) (by decide)
  simp only [show ((1 : Nat) : Int) = 1 from rfl, show ((2 : Nat) : Int) = 2 from rfl, show ((3 : Nat) : Int) = 3 from rfl, show ((4 : Nat) : Int) = 4 from rfl, show ((5 : Nat) : Int) = 5 from rfl] at e1 e2 e3 e4 e5
  refine bk_247_414 ?_
  simp only [e1, e2, e3, e4, e5, tn]
  repeat' (refine And.intro (by omega) ?_)
  refine CalI.to (both_weigh TXT_fr hO) (by decide) (fun x u hu => ?_)
  repeat' (refine And.intro (by omega) ?_)
  refine CalI.to hu (by decide) (fun y v r => ?_)
  rw [if_pos r.1]
  exact hn v r.2
theorem law_5 (hi : i + 6 ≤ L) (hL : L ≤ 384) (hxs : ∀ j, in32 (xs j)) (hO : OKW TXT w) (hn : ∀ v, OKW TXT v → Ev (some ((L : Int), xs)) (Cal 30) (cd 247) Q (1914, [some (.inr (.inr 2000)), some (.inr (.inr 11)), some (.inr (.inr 12)), some (.inl (i : Int))], [], v)) : Ev (some ((L : Int), xs)) (Cal 30) (cd 247) Q (447, [some (.inr (.inr 2000)), some (.inr (.inr 11)), some (.inr (.inr 12)), some (.inl (i : Int))], [], w) := by
  have e1 := wr_p hi hL (k := 1) (by decide)
  have e2 := wr_p hi hL (k := 2) (by decide)
  have e3 := wr_p hi hL (k := 3) (by decide)
  have e4 := wr_p hi hL (k := 4) (by decide)
  have e5 := wr_p hi hL (k := 5) (by decide)
  simp only [show ((1 : Nat) : Int) = 1 from rfl, show ((2 : Nat) : Int) = 2 from rfl, show ((3 : Nat) : Int) = 3 from rfl, show ((4 : Nat) : Int) = 4 from rfl, show ((5 : Nat) : Int) = 5 from rfl] at e1 e2 e3 e4 e5
  refine bk_247_447 ?_
  simp only [e1, e2, e3, e4, e5, tn]
  repeat' (refine And.intro (by omega) ?_)
  refine CalI.to (both_list TXT_fr hO) (by decide) (fun x u hu => ?_)
  repeat' (refine And.intro (by omega) ?_)
  refine CalI.to hu (by decide) (fun y v r => ?_)
  rw [if_pos r.1]
  exact hn v r.2
theorem law_6 (hi : i + 6 ≤ L) (hL : L ≤ 384) (hxs : ∀ j, in32 (xs j)) (hO : OKW TXT w) (hn : ∀ v, OKW TXT v → Ev (some ((L : Int), xs)) (Cal 30) (cd 247) Q (1914, [some (.inr (.inr 2000)), some (.inr (.inr 11)), some (.inr (.inr 12)), some (.inl (i : Int))], [], v)) : Ev (some ((L : Int), xs)) (Cal 30) (cd 247) Q (500, [some (.inr (.inr 2000)), some (.inr (.inr 11)), some (.inr (.inr 12)), some (.inl (i : Int))], [], w) := by
  have e1 := wr_p hi hL (k := 1) (by decide)
  have e2 := wr_p hi hL (k := 2) (by decide)
  have e3 := wr_p hi hL (k := 3) (by decide)
  have e4 := wr_p hi hL (k := 4) (by decide)
  have e5 := wr_p hi hL (k := 5) (by decide)
  simp only [show ((1 : Nat) : Int) = 1 from rfl, show ((2 : Nat) : Int) = 2 from rfl, show ((3 : Nat) : Int) = 3 from rfl, show ((4 : Nat) : Int) = 4 from rfl, show ((5 : Nat) : Int) = 5 from rfl] at e1 e2 e3 e4 e5
  refine bk_247_500 ?_
  simp only [e1, e2, e3, e4, e5, tn]
  repeat' (refine And.intro (by omega) ?_)
  refine CalI.to (both_ranked TXT_fr hO) (by decide) (fun x u hu => ?_)
  repeat' (refine And.intro (by omega) ?_)
  refine CalI.to hu (by decide) (fun y v r => ?_)
  rw [if_pos r.1]
  exact hn v r.2
theorem law_7 (hi : i + 6 ≤ L) (hL : L ≤ 384) (hxs : ∀ j, in32 (xs j)) (hO : OKW TXT w) (hn : ∀ v, OKW TXT v → Ev (some ((L : Int), xs)) (Cal 30) (cd 247) Q (1914, [some (.inr (.inr 2000)), some (.inr (.inr 11)), some (.inr (.inr 12)), some (.inl (i : Int))], [], v)) : Ev (some ((L : Int), xs)) (Cal 30) (cd 247) Q (543, [some (.inr (.inr 2000)), some (.inr (.inr 11)), some (.inr (.inr 12)), some (.inl (i : Int))], [], w) := by
  have e1 := wr_p hi hL (k := 1) (by decide)
  have e2 := wr_p hi hL (k := 2) (by decide)
  have e3 := wr_p hi hL (k := 3) (by decide)
  have e4 := wr_p hi hL (k := 4) (by decide)
  have e5 := wr_p hi hL (k := 5) (by decide)
  simp only [show ((1 : Nat) : Int) = 1 from rfl, show ((2 : Nat) : Int) = 2 from rfl, show ((3 : Nat) : Int) = 3 from rfl, show ((4 : Nat) : Int) = 4 from rfl, show ((5 : Nat) : Int) = 5 from rfl] at e1 e2 e3 e4 e5
  refine bk_247_543 ?_
  simp only [e1, e2, e3, e4, e5, tn]
  repeat' (refine And.intro (by omega) ?_)
  refine CalI.to (both_person TXT_fr hO) (by decide) (fun x u hu => ?_)
  repeat' (refine And.intro (by omega) ?_)
  refine CalI.to hu (by decide) (fun y v r => ?_)
  rw [if_pos r.1]
  exact hn v r.2
theorem law_8 (hi : i + 6 ≤ L) (hL : L ≤ 384) (hxs : ∀ j, in32 (xs j)) (hO : OKW TXT w) (hn : ∀ v, OKW TXT v → Ev (some ((L : Int), xs)) (Cal 30) (cd 247) Q (1914, [some (.inr (.inr 2000)), some (.inr (.inr 11)), some (.inr (.inr 12)), some (.inl (i : Int))], [], v)) : Ev (some ((L : Int), xs)) (Cal 30) (cd 247) Q (596, [some (.inr (.inr 2000)), some (.inr (.inr 11)), some (.inr (.inr 12)), some (.inl (i : Int))], [], w) := by
  have e1 := wr_p hi hL (k := 1) (by decide)
  have e2 := wr_p hi hL (k := 2) (by decide)
  have e3 := wr_p hi hL (k := 3) (by decide)
  have e4 := wr_p hi hL (k := 4) (by decide)
  have e5 := wr_p hi hL (k := 5) (by decide)
  simp only [show ((1 : Nat) : Int) = 1 from rfl, show ((2 : Nat) : Int) = 2 from rfl, show ((3 : Nat) : Int) = 3 from rfl, show ((4 : Nat) : Int) = 4 from rfl, show ((5 : Nat) : Int) = 5 from rfl] at e1 e2 e3 e4 e5
  refine bk_247_596 ?_
  simp only [e1, e2, e3, e4, e5, tn]
  repeat' (refine And.intro (by omega) ?_)
  refine CalI.to (both_gone TXT_fr hO) (by decide) (fun x u hu => ?_)
  repeat' (refine And.intro (by omega) ?_)
  refine CalI.to hu (by decide) (fun y v r => ?_)
  rw [if_pos r.1]
  exact hn v r.2
theorem law_9 (hi : i + 6 ≤ L) (hL : L ≤ 384) (hxs : ∀ j, in32 (xs j)) (hO : OKW TXT w) (hn : ∀ v, OKW TXT v → Ev (some ((L : Int), xs)) (Cal 30) (cd 247) Q (1914, [some (.inr (.inr 2000)), some (.inr (.inr 11)), some (.inr (.inr 12)), some (.inl (i : Int))], [], v)) : Ev (some ((L : Int), xs)) (Cal 30) (cd 247) Q (619, [some (.inr (.inr 2000)), some (.inr (.inr 11)), some (.inr (.inr 12)), some (.inl (i : Int))], [], w) := by
  have e1 := wr_p hi hL (k := 1) (by decide)
  have e2 := wr_p hi hL (k := 2) (by decide)
  have e3 := wr_p hi hL (k := 3) (by decide)
  have e4 := wr_p hi hL (k := 4) (by decide)
  have e5 := wr_p hi hL (k := 5) (by decide)
  simp only [show ((1 : Nat) : Int) = 1 from rfl, show ((2 : Nat) : Int) = 2 from rfl, show ((3 : Nat) : Int) = 3 from rfl, show ((4 : Nat) : Int) = 4 from rfl, show ((5 : Nat) : Int) = 5 from rfl] at e1 e2 e3 e4 e5
  refine bk_247_619 ?_
  simp only [e1, e2, e3, e4, e5, tn]
  repeat' (refine And.intro (by omega) ?_)
  refine CalI.to (both_right TXT_fr hO) (by decide) (fun x u hu => ?_)
  repeat' (refine And.intro (by omega) ?_)
  refine CalI.to hu (by decide) (fun y v r => ?_)
  rw [if_pos r.1]
  exact hn v r.2
theorem law_10 (hi : i + 6 ≤ L) (hL : L ≤ 384) (hxs : ∀ j, in32 (xs j)) (hO : OKW TXT w) (hn : ∀ v, OKW TXT v → Ev (some ((L : Int), xs)) (Cal 30) (cd 247) Q (1914, [some (.inr (.inr 2000)), some (.inr (.inr 11)), some (.inr (.inr 12)), some (.inl (i : Int))], [], v)) : Ev (some ((L : Int), xs)) (Cal 30) (cd 247) Q (682, [some (.inr (.inr 2000)), some (.inr (.inr 11)), some (.inr (.inr 12)), some (.inl (i : Int))], [], w) := by
  have e1 := wr_p hi hL (k := 1) (by decide)
  have e2 := wr_p hi hL (k := 2) (by decide)
  have e3 := wr_p hi hL (k := 3) (by decide)
  have e4 := wr_p hi hL (k := 4) (by decide)
  have e5 := wr_p hi hL (k := 5) (by decide)
  simp only [show ((1 : Nat) : Int) = 1 from rfl, show ((2 : Nat) : Int) = 2 from rfl, show ((3 : Nat) : Int) = 3 from rfl, show ((4 : Nat) : Int) = 4 from rfl, show ((5 : Nat) : Int) = 5 from rfl] at e1 e2 e3 e4 e5
  refine bk_247_682 ?_
  simp only [e1, e2, e3, e4, e5, tn]
  repeat' (refine And.intro (by omega) ?_)
  refine CalI.to (both_end TXT_fr hO) (by decide) (fun x u hu => ?_)
  repeat' (refine And.intro (by omega) ?_)
  refine CalI.to hu (by decide) (fun y v r => ?_)
  rw [if_pos r.1]
  exact hn v r.2
theorem law_11 (hi : i + 6 ≤ L) (hL : L ≤ 384) (hxs : ∀ j, in32 (xs j)) (hO : OKW TXT w) (hn : ∀ v, OKW TXT v → Ev (some ((L : Int), xs)) (Cal 30) (cd 247) Q (1914, [some (.inr (.inr 2000)), some (.inr (.inr 11)), some (.inr (.inr 12)), some (.inl (i : Int))], [], v)) : Ev (some ((L : Int), xs)) (Cal 30) (cd 247) Q (705, [some (.inr (.inr 2000)), some (.inr (.inr 11)), some (.inr (.inr 12)), some (.inl (i : Int))], [], w) := by
  have e1 := wr_p hi hL (k := 1) (by decide)
  have e2 := wr_p hi hL (k := 2) (by decide)
  have e3 := wr_p hi hL (k := 3) (by decide)
  have e4 := wr_p hi hL (k := 4) (by decide)
  have e5 := wr_p hi hL (k := 5) (by decide)
  simp only [show ((1 : Nat) : Int) = 1 from rfl, show ((2 : Nat) : Int) = 2 from rfl, show ((3 : Nat) : Int) = 3 from rfl, show ((4 : Nat) : Int) = 4 from rfl, show ((5 : Nat) : Int) = 5 from rfl] at e1 e2 e3 e4 e5
  refine bk_247_705 ?_
  simp only [e1, e2, e3, e4, e5, tn]
  repeat' (refine And.intro (by omega) ?_)
  refine CalI.to (both_feed TXT_fr hO) (by decide) (fun x u hu => ?_)
  repeat' (refine And.intro (by omega) ?_)
  refine CalI.to hu (by decide) (fun y v r => ?_)
  rw [if_pos r.1]
  exact hn v r.2
theorem law_12 (hi : i + 6 ≤ L) (hL : L ≤ 384) (hxs : ∀ j, in32 (xs j)) (hO : OKW TXT w) (hn : ∀ v, OKW TXT v → Ev (some ((L : Int), xs)) (Cal 30) (cd 247) Q (1914, [some (.inr (.inr 2000)), some (.inr (.inr 11)), some (.inr (.inr 12)), some (.inl (i : Int))], [], v)) : Ev (some ((L : Int), xs)) (Cal 30) (cd 247) Q (768, [some (.inr (.inr 2000)), some (.inr (.inr 11)), some (.inr (.inr 12)), some (.inl (i : Int))], [], w) := by
  have e1 := wr_p hi hL (k := 1) (by decide)
  have e2 := wr_p hi hL (k := 2) (by decide)
  have e3 := wr_p hi hL (k := 3) (by decide)
  have e4 := wr_p hi hL (k := 4) (by decide)
  have e5 := wr_p hi hL (k := 5) (by decide)
  simp only [show ((1 : Nat) : Int) = 1 from rfl, show ((2 : Nat) : Int) = 2 from rfl, show ((3 : Nat) : Int) = 3 from rfl, show ((4 : Nat) : Int) = 4 from rfl, show ((5 : Nat) : Int) = 5 from rfl] at e1 e2 e3 e4 e5
  refine bk_247_768 ?_
  simp only [e1, e2, e3, e4, e5, tn]
  repeat' (refine And.intro (by omega) ?_)
  refine ite_i (fun q => ?_) (fun q => ?_)
  · refine CalI.to (both_text hO (Or.inl rfl)) (by decide) (fun x u hu => ?_)
    repeat' (refine And.intro (by omega) ?_)
    rw [if_pos q]
    refine CalI.to hu (by decide) (fun y v r => ?_)
    rw [if_pos r.1]
    exact hn v r.2
  · refine CalI.to (both_text hO (Or.inr rfl)) (by decide) (fun x u hu => ?_)
    repeat' (refine And.intro (by omega) ?_)
    rw [if_neg q]
    refine CalI.to hu (by decide) (fun y v r => ?_)
    rw [if_pos r.1]
    exact hn v r.2
theorem law_13 (hi : i + 6 ≤ L) (hL : L ≤ 384) (hxs : ∀ j, in32 (xs j)) (hO : OKW TXT w) (hn : ∀ v, OKW TXT v → Ev (some ((L : Int), xs)) (Cal 30) (cd 247) Q (1914, [some (.inr (.inr 2000)), some (.inr (.inr 11)), some (.inr (.inr 12)), some (.inl (i : Int))], [], v)) : Ev (some ((L : Int), xs)) (Cal 30) (cd 247) Q (807, [some (.inr (.inr 2000)), some (.inr (.inr 11)), some (.inr (.inr 12)), some (.inl (i : Int))], [], w) := by
  have e1 := wr_p hi hL (k := 1) (by decide)
  have e2 := wr_p hi hL (k := 2) (by decide)
  have e3 := wr_p hi hL (k := 3) (by decide)
  have e4 := wr_p hi hL (k := 4) (by decide)
  have e5 := wr_p hi hL (k := 5) (by decide)
  simp only [show ((1 : Nat) : Int) = 1 from rfl, show ((2 : Nat) : Int) = 2 from rfl, show ((3 : Nat) : Int) = 3 from rfl, show ((4 : Nat) : Int) = 4 from rfl, show ((5 : Nat) : Int) = 5 from rfl] at e1 e2 e3 e4 e5
  refine bk_247_807 ?_
  simp only [e1, e2, e3, e4, e5, tn]
  repeat' (refine And.intro (by omega) ?_)
  refine CalI.to (both_old TXT_fr hO) (by decide) (fun x u hu => ?_)
  repeat' (refine And.intro (by omega) ?_)
  refine CalI.to hu (by decide) (fun y v r => ?_)
  rw [if_pos r.1]
  exact hn v r.2
theorem law_14 (hi : i + 6 ≤ L) (hL : L ≤ 384) (hxs : ∀ j, in32 (xs j)) (hO : OKW TXT w) (hn : ∀ v, OKW TXT v → Ev (some ((L : Int), xs)) (Cal 30) (cd 247) Q (1914, [some (.inr (.inr 2000)), some (.inr (.inr 11)), some (.inr (.inr 12)), some (.inl (i : Int))], [], v)) : Ev (some ((L : Int), xs)) (Cal 30) (cd 247) Q (850, [some (.inr (.inr 2000)), some (.inr (.inr 11)), some (.inr (.inr 12)), some (.inl (i : Int))], [], w) := by
  have e1 := wr_p hi hL (k := 1) (by decide)
  have e2 := wr_p hi hL (k := 2) (by decide)
  have e3 := wr_p hi hL (k := 3) (by decide)
  have e4 := wr_p hi hL (k := 4) (by decide)
  have e5 := wr_p hi hL (k := 5) (by decide)
  simp only [show ((1 : Nat) : Int) = 1 from rfl, show ((2 : Nat) : Int) = 2 from rfl, show ((3 : Nat) : Int) = 3 from rfl, show ((4 : Nat) : Int) = 4 from rfl, show ((5 : Nat) : Int) = 5 from rfl] at e1 e2 e3 e4 e5
  refine bk_247_850 ?_
  simp only [e1, e2, e3, e4, e5, tn]
  repeat' (refine And.intro (by omega) ?_)
  refine CalI.to (both_may hO) (by decide) (fun x u hu => ?_)
  repeat' (refine And.intro (by omega) ?_)
  refine CalI.to hu (by decide) (fun y v r => ?_)
  rw [if_pos r.1]
  exact hn v r.2
theorem law_15 (hi : i + 6 ≤ L) (hL : L ≤ 384) (hxs : ∀ j, in32 (xs j)) (hO : OKW TXT w) (hn : ∀ v, OKW TXT v → Ev (some ((L : Int), xs)) (Cal 30) (cd 247) Q (1914, [some (.inr (.inr 2000)), some (.inr (.inr 11)), some (.inr (.inr 12)), some (.inl (i : Int))], [], v)) : Ev (some ((L : Int), xs)) (Cal 30) (cd 247) Q (903, [some (.inr (.inr 2000)), some (.inr (.inr 11)), some (.inr (.inr 12)), some (.inl (i : Int))], [], w) := by
  have e1 := wr_p hi hL (k := 1) (by decide)
  have e2 := wr_p hi hL (k := 2) (by decide)
  have e3 := wr_p hi hL (k := 3) (by decide)
  have e4 := wr_p hi hL (k := 4) (by decide)
  have e5 := wr_p hi hL (k := 5) (by decide)
  simp only [show ((1 : Nat) : Int) = 1 from rfl, show ((2 : Nat) : Int) = 2 from rfl, show ((3 : Nat) : Int) = 3 from rfl, show ((4 : Nat) : Int) = 4 from rfl, show ((5 : Nat) : Int) = 5 from rfl] at e1 e2 e3 e4 e5
  refine bk_247_903 ?_
  simp only [e1, e2, e3, e4, e5, tn]
  repeat' (refine And.intro (by omega) ?_)
  refine CalI.to (both_furrows hO) (by decide) (fun x u hu => ?_)
  repeat' (refine And.intro (by omega) ?_)
  refine CalI.to hu (by decide) (fun y v r => ?_)
  rw [if_pos r.1]
  exact hn v r.2
theorem law_16 (hi : i + 6 ≤ L) (hL : L ≤ 384) (hxs : ∀ j, in32 (xs j)) (hO : OKW TXT w) (hn : ∀ v, OKW TXT v → Ev (some ((L : Int), xs)) (Cal 30) (cd 247) Q (1914, [some (.inr (.inr 2000)), some (.inr (.inr 11)), some (.inr (.inr 12)), some (.inl (i : Int))], [], v)) : Ev (some ((L : Int), xs)) (Cal 30) (cd 247) Q (946, [some (.inr (.inr 2000)), some (.inr (.inr 11)), some (.inr (.inr 12)), some (.inl (i : Int))], [], w) := by
  have e1 := wr_p hi hL (k := 1) (by decide)
  have e2 := wr_p hi hL (k := 2) (by decide)
  have e3 := wr_p hi hL (k := 3) (by decide)
  have e4 := wr_p hi hL (k := 4) (by decide)
  have e5 := wr_p hi hL (k := 5) (by decide)
  simp only [show ((1 : Nat) : Int) = 1 from rfl, show ((2 : Nat) : Int) = 2 from rfl, show ((3 : Nat) : Int) = 3 from rfl, show ((4 : Nat) : Int) = 4 from rfl, show ((5 : Nat) : Int) = 5 from rfl] at e1 e2 e3 e4 e5
  refine bk_247_946 ?_
  simp only [e1, e2, e3, e4, e5, tn]
  repeat' (refine And.intro (by omega) ?_)
  refine CalI.to (both_sell TXT_fr hO) (by decide) (fun x u hu => ?_)
  repeat' (refine And.intro (by omega) ?_)
  refine CalI.to hu (by decide) (fun y v r => ?_)
  rw [if_pos r.1]
  exact hn v r.2
theorem law_17 (hi : i + 6 ≤ L) (hL : L ≤ 384) (hxs : ∀ j, in32 (xs j)) (hO : OKW TXT w) (hn : ∀ v, OKW TXT v → Ev (some ((L : Int), xs)) (Cal 30) (cd 247) Q (1914, [some (.inr (.inr 2000)), some (.inr (.inr 11)), some (.inr (.inr 12)), some (.inl (i : Int))], [], v)) : Ev (some ((L : Int), xs)) (Cal 30) (cd 247) Q (999, [some (.inr (.inr 2000)), some (.inr (.inr 11)), some (.inr (.inr 12)), some (.inl (i : Int))], [], w) := by
  have e1 := wr_p hi hL (k := 1) (by decide)
  have e2 := wr_p hi hL (k := 2) (by decide)
  have e3 := wr_p hi hL (k := 3) (by decide)
  have e4 := wr_p hi hL (k := 4) (by decide)
  have e5 := wr_p hi hL (k := 5) (by decide)
  simp only [show ((1 : Nat) : Int) = 1 from rfl, show ((2 : Nat) : Int) = 2 from rfl, show ((3 : Nat) : Int) = 3 from rfl, show ((4 : Nat) : Int) = 4 from rfl, show ((5 : Nat) : Int) = 5 from rfl] at e1 e2 e3 e4 e5
  refine bk_247_999 ?_
  simp only [e1, e2, e3, e4, e5, tn]
  repeat' (refine And.intro (by omega) ?_)
  refine CalI.to (both_twice TXT_fr hO) (by decide) (fun x u hu => ?_)
  repeat' (refine And.intro (by omega) ?_)
  refine CalI.to hu (by decide) (fun y v r => ?_)
  rw [if_pos r.1]
  exact hn v r.2
theorem law_18 (hi : i + 6 ≤ L) (hL : L ≤ 384) (hxs : ∀ j, in32 (xs j)) (hO : OKW TXT w) (hn : ∀ v, OKW TXT v → Ev (some ((L : Int), xs)) (Cal 30) (cd 247) Q (1914, [some (.inr (.inr 2000)), some (.inr (.inr 11)), some (.inr (.inr 12)), some (.inl (i : Int))], [], v)) : Ev (some ((L : Int), xs)) (Cal 30) (cd 247) Q (1022, [some (.inr (.inr 2000)), some (.inr (.inr 11)), some (.inr (.inr 12)), some (.inl (i : Int))], [], w) := by
  have e1 := wr_p hi hL (k := 1) (by decide)
  have e2 := wr_p hi hL (k := 2) (by decide)
  have e3 := wr_p hi hL (k := 3) (by decide)
  have e4 := wr_p hi hL (k := 4) (by decide)
  have e5 := wr_p hi hL (k := 5) (by decide)
  simp only [show ((1 : Nat) : Int) = 1 from rfl, show ((2 : Nat) : Int) = 2 from rfl, show ((3 : Nat) : Int) = 3 from rfl, show ((4 : Nat) : Int) = 4 from rfl, show ((5 : Nat) : Int) = 5 from rfl] at e1 e2 e3 e4 e5
  refine bk_247_1022 ?_
  simp only [e1, e2, e3, e4, e5, tn]
  repeat' (refine And.intro (by omega) ?_)
  refine CalI.to (both_base TXT_fr hO) (by decide) (fun x u hu => ?_)
  repeat' (refine And.intro (by omega) ?_)
  refine CalI.to hu (by decide) (fun y v r => ?_)
  rw [if_pos r.1]
  exact hn v r.2
theorem law_19 (hi : i + 6 ≤ L) (hL : L ≤ 384) (hxs : ∀ j, in32 (xs j)) (hO : OKW TXT w) (hn : ∀ v, OKW TXT v → Ev (some ((L : Int), xs)) (Cal 30) (cd 247) Q (1914, [some (.inr (.inr 2000)), some (.inr (.inr 11)), some (.inr (.inr 12)), some (.inl (i : Int))], [], v)) : Ev (some ((L : Int), xs)) (Cal 30) (cd 247) Q (1055, [some (.inr (.inr 2000)), some (.inr (.inr 11)), some (.inr (.inr 12)), some (.inl (i : Int))], [], w) := by
  have e1 := wr_p hi hL (k := 1) (by decide)
  have e2 := wr_p hi hL (k := 2) (by decide)
  have e3 := wr_p hi hL (k := 3) (by decide)
  have e4 := wr_p hi hL (k := 4) (by decide)
  have e5 := wr_p hi hL (k := 5) (by decide)
  simp only [show ((1 : Nat) : Int) = 1 from rfl, show ((2 : Nat) : Int) = 2 from rfl, show ((3 : Nat) : Int) = 3 from rfl, show ((4 : Nat) : Int) = 4 from rfl, show ((5 : Nat) : Int) = 5 from rfl] at e1 e2 e3 e4 e5
  refine bk_247_1055 ?_
  simp only [e1, e2, e3, e4, e5, tn]
  repeat' (refine And.intro (by omega) ?_)
  refine CalI.to (both_worth hO) (by decide) (fun x u hu => ?_)
  repeat' (refine And.intro (by omega) ?_)
  refine CalI.to hu (by decide) (fun y v r => ?_)
  rw [if_pos r.1]
  exact hn v r.2
theorem law_20 (hi : i + 6 ≤ L) (hL : L ≤ 384) (hxs : ∀ j, in32 (xs j)) (hO : OKW TXT w) (hn : ∀ v, OKW TXT v → Ev (some ((L : Int), xs)) (Cal 30) (cd 247) Q (1914, [some (.inr (.inr 2000)), some (.inr (.inr 11)), some (.inr (.inr 12)), some (.inl (i : Int))], [], v)) : Ev (some ((L : Int), xs)) (Cal 30) (cd 247) Q (1098, [some (.inr (.inr 2000)), some (.inr (.inr 11)), some (.inr (.inr 12)), some (.inl (i : Int))], [], w) := by
  have e1 := wr_p hi hL (k := 1) (by decide)
  have e2 := wr_p hi hL (k := 2) (by decide)
  have e3 := wr_p hi hL (k := 3) (by decide)
  have e4 := wr_p hi hL (k := 4) (by decide)
  have e5 := wr_p hi hL (k := 5) (by decide)
  simp only [show ((1 : Nat) : Int) = 1 from rfl, show ((2 : Nat) : Int) = 2 from rfl, show ((3 : Nat) : Int) = 3 from rfl, show ((4 : Nat) : Int) = 4 from rfl, show ((5 : Nat) : Int) = 5 from rfl] at e1 e2 e3 e4 e5
  refine bk_247_1098 ?_
  simp only [e1, e2, e3, e4, e5, tn]
  repeat' (refine And.intro (by omega) ?_)
  refine CalI.to (both_fact TXT_fr hO) (by decide) (fun x u hu => ?_)
  repeat' (refine And.intro (by omega) ?_)
  refine CalI.to hu (by decide) (fun y v r => ?_)
  rw [if_pos r.1]
  exact hn v r.2
theorem law_21 (hi : i + 6 ≤ L) (hL : L ≤ 384) (hxs : ∀ j, in32 (xs j)) (hO : OKW TXT w) (hn : ∀ v, OKW TXT v → Ev (some ((L : Int), xs)) (Cal 30) (cd 247) Q (1914, [some (.inr (.inr 2000)), some (.inr (.inr 11)), some (.inr (.inr 12)), some (.inl (i : Int))], [], v)) : Ev (some ((L : Int), xs)) (Cal 30) (cd 247) Q (1141, [some (.inr (.inr 2000)), some (.inr (.inr 11)), some (.inr (.inr 12)), some (.inl (i : Int))], [], w) := by
  have e1 := wr_p hi hL (k := 1) (by decide)
  have e2 := wr_p hi hL (k := 2) (by decide)
  have e3 := wr_p hi hL (k := 3) (by decide)
  have e4 := wr_p hi hL (k := 4) (by decide)
  have e5 := wr_p hi hL (k := 5) (by decide)
  simp only [show ((1 : Nat) : Int) = 1 from rfl, show ((2 : Nat) : Int) = 2 from rfl, show ((3 : Nat) : Int) = 3 from rfl, show ((4 : Nat) : Int) = 4 from rfl, show ((5 : Nat) : Int) = 5 from rfl] at e1 e2 e3 e4 e5
  refine bk_247_1141 ?_
  simp only [e1, e2, e3, e4, e5, tn]
  repeat' (refine And.intro (by omega) ?_)
  refine CalI.to (both_ends hO) (by decide) (fun x u hu => ?_)
  repeat' (refine And.intro (by omega) ?_)
  refine CalI.to hu (by decide) (fun y v r => ?_)
  rw [if_pos r.1]
  exact hn v r.2
theorem law_22 (hi : i + 6 ≤ L) (hL : L ≤ 384) (hxs : ∀ j, in32 (xs j)) (hO : OKW TXT w) (hn : ∀ v, OKW TXT v → Ev (some ((L : Int), xs)) (Cal 30) (cd 247) Q (1914, [some (.inr (.inr 2000)), some (.inr (.inr 11)), some (.inr (.inr 12)), some (.inl (i : Int))], [], v)) : Ev (some ((L : Int), xs)) (Cal 30) (cd 247) Q (1174, [some (.inr (.inr 2000)), some (.inr (.inr 11)), some (.inr (.inr 12)), some (.inl (i : Int))], [], w) := by
  have e1 := wr_p hi hL (k := 1) (by decide)
  have e2 := wr_p hi hL (k := 2) (by decide)
  have e3 := wr_p hi hL (k := 3) (by decide)
  have e4 := wr_p hi hL (k := 4) (by decide)
  have e5 := wr_p hi hL (k := 5) (by decide)
  simp only [show ((1 : Nat) : Int) = 1 from rfl, show ((2 : Nat) : Int) = 2 from rfl, show ((3 : Nat) : Int) = 3 from rfl, show ((4 : Nat) : Int) = 4 from rfl, show ((5 : Nat) : Int) = 5 from rfl] at e1 e2 e3 e4 e5
  refine bk_247_1174 ?_
  simp only [e1, e2, e3, e4, e5, tn]
  repeat' (refine And.intro (by omega) ?_)
  refine CalI.to (both_member TXT_fr hO) (by decide) (fun x u hu => ?_)
  repeat' (refine And.intro (by omega) ?_)
  refine CalI.to hu (by decide) (fun y v r => ?_)
  rw [if_pos r.1]
  exact hn v r.2
theorem law_23 (hi : i + 6 ≤ L) (hL : L ≤ 384) (hxs : ∀ j, in32 (xs j)) (hO : OKW TXT w) (hn : ∀ v, OKW TXT v → Ev (some ((L : Int), xs)) (Cal 30) (cd 247) Q (1914, [some (.inr (.inr 2000)), some (.inr (.inr 11)), some (.inr (.inr 12)), some (.inl (i : Int))], [], v)) : Ev (some ((L : Int), xs)) (Cal 30) (cd 247) Q (1207, [some (.inr (.inr 2000)), some (.inr (.inr 11)), some (.inr (.inr 12)), some (.inl (i : Int))], [], w) := by
  have e1 := wr_p hi hL (k := 1) (by decide)
  have e2 := wr_p hi hL (k := 2) (by decide)
  have e3 := wr_p hi hL (k := 3) (by decide)
  have e4 := wr_p hi hL (k := 4) (by decide)
  have e5 := wr_p hi hL (k := 5) (by decide)
  simp only [show ((1 : Nat) : Int) = 1 from rfl, show ((2 : Nat) : Int) = 2 from rfl, show ((3 : Nat) : Int) = 3 from rfl, show ((4 : Nat) : Int) = 4 from rfl, show ((5 : Nat) : Int) = 5 from rfl] at e1 e2 e3 e4 e5
  refine bk_247_1207 ?_
  simp only [e1, e2, e3, e4, e5, tn]
  repeat' (refine And.intro (by omega) ?_)
  refine CalI.to (both_lot TXT_fr hO) (by decide) (fun x u hu => ?_)
  repeat' (refine And.intro (by omega) ?_)
  refine CalI.to hu (by decide) (fun y v r => ?_)
  rw [if_pos r.1]
  exact hn v r.2
theorem law_24 (hi : i + 6 ≤ L) (hL : L ≤ 384) (hxs : ∀ j, in32 (xs j)) (hO : OKW TXT w) (hn : ∀ v, OKW TXT v → Ev (some ((L : Int), xs)) (Cal 30) (cd 247) Q (1914, [some (.inr (.inr 2000)), some (.inr (.inr 11)), some (.inr (.inr 12)), some (.inl (i : Int))], [], v)) : Ev (some ((L : Int), xs)) (Cal 30) (cd 247) Q (1240, [some (.inr (.inr 2000)), some (.inr (.inr 11)), some (.inr (.inr 12)), some (.inl (i : Int))], [], w) := by
  have e1 := wr_p hi hL (k := 1) (by decide)
  have e2 := wr_p hi hL (k := 2) (by decide)
  have e3 := wr_p hi hL (k := 3) (by decide)
  have e4 := wr_p hi hL (k := 4) (by decide)
  have e5 := wr_p hi hL (k := 5) (by decide)
  simp only [show ((1 : Nat) : Int) = 1 from rfl, show ((2 : Nat) : Int) = 2 from rfl, show ((3 : Nat) : Int) = 3 from rfl, show ((4 : Nat) : Int) = 4 from rfl, show ((5 : Nat) : Int) = 5 from rfl] at e1 e2 e3 e4 e5
  refine bk_247_1240 ?_
  simp only [e1, e2, e3, e4, e5, tn]
  repeat' (refine And.intro (by omega) ?_)
  refine CalI.to (both_line TXT_fr hO (hxs _)) (by decide) (fun x u hu => ?_)
  repeat' (refine And.intro (by omega) ?_)
  refine CalI.to hu (by decide) (fun y v r => ?_)
  rw [if_pos r.1]
  exact hn v r.2
theorem law_25 (hi : i + 6 ≤ L) (hL : L ≤ 384) (hxs : ∀ j, in32 (xs j)) (hO : OKW TXT w) (hn : ∀ v, OKW TXT v → Ev (some ((L : Int), xs)) (Cal 30) (cd 247) Q (1914, [some (.inr (.inr 2000)), some (.inr (.inr 11)), some (.inr (.inr 12)), some (.inl (i : Int))], [], v)) : Ev (some ((L : Int), xs)) (Cal 30) (cd 247) Q (1293, [some (.inr (.inr 2000)), some (.inr (.inr 11)), some (.inr (.inr 12)), some (.inl (i : Int))], [], w) := by
  have e1 := wr_p hi hL (k := 1) (by decide)
  have e2 := wr_p hi hL (k := 2) (by decide)
  have e3 := wr_p hi hL (k := 3) (by decide)
  have e4 := wr_p hi hL (k := 4) (by decide)
  have e5 := wr_p hi hL (k := 5) (by decide)
  simp only [show ((1 : Nat) : Int) = 1 from rfl, show ((2 : Nat) : Int) = 2 from rfl, show ((3 : Nat) : Int) = 3 from rfl, show ((4 : Nat) : Int) = 4 from rfl, show ((5 : Nat) : Int) = 5 from rfl] at e1 e2 e3 e4 e5
  refine bk_247_1293 ?_
  simp only [e1, e2, e3, e4, e5, tn]
  repeat' (refine And.intro (by omega) ?_)
  refine CalI.to (both_stands hO (hxs _)) (by decide) (fun x u hu => ?_)
  repeat' (refine And.intro (by omega) ?_)
  refine CalI.to hu (by decide) (fun y v r => ?_)
  rw [if_pos r.1]
  exact hn v r.2
theorem law_26 (hi : i + 6 ≤ L) (hL : L ≤ 384) (hxs : ∀ j, in32 (xs j)) (hO : OKW TXT w) (hn : ∀ v, OKW TXT v → Ev (some ((L : Int), xs)) (Cal 30) (cd 247) Q (1914, [some (.inr (.inr 2000)), some (.inr (.inr 11)), some (.inr (.inr 12)), some (.inl (i : Int))], [], v)) : Ev (some ((L : Int), xs)) (Cal 30) (cd 247) Q (1316, [some (.inr (.inr 2000)), some (.inr (.inr 11)), some (.inr (.inr 12)), some (.inl (i : Int))], [], w) := by
  have e1 := wr_p hi hL (k := 1) (by decide)
  have e2 := wr_p hi hL (k := 2) (by decide)
  have e3 := wr_p hi hL (k := 3) (by decide)
  have e4 := wr_p hi hL (k := 4) (by decide)
  have e5 := wr_p hi hL (k := 5) (by decide)
  simp only [show ((1 : Nat) : Int) = 1 from rfl, show ((2 : Nat) : Int) = 2 from rfl, show ((3 : Nat) : Int) = 3 from rfl, show ((4 : Nat) : Int) = 4 from rfl, show ((5 : Nat) : Int) = 5 from rfl] at e1 e2 e3 e4 e5
  refine bk_247_1316 ?_
  simp only [e1, e2, e3, e4, e5, tn]
  repeat' (refine And.intro (by omega) ?_)
  refine CalI.to (both_falls TXT_fr hO) (by decide) (fun x u hu => ?_)
  repeat' (refine And.intro (by omega) ?_)
  refine CalI.to hu (by decide) (fun y v r => ?_)
  rw [if_pos r.1]
  exact hn v r.2
theorem law_27 (hi : i + 6 ≤ L) (hL : L ≤ 384) (hxs : ∀ j, in32 (xs j)) (hO : OKW TXT w) (hn : ∀ v, OKW TXT v → Ev (some ((L : Int), xs)) (Cal 30) (cd 247) Q (1914, [some (.inr (.inr 2000)), some (.inr (.inr 11)), some (.inr (.inr 12)), some (.inl (i : Int))], [], v)) : Ev (some ((L : Int), xs)) (Cal 30) (cd 247) Q (1339, [some (.inr (.inr 2000)), some (.inr (.inr 11)), some (.inr (.inr 12)), some (.inl (i : Int))], [], w) := by
  have e1 := wr_p hi hL (k := 1) (by decide)
  have e2 := wr_p hi hL (k := 2) (by decide)
  have e3 := wr_p hi hL (k := 3) (by decide)
  have e4 := wr_p hi hL (k := 4) (by decide)
  have e5 := wr_p hi hL (k := 5) (by decide)
  simp only [show ((1 : Nat) : Int) = 1 from rfl, show ((2 : Nat) : Int) = 2 from rfl, show ((3 : Nat) : Int) = 3 from rfl, show ((4 : Nat) : Int) = 4 from rfl, show ((5 : Nat) : Int) = 5 from rfl] at e1 e2 e3 e4 e5
  refine bk_247_1339 ?_
  simp only [e1, e2, e3, e4, e5, tn]
  repeat' (refine And.intro (by omega) ?_)
  refine CalI.to (both_under TXT_fr hO (hxs _)) (by decide) (fun x u hu => ?_)
  repeat' (refine And.intro (by omega) ?_)
  refine CalI.to hu (by decide) (fun y v r => ?_)
  rw [if_pos r.1]
  exact hn v r.2
theorem law_28 (hi : i + 6 ≤ L) (hL : L ≤ 384) (hxs : ∀ j, in32 (xs j)) (hO : OKW TXT w) (hn : ∀ v, OKW TXT v → Ev (some ((L : Int), xs)) (Cal 30) (cd 247) Q (1914, [some (.inr (.inr 2000)), some (.inr (.inr 11)), some (.inr (.inr 12)), some (.inl (i : Int))], [], v)) : Ev (some ((L : Int), xs)) (Cal 30) (cd 247) Q (1392, [some (.inr (.inr 2000)), some (.inr (.inr 11)), some (.inr (.inr 12)), some (.inl (i : Int))], [], w) := by
  have e1 := wr_p hi hL (k := 1) (by decide)
  have e2 := wr_p hi hL (k := 2) (by decide)
  have e3 := wr_p hi hL (k := 3) (by decide)
  have e4 := wr_p hi hL (k := 4) (by decide)
  have e5 := wr_p hi hL (k := 5) (by decide)
  simp only [show ((1 : Nat) : Int) = 1 from rfl, show ((2 : Nat) : Int) = 2 from rfl, show ((3 : Nat) : Int) = 3 from rfl, show ((4 : Nat) : Int) = 4 from rfl, show ((5 : Nat) : Int) = 5 from rfl] at e1 e2 e3 e4 e5
  refine bk_247_1392 ?_
  simp only [e1, e2, e3, e4, e5, tn]
  repeat' (refine And.intro (by omega) ?_)
  refine CalI.to (both_gain hO) (by decide) (fun x u hu => ?_)
  repeat' (refine And.intro (by omega) ?_)
  refine CalI.to hu (by decide) (fun y v r => ?_)
  rw [if_pos r.1]
  exact hn v r.2
theorem law_29 (hi : i + 6 ≤ L) (hL : L ≤ 384) (hxs : ∀ j, in32 (xs j)) (hO : OKW TXT w) (hn : ∀ v, OKW TXT v → Ev (some ((L : Int), xs)) (Cal 30) (cd 247) Q (1914, [some (.inr (.inr 2000)), some (.inr (.inr 11)), some (.inr (.inr 12)), some (.inl (i : Int))], [], v)) : Ev (some ((L : Int), xs)) (Cal 30) (cd 247) Q (1435, [some (.inr (.inr 2000)), some (.inr (.inr 11)), some (.inr (.inr 12)), some (.inl (i : Int))], [], w) := by
  have e1 := wr_p hi hL (k := 1) (by decide)
  have e2 := wr_p hi hL (k := 2) (by decide)
  have e3 := wr_p hi hL (k := 3) (by decide)
  have e4 := wr_p hi hL (k := 4) (by decide)
  have e5 := wr_p hi hL (k := 5) (by decide)
  simp only [show ((1 : Nat) : Int) = 1 from rfl, show ((2 : Nat) : Int) = 2 from rfl, show ((3 : Nat) : Int) = 3 from rfl, show ((4 : Nat) : Int) = 4 from rfl, show ((5 : Nat) : Int) = 5 from rfl] at e1 e2 e3 e4 e5
  refine bk_247_1435 ?_
  simp only [e1, e2, e3, e4, e5, tn]
  repeat' (refine And.intro (by omega) ?_)
  refine CalI.to (both_want TXT_fr hO) (by decide) (fun x u hu => ?_)
  repeat' (refine And.intro (by omega) ?_)
  refine CalI.to hu (by decide) (fun y v r => ?_)
  rw [if_pos r.1]
  exact hn v r.2
theorem law_30 (hi : i + 6 ≤ L) (hL : L ≤ 384) (hxs : ∀ j, in32 (xs j)) (hO : OKW TXT w) (hn : ∀ v, OKW TXT v → Ev (some ((L : Int), xs)) (Cal 30) (cd 247) Q (1914, [some (.inr (.inr 2000)), some (.inr (.inr 11)), some (.inr (.inr 12)), some (.inl (i : Int))], [], v)) : Ev (some ((L : Int), xs)) (Cal 30) (cd 247) Q (1478, [some (.inr (.inr 2000)), some (.inr (.inr 11)), some (.inr (.inr 12)), some (.inl (i : Int))], [], w) := by
  have e1 := wr_p hi hL (k := 1) (by decide)
  have e2 := wr_p hi hL (k := 2) (by decide)
  have e3 := wr_p hi hL (k := 3) (by decide)
  have e4 := wr_p hi hL (k := 4) (by decide)
  have e5 := wr_p hi hL (k := 5) (by decide)
  simp only [show ((1 : Nat) : Int) = 1 from rfl, show ((2 : Nat) : Int) = 2 from rfl, show ((3 : Nat) : Int) = 3 from rfl, show ((4 : Nat) : Int) = 4 from rfl, show ((5 : Nat) : Int) = 5 from rfl] at e1 e2 e3 e4 e5
  refine bk_247_1478 ?_
  simp only [e1, e2, e3, e4, e5, tn]
  repeat' (refine And.intro (by omega) ?_)
  refine CalI.to (both_bar TXT_fr hO) (by decide) (fun x u hu => ?_)
  repeat' (refine And.intro (by omega) ?_)
  refine CalI.to hu (by decide) (fun y v r => ?_)
  rw [if_pos r.1]
  exact hn v r.2
theorem law_31 (hi : i + 6 ≤ L) (hL : L ≤ 384) (hxs : ∀ j, in32 (xs j)) (hO : OKW TXT w) (hn : ∀ v, OKW TXT v → Ev (some ((L : Int), xs)) (Cal 30) (cd 247) Q (1914, [some (.inr (.inr 2000)), some (.inr (.inr 11)), some (.inr (.inr 12)), some (.inl (i : Int))], [], v)) : Ev (some ((L : Int), xs)) (Cal 30) (cd 247) Q (1511, [some (.inr (.inr 2000)), some (.inr (.inr 11)), some (.inr (.inr 12)), some (.inl (i : Int))], [], w) := by
  have e1 := wr_p hi hL (k := 1) (by decide)
  have e2 := wr_p hi hL (k := 2) (by decide)
  have e3 := wr_p hi hL (k := 3) (by decide)
  have e4 := wr_p hi hL (k := 4) (by decide)
  have e5 := wr_p hi hL (k := 5) (by decide)
  simp only [show ((1 : Nat) : Int) = 1 from rfl, show ((2 : Nat) : Int) = 2 from rfl, show ((3 : Nat) : Int) = 3 from rfl, show ((4 : Nat) : Int) = 4 from rfl, show ((5 : Nat) : Int) = 5 from rfl] at e1 e2 e3 e4 e5
  refine bk_247_1511 ?_
  simp only [e1, e2, e3, e4, e5, tn]
  repeat' (refine And.intro (by omega) ?_)
  refine CalI.to (both_read TXT_fr hO) (by decide) (fun x u hu => ?_)
  repeat' (refine And.intro (by omega) ?_)
  refine CalI.to hu (by decide) (fun y v r => ?_)
  rw [if_pos r.1]
  exact hn v r.2
theorem law_32 (hi : i + 6 ≤ L) (hL : L ≤ 384) (hxs : ∀ j, in32 (xs j)) (hO : OKW TXT w) (hn : ∀ v, OKW TXT v → Ev (some ((L : Int), xs)) (Cal 30) (cd 247) Q (1914, [some (.inr (.inr 2000)), some (.inr (.inr 11)), some (.inr (.inr 12)), some (.inl (i : Int))], [], v)) : Ev (some ((L : Int), xs)) (Cal 30) (cd 247) Q (1544, [some (.inr (.inr 2000)), some (.inr (.inr 11)), some (.inr (.inr 12)), some (.inl (i : Int))], [], w) := by
  have e1 := wr_p hi hL (k := 1) (by decide)
  have e2 := wr_p hi hL (k := 2) (by decide)
  have e3 := wr_p hi hL (k := 3) (by decide)
  have e4 := wr_p hi hL (k := 4) (by decide)
  have e5 := wr_p hi hL (k := 5) (by decide)
  simp only [show ((1 : Nat) : Int) = 1 from rfl, show ((2 : Nat) : Int) = 2 from rfl, show ((3 : Nat) : Int) = 3 from rfl, show ((4 : Nat) : Int) = 4 from rfl, show ((5 : Nat) : Int) = 5 from rfl] at e1 e2 e3 e4 e5
  refine bk_247_1544 ?_
  simp only [e1, e2, e3, e4, e5, tn]
  repeat' (refine And.intro (by omega) ?_)
  refine CalI.to (both_there TXT_fr hO) (by decide) (fun x u hu => ?_)
  repeat' (refine And.intro (by omega) ?_)
  refine CalI.to hu (by decide) (fun y v r => ?_)
  rw [if_pos r.1]
  exact hn v r.2
theorem law_33 (hi : i + 6 ≤ L) (hL : L ≤ 384) (hxs : ∀ j, in32 (xs j)) (hO : OKW TXT w) (hn : ∀ v, OKW TXT v → Ev (some ((L : Int), xs)) (Cal 30) (cd 247) Q (1914, [some (.inr (.inr 2000)), some (.inr (.inr 11)), some (.inr (.inr 12)), some (.inl (i : Int))], [], v)) : Ev (some ((L : Int), xs)) (Cal 30) (cd 247) Q (1597, [some (.inr (.inr 2000)), some (.inr (.inr 11)), some (.inr (.inr 12)), some (.inl (i : Int))], [], w) := by
  have e1 := wr_p hi hL (k := 1) (by decide)
  have e2 := wr_p hi hL (k := 2) (by decide)
  have e3 := wr_p hi hL (k := 3) (by decide)
  have e4 := wr_p hi hL (k := 4) (by decide)
  have e5 := wr_p hi hL (k := 5) (by decide)
  simp only [show ((1 : Nat) : Int) = 1 from rfl, show ((2 : Nat) : Int) = 2 from rfl, show ((3 : Nat) : Int) = 3 from rfl, show ((4 : Nat) : Int) = 4 from rfl, show ((5 : Nat) : Int) = 5 from rfl] at e1 e2 e3 e4 e5
  refine bk_247_1597 ?_
  simp only [e1, e2, e3, e4, e5, tn]
  repeat' (refine And.intro (by omega) ?_)
  refine CalI.to (both_divide TXT_fr hO (hxs _)) (by decide) (fun x u hu => ?_)
  repeat' (refine And.intro (by omega) ?_)
  refine CalI.to hu (by decide) (fun y v r => ?_)
  rw [if_pos r.1]
  exact hn v r.2
theorem law_34 (hi : i + 6 ≤ L) (hL : L ≤ 384) (hxs : ∀ j, in32 (xs j)) (hO : OKW TXT w) (hn : ∀ v, OKW TXT v → Ev (some ((L : Int), xs)) (Cal 30) (cd 247) Q (1914, [some (.inr (.inr 2000)), some (.inr (.inr 11)), some (.inr (.inr 12)), some (.inl (i : Int))], [], v)) : Ev (some ((L : Int), xs)) (Cal 30) (cd 247) Q (1640, [some (.inr (.inr 2000)), some (.inr (.inr 11)), some (.inr (.inr 12)), some (.inl (i : Int))], [], w) := by
  have e1 := wr_p hi hL (k := 1) (by decide)
  have e2 := wr_p hi hL (k := 2) (by decide)
  have e3 := wr_p hi hL (k := 3) (by decide)
  have e4 := wr_p hi hL (k := 4) (by decide)
  have e5 := wr_p hi hL (k := 5) (by decide)
  simp only [show ((1 : Nat) : Int) = 1 from rfl, show ((2 : Nat) : Int) = 2 from rfl, show ((3 : Nat) : Int) = 3 from rfl, show ((4 : Nat) : Int) = 4 from rfl, show ((5 : Nat) : Int) = 5 from rfl] at e1 e2 e3 e4 e5
  refine bk_247_1640 ?_
  simp only [e1, e2, e3, e4, e5, tn]
  repeat' (refine And.intro (by omega) ?_)
  refine CalI.to (both_carry TXT_fr hO) (by decide) (fun x u hu => ?_)
  repeat' (refine And.intro (by omega) ?_)
  refine CalI.to hu (by decide) (fun y v r => ?_)
  rw [if_pos r.1]
  exact hn v r.2
theorem law_35 (hi : i + 6 ≤ L) (hL : L ≤ 384) (hxs : ∀ j, in32 (xs j)) (hO : OKW TXT w) (hn : ∀ v, OKW TXT v → Ev (some ((L : Int), xs)) (Cal 30) (cd 247) Q (1914, [some (.inr (.inr 2000)), some (.inr (.inr 11)), some (.inr (.inr 12)), some (.inl (i : Int))], [], v)) : Ev (some ((L : Int), xs)) (Cal 30) (cd 247) Q (1673, [some (.inr (.inr 2000)), some (.inr (.inr 11)), some (.inr (.inr 12)), some (.inl (i : Int))], [], w) := by
  have e1 := wr_p hi hL (k := 1) (by decide)
  have e2 := wr_p hi hL (k := 2) (by decide)
  have e3 := wr_p hi hL (k := 3) (by decide)
  have e4 := wr_p hi hL (k := 4) (by decide)
  have e5 := wr_p hi hL (k := 5) (by decide)
  simp only [show ((1 : Nat) : Int) = 1 from rfl, show ((2 : Nat) : Int) = 2 from rfl, show ((3 : Nat) : Int) = 3 from rfl, show ((4 : Nat) : Int) = 4 from rfl, show ((5 : Nat) : Int) = 5 from rfl] at e1 e2 e3 e4 e5
  refine bk_247_1673 ?_
  simp only [e1, e2, e3, e4, e5, tn]
  repeat' (refine And.intro (by omega) ?_)
  refine CalI.to (both_nights TXT_fr hO) (by decide) (fun x u hu => ?_)
  repeat' (refine And.intro (by omega) ?_)
  refine CalI.to hu (by decide) (fun y v r => ?_)
  rw [if_pos r.1]
  exact hn v r.2
theorem law_36 (hi : i + 6 ≤ L) (hL : L ≤ 384) (hxs : ∀ j, in32 (xs j)) (hO : OKW TXT w) (hn : ∀ v, OKW TXT v → Ev (some ((L : Int), xs)) (Cal 30) (cd 247) Q (1914, [some (.inr (.inr 2000)), some (.inr (.inr 11)), some (.inr (.inr 12)), some (.inl (i : Int))], [], v)) : Ev (some ((L : Int), xs)) (Cal 30) (cd 247) Q (1706, [some (.inr (.inr 2000)), some (.inr (.inr 11)), some (.inr (.inr 12)), some (.inl (i : Int))], [], w) := by
  have e1 := wr_p hi hL (k := 1) (by decide)
  have e2 := wr_p hi hL (k := 2) (by decide)
  have e3 := wr_p hi hL (k := 3) (by decide)
  have e4 := wr_p hi hL (k := 4) (by decide)
  have e5 := wr_p hi hL (k := 5) (by decide)
  simp only [show ((1 : Nat) : Int) = 1 from rfl, show ((2 : Nat) : Int) = 2 from rfl, show ((3 : Nat) : Int) = 3 from rfl, show ((4 : Nat) : Int) = 4 from rfl, show ((5 : Nat) : Int) = 5 from rfl] at e1 e2 e3 e4 e5
  refine bk_247_1706 ?_
  simp only [e1, e2, e3, e4, e5, tn]
  repeat' (refine And.intro (by omega) ?_)
  refine CalI.to (both_nightOf TXT_fr hO) (by decide) (fun x u hu => ?_)
  repeat' (refine And.intro (by omega) ?_)
  refine CalI.to hu (by decide) (fun y v r => ?_)
  rw [if_pos r.1]
  exact hn v r.2
theorem law_37 (hi : i + 6 ≤ L) (hL : L ≤ 384) (hxs : ∀ j, in32 (xs j)) (hO : OKW TXT w) (hn : ∀ v, OKW TXT v → Ev (some ((L : Int), xs)) (Cal 30) (cd 247) Q (1914, [some (.inr (.inr 2000)), some (.inr (.inr 11)), some (.inr (.inr 12)), some (.inl (i : Int))], [], v)) : Ev (some ((L : Int), xs)) (Cal 30) (cd 247) Q (1749, [some (.inr (.inr 2000)), some (.inr (.inr 11)), some (.inr (.inr 12)), some (.inl (i : Int))], [], w) := by
  have e1 := wr_p hi hL (k := 1) (by decide)
  have e2 := wr_p hi hL (k := 2) (by decide)
  have e3 := wr_p hi hL (k := 3) (by decide)
  have e4 := wr_p hi hL (k := 4) (by decide)
  have e5 := wr_p hi hL (k := 5) (by decide)
  simp only [show ((1 : Nat) : Int) = 1 from rfl, show ((2 : Nat) : Int) = 2 from rfl, show ((3 : Nat) : Int) = 3 from rfl, show ((4 : Nat) : Int) = 4 from rfl, show ((5 : Nat) : Int) = 5 from rfl] at e1 e2 e3 e4 e5
  refine bk_247_1749 ?_
  simp only [e1, e2, e3, e4, e5, tn]
  repeat' (refine And.intro (by omega) ?_)
  refine CalI.to (both_patron TXT_fr hO) (by decide) (fun x u hu => ?_)
  repeat' (refine And.intro (by omega) ?_)
  refine CalI.to hu (by decide) (fun y v r => ?_)
  rw [if_pos r.1]
  exact hn v r.2
theorem law_38 (hi : i + 6 ≤ L) (hL : L ≤ 384) (hxs : ∀ j, in32 (xs j)) (hO : OKW TXT w) (hn : ∀ v, OKW TXT v → Ev (some ((L : Int), xs)) (Cal 30) (cd 247) Q (1914, [some (.inr (.inr 2000)), some (.inr (.inr 11)), some (.inr (.inr 12)), some (.inl (i : Int))], [], v)) : Ev (some ((L : Int), xs)) (Cal 30) (cd 247) Q (1782, [some (.inr (.inr 2000)), some (.inr (.inr 11)), some (.inr (.inr 12)), some (.inl (i : Int))], [], w) := by
  have e1 := wr_p hi hL (k := 1) (by decide)
  have e2 := wr_p hi hL (k := 2) (by decide)
  have e3 := wr_p hi hL (k := 3) (by decide)
  have e4 := wr_p hi hL (k := 4) (by decide)
  have e5 := wr_p hi hL (k := 5) (by decide)
  simp only [show ((1 : Nat) : Int) = 1 from rfl, show ((2 : Nat) : Int) = 2 from rfl, show ((3 : Nat) : Int) = 3 from rfl, show ((4 : Nat) : Int) = 4 from rfl, show ((5 : Nat) : Int) = 5 from rfl] at e1 e2 e3 e4 e5
  refine bk_247_1782 ?_
  simp only [e1, e2, e3, e4, e5, tn]
  repeat' (refine And.intro (by omega) ?_)
  refine CalI.to (both_elect hO (hxs _)) (by decide) (fun x u hu => ?_)
  repeat' (refine And.intro (by omega) ?_)
  refine CalI.to hu (by decide) (fun y v r => ?_)
  rw [if_pos r.1]
  exact hn v r.2
theorem law_39 (hi : i + 6 ≤ L) (hL : L ≤ 384) (hxs : ∀ j, in32 (xs j)) (hO : OKW TXT w) (hn : ∀ v, OKW TXT v → Ev (some ((L : Int), xs)) (Cal 30) (cd 247) Q (1914, [some (.inr (.inr 2000)), some (.inr (.inr 11)), some (.inr (.inr 12)), some (.inl (i : Int))], [], v)) : Ev (some ((L : Int), xs)) (Cal 30) (cd 247) Q (1835, [some (.inr (.inr 2000)), some (.inr (.inr 11)), some (.inr (.inr 12)), some (.inl (i : Int))], [], w) := by
  have e1 := wr_p hi hL (k := 1) (by decide)
  have e2 := wr_p hi hL (k := 2) (by decide)
  have e3 := wr_p hi hL (k := 3) (by decide)
  have e4 := wr_p hi hL (k := 4) (by decide)
  have e5 := wr_p hi hL (k := 5) (by decide)
  simp only [show ((1 : Nat) : Int) = 1 from rfl, show ((2 : Nat) : Int) = 2 from rfl, show ((3 : Nat) : Int) = 3 from rfl, show ((4 : Nat) : Int) = 4 from rfl, show ((5 : Nat) : Int) = 5 from rfl] at e1 e2 e3 e4 e5
  refine bk_247_1835 ?_
  simp only [e1, e2, e3, e4, e5, tn]
  repeat' (refine And.intro (by omega) ?_)
  refine CalI.to (both_put TXT_fr hO) (by decide) (fun x u hu => ?_)
  repeat' (refine And.intro (by omega) ?_)
  refine CalI.to hu (by decide) (fun y v r => ?_)
  rw [if_pos r.1]
  exact hn v r.2
theorem law_40 (hi : i + 6 ≤ L) (hL : L ≤ 384) (hxs : ∀ j, in32 (xs j)) (hO : OKW TXT w) (hn : ∀ v, OKW TXT v → Ev (some ((L : Int), xs)) (Cal 30) (cd 247) Q (1914, [some (.inr (.inr 2000)), some (.inr (.inr 11)), some (.inr (.inr 12)), some (.inl (i : Int))], [], v)) : Ev (some ((L : Int), xs)) (Cal 30) (cd 247) Q (1858, [some (.inr (.inr 2000)), some (.inr (.inr 11)), some (.inr (.inr 12)), some (.inl (i : Int))], [], w) := by
  have e1 := wr_p hi hL (k := 1) (by decide)
  have e2 := wr_p hi hL (k := 2) (by decide)
  have e3 := wr_p hi hL (k := 3) (by decide)
  have e4 := wr_p hi hL (k := 4) (by decide)
  have e5 := wr_p hi hL (k := 5) (by decide)
  simp only [show ((1 : Nat) : Int) = 1 from rfl, show ((2 : Nat) : Int) = 2 from rfl, show ((3 : Nat) : Int) = 3 from rfl, show ((4 : Nat) : Int) = 4 from rfl, show ((5 : Nat) : Int) = 5 from rfl] at e1 e2 e3 e4 e5
  refine bk_247_1858 ?_
  simp only [e1, e2, e3, e4, e5, tn]
  repeat' (refine And.intro (by omega) ?_)
  refine CalI.to (both_check TXT_fr hO (hxs _)) (by decide) (fun x u hu => ?_)
  repeat' (refine And.intro (by omega) ?_)
  refine CalI.to hu (by decide) (fun y v r => ?_)
  rw [if_pos r.1]
  exact hn v r.2
theorem law_41 (hi : i + 6 ≤ L) (hL : L ≤ 384) (hxs : ∀ j, in32 (xs j)) (hO : OKW TXT w) (hn : ∀ v, OKW TXT v → Ev (some ((L : Int), xs)) (Cal 30) (cd 247) Q (1914, [some (.inr (.inr 2000)), some (.inr (.inr 11)), some (.inr (.inr 12)), some (.inl (i : Int))], [], v)) : Ev (some ((L : Int), xs)) (Cal 30) (cd 247) Q (1891, [some (.inr (.inr 2000)), some (.inr (.inr 11)), some (.inr (.inr 12)), some (.inl (i : Int))], [], w) := by
  have e1 := wr_p hi hL (k := 1) (by decide)
  have e2 := wr_p hi hL (k := 2) (by decide)
  have e3 := wr_p hi hL (k := 3) (by decide)
  have e4 := wr_p hi hL (k := 4) (by decide)
  have e5 := wr_p hi hL (k := 5) (by decide)
  simp only [show ((1 : Nat) : Int) = 1 from rfl, show ((2 : Nat) : Int) = 2 from rfl, show ((3 : Nat) : Int) = 3 from rfl, show ((4 : Nat) : Int) = 4 from rfl, show ((5 : Nat) : Int) = 5 from rfl] at e1 e2 e3 e4 e5
  refine bk_247_1891 ?_
  simp only [e1, e2, e3, e4, e5, tn]
  repeat' (refine And.intro (by omega) ?_)
  refine CalI.to (both_count hO) (by decide) (fun x u hu => ?_)
  repeat' (refine And.intro (by omega) ?_)
  refine CalI.to hu (by decide) (fun y v r => ?_)
  rw [if_pos r.1]
  exact hn v r.2
theorem law_loop (hL : L ≤ 384) (hxs : ∀ j, in32 (xs j)) (hQ : ∀ v, Q (some (.inl 1)) v) : ∀ n i w, L ≤ i + n → i ≤ L → OKW TXT w → Ev (some ((L : Int), xs)) (Cal 30) (cd 247) Q (18, [some (.inr (.inr 2000)), some (.inr (.inr 11)), some (.inr (.inr 12)), some (.inl (i : Int))], [], w) := by
  intro n
  induction n using Nat.strongRecOn with
  | _ n ih =>
    intro i w hn hi hO
    refine bk_247_18 ?_
    rw [wr_id (x := (L : Int) - 6) (by omega) (by omega)]
    refine ite_i (fun q => ?_) (fun q => ?_)
    · exact ⟨by decide, hQ _⟩
    · have h6 : i + 6 ≤ L := by omega
      have next : ∀ v, OKW TXT v → Ev (some ((L : Int), xs)) (Cal 30) (cd 247) Q (1914, [some (.inr (.inr 2000)), some (.inr (.inr 11)), some (.inr (.inr 12)), some (.inl (i : Int))], [], v) := by
        intro v hv
        refine bk_247_1914 ?_
        rw [wr_id (x := (i : Int) + 6) (by omega) (by omega), show (i : Int) + 6 = ((i + 6 : Nat) : Int) by omega]
        exact ih (n - 6) (by omega) (i + 6) v (by omega) h6 hv
      refine ⟨⟨by omega, by omega⟩, ?_⟩
      refine ite_i (fun _ => law_0 h6 hL hxs hO next) (fun _ => ?_)
      refine ite_i (fun _ => law_1 h6 hL hxs hO next) (fun _ => ?_)
      refine ite_i (fun _ => law_2 h6 hL hxs hO next) (fun _ => ?_)
      refine ite_i (fun _ => law_3 h6 hL hxs hO next) (fun _ => ?_)
      refine ite_i (fun _ => law_4 h6 hL hxs hO next) (fun _ => ?_)
      refine ite_i (fun _ => law_5 h6 hL hxs hO next) (fun _ => ?_)
      refine ite_i (fun _ => law_6 h6 hL hxs hO next) (fun _ => ?_)
      refine ite_i (fun _ => law_7 h6 hL hxs hO next) (fun _ => ?_)
      refine ite_i (fun _ => law_8 h6 hL hxs hO next) (fun _ => ?_)
      refine ite_i (fun _ => law_9 h6 hL hxs hO next) (fun _ => ?_)
      refine ite_i (fun _ => law_10 h6 hL hxs hO next) (fun _ => ?_)
      refine ite_i (fun _ => law_11 h6 hL hxs hO next) (fun _ => ?_)
      refine ite_i (fun _ => law_12 h6 hL hxs hO next) (fun _ => ?_)
      refine ite_i (fun _ => law_13 h6 hL hxs hO next) (fun _ => ?_)
      refine ite_i (fun _ => law_14 h6 hL hxs hO next) (fun _ => ?_)
      refine ite_i (fun _ => law_15 h6 hL hxs hO next) (fun _ => ?_)
      refine ite_i (fun _ => law_16 h6 hL hxs hO next) (fun _ => ?_)
      refine ite_i (fun _ => law_17 h6 hL hxs hO next) (fun _ => ?_)
      refine ite_i (fun _ => law_18 h6 hL hxs hO next) (fun _ => ?_)
      refine ite_i (fun _ => law_19 h6 hL hxs hO next) (fun _ => ?_)
      refine ite_i (fun _ => law_20 h6 hL hxs hO next) (fun _ => ?_)
      refine ite_i (fun _ => law_21 h6 hL hxs hO next) (fun _ => ?_)
      refine ite_i (fun _ => law_22 h6 hL hxs hO next) (fun _ => ?_)
      refine ite_i (fun _ => law_23 h6 hL hxs hO next) (fun _ => ?_)
      refine ite_i (fun _ => law_24 h6 hL hxs hO next) (fun _ => ?_)
      refine ite_i (fun _ => law_25 h6 hL hxs hO next) (fun _ => ?_)
      refine ite_i (fun _ => law_26 h6 hL hxs hO next) (fun _ => ?_)
      refine ite_i (fun _ => law_27 h6 hL hxs hO next) (fun _ => ?_)
      refine ite_i (fun _ => law_28 h6 hL hxs hO next) (fun _ => ?_)
      refine ite_i (fun _ => law_29 h6 hL hxs hO next) (fun _ => ?_)
      refine ite_i (fun _ => law_30 h6 hL hxs hO next) (fun _ => ?_)
      refine ite_i (fun _ => law_31 h6 hL hxs hO next) (fun _ => ?_)
      refine ite_i (fun _ => law_32 h6 hL hxs hO next) (fun _ => ?_)
      refine ite_i (fun _ => law_33 h6 hL hxs hO next) (fun _ => ?_)
      refine ite_i (fun _ => law_34 h6 hL hxs hO next) (fun _ => ?_)
      refine ite_i (fun _ => law_35 h6 hL hxs hO next) (fun _ => ?_)
      refine ite_i (fun _ => law_36 h6 hL hxs hO next) (fun _ => ?_)
      refine ite_i (fun _ => law_37 h6 hL hxs hO next) (fun _ => ?_)
      refine ite_i (fun _ => law_38 h6 hL hxs hO next) (fun _ => ?_)
      refine ite_i (fun _ => law_39 h6 hL hxs hO next) (fun _ => ?_)
      refine ite_i (fun _ => law_40 h6 hL hxs hO next) (fun _ => ?_)
      refine ite_i (fun _ => law_41 h6 hL hxs hO next) (fun _ => ?_)
      exact next w hO
end
