/-! the constructors (printed by program) -/
section
variable {l : Launch} {kx : Nat → ClassId} {D : va_G} {s5 : Nat}
def shp10 (kx : Nat → ClassId) (s5 a : Nat) (q : Nat → Nat → Nat) : va_W := (a, .inr (0, [.ref (q 0 0), .ref (q 1 0), .ref (q 2 0), .ref (q 3 0), .int 0, .ref (q 4 0), .ref (q 5 0), .ref (q 6 0), .ref (q 7 0)])) :: ((q 7 0, .inl (kx 0, 16, .inl (fun _ => 0))) :: ((q 6 0, .inl (kx 0, 16, .inl (fun _ => 0))) :: ((q 5 0, .inl (kx 0, 16, .inl (fun _ => 0))) :: ((q 4 0, .inl (kx 0, 16, .inl (fun _ => 0))) :: ((q 3 0, .inl (kx 0, 9, .inl (fun _ => 0))) :: ((q 2 0, .inl (kx 0, 9, .inl (fun _ => 0))) :: ((q 1 0, .inl (kx 0, 9, .inl (fun _ => 0))) :: ((q 0 0, .inl (kx 0, 9, .inl (fun _ => 0))) :: []))))))))
set_option maxRecDepth 20000 in
theorem ct10 : MCT l kx D s5 10 0 { frames := 1, cells := 8, slots := 100, locals := 64 } [.null, .null, .null, .null, .int 0, .null, .null, .null, .null] (shp10 kx s5) := by
  refine mct_of (by decide +kernel) (by decide +kernel) (fun a p e s m args below meth c A ls X hN hname hr hlocks hP hD hl => ?_)
  obtain ⟨⟨hx, hb, hml⟩, hts, hown, hK, hA⟩ := id X
  have hS : va_S A s.heap s.heap [] := va_S.rf
  refine lv_aload_n (k := 0) (i := 0) (x := a) hx hb (by decide +kernel) rfl (lv_at hl 0 rfl) ?_
  refine obI (i := 3) X (tblG_of (by decide +kernel) rfl) hl.1 (by decide) (by decide) (by decide +kernel) ?_
  refine lv_aload_n (k := 0) (i := 0) (x := a) hx hb (by decide +kernel) rfl (lv_at hl 0 rfl) ?_
  refine lv_bipush (n := 9) (v := 9) hx hb (by decide +kernel) (by decide) ?_
  refine nwA (t := 0) (N := 9) (Or.inl ⟨rfl, rfl, rfl⟩) X (by decide) (by decide) (by decide) (by decide) (by decide) hP hD hS (by decide +kernel) (fun q0 H0 hP hD hS => ?_)
  refine ptF (k := 0) (i := 9) (ci := 0) (v := .ref q0) (ty := .array .int) X hname (by decide +kernel) (by decide +kernel) (by decide +kernel) rfl rfl (by exact (show 0 < 9 from by decide)) hP hD hS (by decide +kernel) (fun G5 locs5 hP hD hS => ?_)
  refine lv_aload_n (k := 0) (i := 0) (x := a) hx hb (by decide +kernel) rfl (lv_at hl 0 rfl) ?_
  refine lv_bipush (n := 9) (v := 9) hx hb (by decide +kernel) (by decide) ?_
  refine nwA (t := 0) (N := 9) (Or.inl ⟨rfl, rfl, rfl⟩) X (by decide) (by decide) (by decide) (by decide) (by decide) hP hD hS (by decide +kernel) (fun q1 H1 hP hD hS => ?_)
  refine ptF (k := 1) (i := 15) (ci := 0) (v := .ref q1) (ty := .array .int) X hname (by decide +kernel) (by decide +kernel) (by decide +kernel) rfl rfl (by exact (show 1 < 9 from by decide)) hP hD hS (by decide +kernel) (fun G9 locs9 hP hD hS => ?_)
  refine lv_aload_n (k := 0) (i := 0) (x := a) hx hb (by decide +kernel) rfl (lv_at hl 0 rfl) ?_
  refine lv_bipush (n := 9) (v := 9) hx hb (by decide +kernel) (by decide) ?_
  refine nwA (t := 0) (N := 9) (Or.inl ⟨rfl, rfl, rfl⟩) X (by decide) (by decide) (by decide) (by decide) (by decide) hP hD hS (by decide +kernel) (fun q2 H2 hP hD hS => ?_)
  refine ptF (k := 2) (i := 18) (ci := 0) (v := .ref q2) (ty := .array .int) X hname (by decide +kernel) (by decide +kernel) (by decide +kernel) rfl rfl (by exact (show 2 < 9 from by decide)) hP hD hS (by decide +kernel) (fun G13 locs13 hP hD hS => ?_)
  refine lv_aload_n (k := 0) (i := 0) (x := a) hx hb (by decide +kernel) rfl (lv_at hl 0 rfl) ?_
  refine lv_bipush (n := 9) (v := 9) hx hb (by decide +kernel) (by decide) ?_
  refine nwA (t := 0) (N := 9) (Or.inl ⟨rfl, rfl, rfl⟩) X (by decide) (by decide) (by decide) (by decide) (by decide) hP hD hS (by decide +kernel) (fun q3 H3 hP hD hS => ?_)
  refine ptF (k := 3) (i := 21) (ci := 0) (v := .ref q3) (ty := .array .int) X hname (by decide +kernel) (by decide +kernel) (by decide +kernel) rfl rfl (by exact (show 3 < 9 from by decide)) hP hD hS (by decide +kernel) (fun G17 locs17 hP hD hS => ?_)
  refine lv_aload_n (k := 0) (i := 0) (x := a) hx hb (by decide +kernel) rfl (lv_at hl 0 rfl) ?_
  refine lv_bipush (n := 16) (v := 16) hx hb (by decide +kernel) (by decide) ?_
  refine nwA (t := 0) (N := 16) (Or.inl ⟨rfl, rfl, rfl⟩) X (by decide) (by decide) (by decide) (by decide) (by decide) hP hD hS (by decide +kernel) (fun q4 H4 hP hD hS => ?_)
  refine ptF (k := 5) (i := 24) (ci := 0) (v := .ref q4) (ty := .array .int) X hname (by decide +kernel) (by decide +kernel) (by decide +kernel) rfl rfl (by exact (show 5 < 9 from by decide)) hP hD hS (by decide +kernel) (fun G21 locs21 hP hD hS => ?_)
  refine lv_aload_n (k := 0) (i := 0) (x := a) hx hb (by decide +kernel) rfl (lv_at hl 0 rfl) ?_
  refine lv_bipush (n := 16) (v := 16) hx hb (by decide +kernel) (by decide) ?_
  refine nwA (t := 0) (N := 16) (Or.inl ⟨rfl, rfl, rfl⟩) X (by decide) (by decide) (by decide) (by decide) (by decide) hP hD hS (by decide +kernel) (fun q5 H5 hP hD hS => ?_)
  refine ptF (k := 6) (i := 27) (ci := 0) (v := .ref q5) (ty := .array .int) X hname (by decide +kernel) (by decide +kernel) (by decide +kernel) rfl rfl (by exact (show 6 < 9 from by decide)) hP hD hS (by decide +kernel) (fun G25 locs25 hP hD hS => ?_)
  refine lv_aload_n (k := 0) (i := 0) (x := a) hx hb (by decide +kernel) rfl (lv_at hl 0 rfl) ?_
  refine lv_bipush (n := 16) (v := 16) hx hb (by decide +kernel) (by decide) ?_
  refine nwA (t := 0) (N := 16) (Or.inl ⟨rfl, rfl, rfl⟩) X (by decide) (by decide) (by decide) (by decide) (by decide) hP hD hS (by decide +kernel) (fun q6 H6 hP hD hS => ?_)
  refine ptF (k := 7) (i := 30) (ci := 0) (v := .ref q6) (ty := .array .int) X hname (by decide +kernel) (by decide +kernel) (by decide +kernel) rfl rfl (by exact (show 7 < 9 from by decide)) hP hD hS (by decide +kernel) (fun G29 locs29 hP hD hS => ?_)
  refine lv_aload_n (k := 0) (i := 0) (x := a) hx hb (by decide +kernel) rfl (lv_at hl 0 rfl) ?_
  refine lv_bipush (n := 16) (v := 16) hx hb (by decide +kernel) (by decide) ?_
  refine nwA (t := 0) (N := 16) (Or.inl ⟨rfl, rfl, rfl⟩) X (by decide) (by decide) (by decide) (by decide) (by decide) hP hD hS (by decide +kernel) (fun q7 H7 hP hD hS => ?_)
  refine ptF (k := 8) (i := 33) (ci := 0) (v := .ref q7) (ty := .array .int) X hname (by decide +kernel) (by decide +kernel) (by decide +kernel) rfl rfl (by exact (show 8 < 9 from by decide)) hP hD hS (by decide +kernel) (fun G33 locs33 hP hD hS => ?_)
  exact retC (q := fun t => ([fun _ => q0, fun _ => q1, fun _ => q2, fun _ => q3, fun _ => q4, fun _ => q5, fun _ => q6, fun _ => q7] : List (Nat → Nat)).getD t (fun _ => 0)) X hr hlocks (by decide +kernel) hP hD hS (fun z hz => hz) (fun h => h) (by decide) (by decide)
def shp11 (kx : Nat → ClassId) (s5 a : Nat) (q : Nat → Nat → Nat) : va_W := (a, .inr (1, [.ref (q 0 0), .ref (q 2 0), .ref (q 3 0), .ref (q 4 0), .ref (q 6 0)])) :: ((q 6 0, .inl (kx 2, 8, .inr (.inr (.inr (.inr (fun j => if j < 8 then some (q 7 j) else none)))))) :: ((List.range 8).map (fun j => ((q 7 j, .inl (kx 0, 5, .inl fun _ => 0)) : Nat × va_E)) ++ ((q 4 0, .inl (kx 2, 8, .inr (.inr (.inr (.inr (fun j => if j < 8 then some (q 5 j) else none)))))) :: ((List.range 8).map (fun j => ((q 5 j, .inl (kx 0, 5, .inl fun _ => 0)) : Nat × va_E)) ++ ((q 3 0, .inl (kx 0, 8, .inl (fun _ => 0))) :: ((q 2 0, .inl (kx 0, 8, .inl (fun _ => 0))) :: ((q 0 0, .inl (kx 2, 8, .inr (.inr (.inr (.inr (fun j => if j < 8 then some (q 1 j) else none)))))) :: ((List.range 8).map (fun j => ((q 1 j, .inl (kx 0, 9, .inl fun _ => 0)) : Nat × va_E)) ++ []))))))))
set_option maxRecDepth 20000 in
theorem ct11 : MCT l kx D s5 11 1 { frames := 1, cells := 29, slots := 192, locals := 64 } [.null, .null, .null, .null, .null] (shp11 kx s5) := by
  refine mct_of (by decide +kernel) (by decide +kernel) (fun a p e s m args below meth c A ls X hN hname hr hlocks hP hD hl => ?_)
  obtain ⟨⟨hx, hb, hml⟩, hts, hown, hK, hA⟩ := id X
  have hS : va_S A s.heap s.heap [] := va_S.rf
  refine lv_aload_n (k := 0) (i := 0) (x := a) hx hb (by decide +kernel) rfl (lv_at hl 0 rfl) ?_
  refine obI (i := 3) X (tblG_of (by decide +kernel) rfl) hl.1 (by decide) (by decide) (by decide +kernel) ?_
  refine lv_aload_n (k := 0) (i := 0) (x := a) hx hb (by decide +kernel) rfl (lv_at hl 0 rfl) ?_
  refine lv_bipush (n := 8) (v := 8) hx hb (by decide +kernel) (by decide) ?_
  refine lv_bipush (n := 9) (v := 9) hx hb (by decide +kernel) (by decide) ?_
  refine nwM (i := 9) (N := 8) (K := 9) X hN (tblG_of (by decide +kernel) rfl) (by decide) (by decide) (by decide) (by decide) (by decide) (by decide) (by decide) hP hD hS (by decide +kernel) (fun q0 r0 H0 hP hD hS => ?_)
  refine ptF (k := 0) (i := 11) (ci := 1) (v := .ref q0) (ty := .array (.array .int)) X hname (by decide +kernel) (by decide +kernel) (by decide +kernel) rfl rfl (by exact (show 0 < 5 from by decide)) hP hD hS (by decide +kernel) (fun G6 locs6 hP hD hS => ?_)
  refine lv_aload_n (k := 0) (i := 0) (x := a) hx hb (by decide +kernel) rfl (lv_at hl 0 rfl) ?_
  refine lv_bipush (n := 8) (v := 8) hx hb (by decide +kernel) (by decide) ?_
  refine nwA (t := 0) (N := 8) (Or.inl ⟨rfl, rfl, rfl⟩) X (by decide) (by decide) (by decide) (by decide) (by decide) hP hD hS (by decide +kernel) (fun q2 H2 hP hD hS => ?_)
  refine ptF (k := 1) (i := 16) (ci := 1) (v := .ref q2) (ty := .array .int) X hname (by decide +kernel) (by decide +kernel) (by decide +kernel) rfl rfl (by exact (show 1 < 5 from by decide)) hP hD hS (by decide +kernel) (fun G10 locs10 hP hD hS => ?_)
  refine lv_aload_n (k := 0) (i := 0) (x := a) hx hb (by decide +kernel) rfl (lv_at hl 0 rfl) ?_
  refine lv_bipush (n := 8) (v := 8) hx hb (by decide +kernel) (by decide) ?_
  refine nwA (t := 0) (N := 8) (Or.inl ⟨rfl, rfl, rfl⟩) X (by decide) (by decide) (by decide) (by decide) (by decide) hP hD hS (by decide +kernel) (fun q3 H3 hP hD hS => ?_)
  refine ptF (k := 2) (i := 20) (ci := 1) (v := .ref q3) (ty := .array .int) X hname (by decide +kernel) (by decide +kernel) (by decide +kernel) rfl rfl (by exact (show 2 < 5 from by decide)) hP hD hS (by decide +kernel) (fun G14 locs14 hP hD hS => ?_)
  refine lv_aload_n (k := 0) (i := 0) (x := a) hx hb (by decide +kernel) rfl (lv_at hl 0 rfl) ?_
  refine lv_bipush (n := 8) (v := 8) hx hb (by decide +kernel) (by decide) ?_
  refine lv_iconst (n := 5) (v := 5) hx hb (by decide +kernel) (by decide) ?_
  refine nwM (i := 9) (N := 8) (K := 5) X hN (tblG_of (by decide +kernel) rfl) (by decide) (by decide) (by decide) (by decide) (by decide) (by decide) (by decide) hP hD hS (by decide +kernel) (fun q4 r4 H4 hP hD hS => ?_)
  refine ptF (k := 3) (i := 23) (ci := 1) (v := .ref q4) (ty := .array (.array .int)) X hname (by decide +kernel) (by decide +kernel) (by decide +kernel) rfl rfl (by exact (show 3 < 5 from by decide)) hP hD hS (by decide +kernel) (fun G19 locs19 hP hD hS => ?_)
  refine lv_aload_n (k := 0) (i := 0) (x := a) hx hb (by decide +kernel) rfl (lv_at hl 0 rfl) ?_
  refine lv_bipush (n := 8) (v := 8) hx hb (by decide +kernel) (by decide) ?_
  refine lv_iconst (n := 5) (v := 5) hx hb (by decide +kernel) (by decide) ?_
  refine nwM (i := 9) (N := 8) (K := 5) X hN (tblG_of (by decide +kernel) rfl) (by decide) (by decide) (by decide) (by decide) (by decide) (by decide) (by decide) hP hD hS (by decide +kernel) (fun q6 r6 H6 hP hD hS => ?_)
  refine ptF (k := 4) (i := 26) (ci := 1) (v := .ref q6) (ty := .array (.array .int)) X hname (by decide +kernel) (by decide +kernel) (by decide +kernel) rfl rfl (by exact (show 4 < 5 from by decide)) hP hD hS (by decide +kernel) (fun G24 locs24 hP hD hS => ?_)
  exact retC (q := fun t => ([fun _ => q0, r0, fun _ => q2, fun _ => q3, fun _ => q4, r4, fun _ => q6, r6] : List (Nat → Nat)).getD t (fun _ => 0)) X hr hlocks (by decide +kernel) hP hD hS (fun z hz => hz) (fun h => h) (by decide) (by decide)
def shp9 (kx : Nat → ClassId) (s5 a : Nat) (q : Nat → Nat → Nat) : va_W := (a, .inr (2, [.ref (q 0 0), .int 0, .ref (q 1 0), .ref (q 2 0), .ref (q 3 0)])) :: ((q 3 0, .inl (kx 1, 40, .inl (fun _ => 0))) :: ((q 2 0, .inl (kx 0, 40, .inl (fun _ => 0))) :: ((q 1 0, .inl (kx 0, 8, .inl (fun _ => 0))) :: ((q 0 0, .inl (kx 0, 40, .inl (fun _ => 0))) :: []))))
set_option maxRecDepth 20000 in
theorem ct9 : MCT l kx D s5 9 2 { frames := 1, cells := 4, slots := 128, locals := 64 } [.null, .int 0, .null, .null, .null] (shp9 kx s5) := by
  refine mct_of (by decide +kernel) (by decide +kernel) (fun a p e s m args below meth c A ls X hN hname hr hlocks hP hD hl => ?_)
  obtain ⟨⟨hx, hb, hml⟩, hts, hown, hK, hA⟩ := id X
  have hS : va_S A s.heap s.heap [] := va_S.rf
  refine lv_aload_n (k := 0) (i := 0) (x := a) hx hb (by decide +kernel) rfl (lv_at hl 0 rfl) ?_
  refine obI (i := 3) X (tblG_of (by decide +kernel) rfl) hl.1 (by decide) (by decide) (by decide +kernel) ?_
  refine lv_aload_n (k := 0) (i := 0) (x := a) hx hb (by decide +kernel) rfl (lv_at hl 0 rfl) ?_
  refine lv_bipush (n := 40) (v := 40) hx hb (by decide +kernel) (by decide) ?_
  refine nwA (t := 0) (N := 40) (Or.inl ⟨rfl, rfl, rfl⟩) X (by decide) (by decide) (by decide) (by decide) (by decide) hP hD hS (by decide +kernel) (fun q0 H0 hP hD hS => ?_)
  refine ptF (k := 0) (i := 11) (ci := 2) (v := .ref q0) (ty := .array .int) X hname (by decide +kernel) (by decide +kernel) (by decide +kernel) rfl rfl (by exact (show 0 < 5 from by decide)) hP hD hS (by decide +kernel) (fun G5 locs5 hP hD hS => ?_)
  refine lv_aload_n (k := 0) (i := 0) (x := a) hx hb (by decide +kernel) rfl (lv_at hl 0 rfl) ?_
  refine lv_bipush (n := 8) (v := 8) hx hb (by decide +kernel) (by decide) ?_
  refine nwA (t := 0) (N := 8) (Or.inl ⟨rfl, rfl, rfl⟩) X (by decide) (by decide) (by decide) (by decide) (by decide) hP hD hS (by decide +kernel) (fun q1 H1 hP hD hS => ?_)
  refine ptF (k := 2) (i := 15) (ci := 2) (v := .ref q1) (ty := .array .int) X hname (by decide +kernel) (by decide +kernel) (by decide +kernel) rfl rfl (by exact (show 2 < 5 from by decide)) hP hD hS (by decide +kernel) (fun G9 locs9 hP hD hS => ?_)
  refine lv_aload_n (k := 0) (i := 0) (x := a) hx hb (by decide +kernel) rfl (lv_at hl 0 rfl) ?_
  refine lv_bipush (n := 40) (v := 40) hx hb (by decide +kernel) (by decide) ?_
  refine nwA (t := 0) (N := 40) (Or.inl ⟨rfl, rfl, rfl⟩) X (by decide) (by decide) (by decide) (by decide) (by decide) hP hD hS (by decide +kernel) (fun q2 H2 hP hD hS => ?_)
  refine ptF (k := 3) (i := 18) (ci := 2) (v := .ref q2) (ty := .array .int) X hname (by decide +kernel) (by decide +kernel) (by decide +kernel) rfl rfl (by exact (show 3 < 5 from by decide)) hP hD hS (by decide +kernel) (fun G13 locs13 hP hD hS => ?_)
  refine lv_aload_n (k := 0) (i := 0) (x := a) hx hb (by decide +kernel) rfl (lv_at hl 0 rfl) ?_
  refine lv_bipush (n := 40) (v := 40) hx hb (by decide +kernel) (by decide) ?_
  refine nwA (t := 1) (N := 40) (Or.inr ⟨rfl, rfl, rfl⟩) X (by decide) (by decide) (by decide) (by decide) (by decide) hP hD hS (by decide +kernel) (fun q3 H3 hP hD hS => ?_)
  refine ptF (k := 4) (i := 21) (ci := 2) (v := .ref q3) (ty := .array .boolean) X hname (by decide +kernel) (by decide +kernel) (by decide +kernel) rfl rfl (by exact (show 4 < 5 from by decide)) hP hD hS (by decide +kernel) (fun G17 locs17 hP hD hS => ?_)
  exact retC (q := fun t => ([fun _ => q0, fun _ => q1, fun _ => q2, fun _ => q3] : List (Nat → Nat)).getD t (fun _ => 0)) X hr hlocks (by decide +kernel) hP hD hS (fun z hz => hz) (fun h => h) (by decide) (by decide)
def shp4 (kx : Nat → ClassId) (s5 a : Nat) (q : Nat → Nat → Nat) : va_W := (a, .inr (3, [.ref (q 0 0), .ref (q 1 0), .ref (q 2 0), .ref (q 3 0), .ref (q 4 0), .int 0, .ref (q 5 0), .ref (q 6 0), .ref (q 7 0), .ref (q 8 0), .ref (q 9 0), .ref (q 10 0), .int 0, .ref (q 11 0)])) :: ((q 11 0, .inl (kx 0, 5, .inl (fun _ => 0))) :: ((q 10 0, .inl (kx 0, 80, .inl (fun _ => 0))) :: ((q 9 0, .inl (kx 0, 80, .inl (fun _ => 0))) :: ((q 8 0, .inl (kx 0, 80, .inl (fun _ => 0))) :: ((q 7 0, .inl (kx 0, 80, .inl (fun _ => 0))) :: ((q 6 0, .inl (kx 0, 80, .inl (fun _ => 0))) :: ((q 5 0, .inl (kx 0, 80, .inl (fun _ => 0))) :: ((q 4 0, .inl (kx 1, 40, .inl (fun _ => 0))) :: ((q 3 0, .inl (kx 0, 40, .inl (fun _ => 0))) :: ((q 2 0, .inl (kx 0, 40, .inl (fun _ => 0))) :: ((q 1 0, .inl (kx 0, 40, .inl (fun _ => 0))) :: ((q 0 0, .inl (kx 0, 40, .inl (fun _ => 0))) :: []))))))))))))
set_option maxRecDepth 20000 in
theorem ct4 : MCT l kx D s5 4 3 { frames := 1, cells := 12, slots := 685, locals := 64 } [.null, .null, .null, .null, .null, .int 0, .null, .null, .null, .null, .null, .null, .int 0, .null] (shp4 kx s5) := by
  refine mct_of (by decide +kernel) (by decide +kernel) (fun a p e s m args below meth c A ls X hN hname hr hlocks hP hD hl => ?_)
  obtain ⟨⟨hx, hb, hml⟩, hts, hown, hK, hA⟩ := id X
  have hS : va_S A s.heap s.heap [] := va_S.rf
  refine lv_aload_n (k := 0) (i := 0) (x := a) hx hb (by decide +kernel) rfl (lv_at hl 0 rfl) ?_
  refine obI (i := 3) X (tblG_of (by decide +kernel) rfl) hl.1 (by decide) (by decide) (by decide +kernel) ?_
  refine lv_aload_n (k := 0) (i := 0) (x := a) hx hb (by decide +kernel) rfl (lv_at hl 0 rfl) ?_
  refine lv_bipush (n := 40) (v := 40) hx hb (by decide +kernel) (by decide) ?_
  refine nwA (t := 0) (N := 40) (Or.inl ⟨rfl, rfl, rfl⟩) X (by decide) (by decide) (by decide) (by decide) (by decide) hP hD hS (by decide +kernel) (fun q0 H0 hP hD hS => ?_)
  refine ptF (k := 0) (i := 11) (ci := 3) (v := .ref q0) (ty := .array .int) X hname (by decide +kernel) (by decide +kernel) (by decide +kernel) rfl rfl (by exact (show 0 < 14 from by decide)) hP hD hS (by decide +kernel) (fun G5 locs5 hP hD hS => ?_)
  refine lv_aload_n (k := 0) (i := 0) (x := a) hx hb (by decide +kernel) rfl (lv_at hl 0 rfl) ?_
  refine lv_bipush (n := 40) (v := 40) hx hb (by decide +kernel) (by decide) ?_
  refine nwA (t := 0) (N := 40) (Or.inl ⟨rfl, rfl, rfl⟩) X (by decide) (by decide) (by decide) (by decide) (by decide) hP hD hS (by decide +kernel) (fun q1 H1 hP hD hS => ?_)
  refine ptF (k := 1) (i := 15) (ci := 3) (v := .ref q1) (ty := .array .int) X hname (by decide +kernel) (by decide +kernel) (by decide +kernel) rfl rfl (by exact (show 1 < 14 from by decide)) hP hD hS (by decide +kernel) (fun G9 locs9 hP hD hS => ?_)
  refine lv_aload_n (k := 0) (i := 0) (x := a) hx hb (by decide +kernel) rfl (lv_at hl 0 rfl) ?_
  refine lv_bipush (n := 40) (v := 40) hx hb (by decide +kernel) (by decide) ?_
  refine nwA (t := 0) (N := 40) (Or.inl ⟨rfl, rfl, rfl⟩) X (by decide) (by decide) (by decide) (by decide) (by decide) hP hD hS (by decide +kernel) (fun q2 H2 hP hD hS => ?_)
  refine ptF (k := 2) (i := 18) (ci := 3) (v := .ref q2) (ty := .array .int) X hname (by decide +kernel) (by decide +kernel) (by decide +kernel) rfl rfl (by exact (show 2 < 14 from by decide)) hP hD hS (by decide +kernel) (fun G13 locs13 hP hD hS => ?_)
  refine lv_aload_n (k := 0) (i := 0) (x := a) hx hb (by decide +kernel) rfl (lv_at hl 0 rfl) ?_
  refine lv_bipush (n := 40) (v := 40) hx hb (by decide +kernel) (by decide) ?_
  refine nwA (t := 0) (N := 40) (Or.inl ⟨rfl, rfl, rfl⟩) X (by decide) (by decide) (by decide) (by decide) (by decide) hP hD hS (by decide +kernel) (fun q3 H3 hP hD hS => ?_)
  refine ptF (k := 3) (i := 21) (ci := 3) (v := .ref q3) (ty := .array .int) X hname (by decide +kernel) (by decide +kernel) (by decide +kernel) rfl rfl (by exact (show 3 < 14 from by decide)) hP hD hS (by decide +kernel) (fun G17 locs17 hP hD hS => ?_)
  refine lv_aload_n (k := 0) (i := 0) (x := a) hx hb (by decide +kernel) rfl (lv_at hl 0 rfl) ?_
  refine lv_bipush (n := 40) (v := 40) hx hb (by decide +kernel) (by decide) ?_
  refine nwA (t := 1) (N := 40) (Or.inr ⟨rfl, rfl, rfl⟩) X (by decide) (by decide) (by decide) (by decide) (by decide) hP hD hS (by decide +kernel) (fun q4 H4 hP hD hS => ?_)
  refine ptF (k := 4) (i := 24) (ci := 3) (v := .ref q4) (ty := .array .boolean) X hname (by decide +kernel) (by decide +kernel) (by decide +kernel) rfl rfl (by exact (show 4 < 14 from by decide)) hP hD hS (by decide +kernel) (fun G21 locs21 hP hD hS => ?_)
  refine lv_aload_n (k := 0) (i := 0) (x := a) hx hb (by decide +kernel) rfl (lv_at hl 0 rfl) ?_
  refine lv_bipush (n := 80) (v := 80) hx hb (by decide +kernel) (by decide) ?_
  refine nwA (t := 0) (N := 80) (Or.inl ⟨rfl, rfl, rfl⟩) X (by decide) (by decide) (by decide) (by decide) (by decide) hP hD hS (by decide +kernel) (fun q5 H5 hP hD hS => ?_)
  refine ptF (k := 6) (i := 28) (ci := 3) (v := .ref q5) (ty := .array .int) X hname (by decide +kernel) (by decide +kernel) (by decide +kernel) rfl rfl (by exact (show 6 < 14 from by decide)) hP hD hS (by decide +kernel) (fun G25 locs25 hP hD hS => ?_)
  refine lv_aload_n (k := 0) (i := 0) (x := a) hx hb (by decide +kernel) rfl (lv_at hl 0 rfl) ?_
  refine lv_bipush (n := 80) (v := 80) hx hb (by decide +kernel) (by decide) ?_
  refine nwA (t := 0) (N := 80) (Or.inl ⟨rfl, rfl, rfl⟩) X (by decide) (by decide) (by decide) (by decide) (by decide) hP hD hS (by decide +kernel) (fun q6 H6 hP hD hS => ?_)
  refine ptF (k := 7) (i := 31) (ci := 3) (v := .ref q6) (ty := .array .int) X hname (by decide +kernel) (by decide +kernel) (by decide +kernel) rfl rfl (by exact (show 7 < 14 from by decide)) hP hD hS (by decide +kernel) (fun G29 locs29 hP hD hS => ?_)
  refine lv_aload_n (k := 0) (i := 0) (x := a) hx hb (by decide +kernel) rfl (lv_at hl 0 rfl) ?_
  refine lv_bipush (n := 80) (v := 80) hx hb (by decide +kernel) (by decide) ?_
  refine nwA (t := 0) (N := 80) (Or.inl ⟨rfl, rfl, rfl⟩) X (by decide) (by decide) (by decide) (by decide) (by decide) hP hD hS (by decide +kernel) (fun q7 H7 hP hD hS => ?_)
  refine ptF (k := 8) (i := 34) (ci := 3) (v := .ref q7) (ty := .array .int) X hname (by decide +kernel) (by decide +kernel) (by decide +kernel) rfl rfl (by exact (show 8 < 14 from by decide)) hP hD hS (by decide +kernel) (fun G33 locs33 hP hD hS => ?_)
  refine lv_aload_n (k := 0) (i := 0) (x := a) hx hb (by decide +kernel) rfl (lv_at hl 0 rfl) ?_
  refine lv_bipush (n := 80) (v := 80) hx hb (by decide +kernel) (by decide) ?_
  refine nwA (t := 0) (N := 80) (Or.inl ⟨rfl, rfl, rfl⟩) X (by decide) (by decide) (by decide) (by decide) (by decide) hP hD hS (by decide +kernel) (fun q8 H8 hP hD hS => ?_)
  refine ptF (k := 9) (i := 37) (ci := 3) (v := .ref q8) (ty := .array .int) X hname (by decide +kernel) (by decide +kernel) (by decide +kernel) rfl rfl (by exact (show 9 < 14 from by decide)) hP hD hS (by decide +kernel) (fun G37 locs37 hP hD hS => ?_)
  refine lv_aload_n (k := 0) (i := 0) (x := a) hx hb (by decide +kernel) rfl (lv_at hl 0 rfl) ?_
  refine lv_bipush (n := 80) (v := 80) hx hb (by decide +kernel) (by decide) ?_
  refine nwA (t := 0) (N := 80) (Or.inl ⟨rfl, rfl, rfl⟩) X (by decide) (by decide) (by decide) (by decide) (by decide) hP hD hS (by decide +kernel) (fun q9 H9 hP hD hS => ?_)
  refine ptF (k := 10) (i := 40) (ci := 3) (v := .ref q9) (ty := .array .int) X hname (by decide +kernel) (by decide +kernel) (by decide +kernel) rfl rfl (by exact (show 10 < 14 from by decide)) hP hD hS (by decide +kernel) (fun G41 locs41 hP hD hS => ?_)
  refine lv_aload_n (k := 0) (i := 0) (x := a) hx hb (by decide +kernel) rfl (lv_at hl 0 rfl) ?_
  refine lv_bipush (n := 80) (v := 80) hx hb (by decide +kernel) (by decide) ?_
  refine nwA (t := 0) (N := 80) (Or.inl ⟨rfl, rfl, rfl⟩) X (by decide) (by decide) (by decide) (by decide) (by decide) hP hD hS (by decide +kernel) (fun q10 H10 hP hD hS => ?_)
  refine ptF (k := 11) (i := 43) (ci := 3) (v := .ref q10) (ty := .array .int) X hname (by decide +kernel) (by decide +kernel) (by decide +kernel) rfl rfl (by exact (show 11 < 14 from by decide)) hP hD hS (by decide +kernel) (fun G45 locs45 hP hD hS => ?_)
  refine lv_aload_n (k := 0) (i := 0) (x := a) hx hb (by decide +kernel) rfl (lv_at hl 0 rfl) ?_
  refine lv_iconst (n := 5) (v := 5) hx hb (by decide +kernel) (by decide) ?_
  refine nwA (t := 0) (N := 5) (Or.inl ⟨rfl, rfl, rfl⟩) X (by decide) (by decide) (by decide) (by decide) (by decide) hP hD hS (by decide +kernel) (fun q11 H11 hP hD hS => ?_)
  refine ptF (k := 13) (i := 46) (ci := 3) (v := .ref q11) (ty := .array .int) X hname (by decide +kernel) (by decide +kernel) (by decide +kernel) rfl rfl (by exact (show 13 < 14 from by decide)) hP hD hS (by decide +kernel) (fun G49 locs49 hP hD hS => ?_)
  exact retC (q := fun t => ([fun _ => q0, fun _ => q1, fun _ => q2, fun _ => q3, fun _ => q4, fun _ => q5, fun _ => q6, fun _ => q7, fun _ => q8, fun _ => q9, fun _ => q10, fun _ => q11] : List (Nat → Nat)).getD t (fun _ => 0)) X hr hlocks (by decide +kernel) hP hD hS (fun z hz => hz) (fun h => h) (by decide) (by decide)
def shp7 (kx : Nat → ClassId) (s5 a : Nat) (q : Nat → Nat → Nat) : va_W := (a, .inr (4, [.ref (q 0 0), .ref (q 1 0), .int 0, .ref (q 3 0)])) :: ((q 3 0, .inl (kx 0, 4, .inl (fun _ => 0))) :: ((q 1 0, .inl (kx 2, 10, .inr (.inr (.inr (.inr (fun j => if j < 10 then some (q 2 j) else none)))))) :: ((List.range 10).map (fun j => ((q 2 j, .inl (kx 0, 4, .inl fun _ => 0)) : Nat × va_E)) ++ ((q 0 0, .inl (kx 0, 10, .inl (fun _ => 0))) :: []))))
set_option maxRecDepth 20000 in
theorem ct7 : MCT l kx D s5 7 4 { frames := 1, cells := 13, slots := 64, locals := 64 } [.null, .null, .int 0, .null] (shp7 kx s5) := by
  refine mct_of (by decide +kernel) (by decide +kernel) (fun a p e s m args below meth c A ls X hN hname hr hlocks hP hD hl => ?_)
  obtain ⟨⟨hx, hb, hml⟩, hts, hown, hK, hA⟩ := id X
  have hS : va_S A s.heap s.heap [] := va_S.rf
  refine lv_aload_n (k := 0) (i := 0) (x := a) hx hb (by decide +kernel) rfl (lv_at hl 0 rfl) ?_
  refine obI (i := 3) X (tblG_of (by decide +kernel) rfl) hl.1 (by decide) (by decide) (by decide +kernel) ?_
  refine lv_aload_n (k := 0) (i := 0) (x := a) hx hb (by decide +kernel) rfl (lv_at hl 0 rfl) ?_
  refine lv_bipush (n := 10) (v := 10) hx hb (by decide +kernel) (by decide) ?_
  refine nwA (t := 0) (N := 10) (Or.inl ⟨rfl, rfl, rfl⟩) X (by decide) (by decide) (by decide) (by decide) (by decide) hP hD hS (by decide +kernel) (fun q0 H0 hP hD hS => ?_)
  refine ptF (k := 0) (i := 11) (ci := 4) (v := .ref q0) (ty := .array .int) X hname (by decide +kernel) (by decide +kernel) (by decide +kernel) rfl rfl (by exact (show 0 < 4 from by decide)) hP hD hS (by decide +kernel) (fun G5 locs5 hP hD hS => ?_)
  refine lv_aload_n (k := 0) (i := 0) (x := a) hx hb (by decide +kernel) rfl (lv_at hl 0 rfl) ?_
  refine lv_bipush (n := 10) (v := 10) hx hb (by decide +kernel) (by decide) ?_
  refine lv_iconst (n := 4) (v := 4) hx hb (by decide +kernel) (by decide) ?_
  refine nwM (i := 15) (N := 10) (K := 4) X hN (tblG_of (by decide +kernel) rfl) (by decide) (by decide) (by decide) (by decide) (by decide) (by decide) (by decide) hP hD hS (by decide +kernel) (fun q1 r1 H1 hP hD hS => ?_)
  refine ptF (k := 1) (i := 17) (ci := 4) (v := .ref q1) (ty := .array (.array .int)) X hname (by decide +kernel) (by decide +kernel) (by decide +kernel) rfl rfl (by exact (show 1 < 4 from by decide)) hP hD hS (by decide +kernel) (fun G10 locs10 hP hD hS => ?_)
  refine lv_aload_n (k := 0) (i := 0) (x := a) hx hb (by decide +kernel) rfl (lv_at hl 0 rfl) ?_
  refine lv_iconst (n := 4) (v := 4) hx hb (by decide +kernel) (by decide) ?_
  refine nwA (t := 0) (N := 4) (Or.inl ⟨rfl, rfl, rfl⟩) X (by decide) (by decide) (by decide) (by decide) (by decide) hP hD hS (by decide +kernel) (fun q3 H3 hP hD hS => ?_)
  refine ptF (k := 3) (i := 20) (ci := 4) (v := .ref q3) (ty := .array .int) X hname (by decide +kernel) (by decide +kernel) (by decide +kernel) rfl rfl (by exact (show 3 < 4 from by decide)) hP hD hS (by decide +kernel) (fun G14 locs14 hP hD hS => ?_)
  exact retC (q := fun t => ([fun _ => q0, fun _ => q1, r1, fun _ => q3] : List (Nat → Nat)).getD t (fun _ => 0)) X hr hlocks (by decide +kernel) hP hD hS (fun z hz => hz) (fun h => h) (by decide) (by decide)
def shp2 (kx : Nat → ClassId) (s5 a : Nat) (q : Nat → Nat → Nat) : va_W := (a, .inr (5, [.ref (q 0 0), .ref (q 1 0), .ref (q 2 0), .ref (q 3 0), .int 0, .ref (q 4 0), .ref (q 5 0), .ref (q 6 0), .int 0])) :: ((q 6 0, .inl (kx 0, 40, .inl (fun _ => 0))) :: ((q 5 0, .inl (kx 0, 40, .inl (fun _ => 0))) :: ((q 4 0, .inl (kx 0, 40, .inl (fun _ => 0))) :: ((q 3 0, .inl (kx 0, 6, .inl (upd (upd (upd (upd (upd (upd (fun _ => 0) (0 : Int32).toNatClampNeg 0) (1 : Int32).toNatClampNeg 1) (2 : Int32).toNatClampNeg 2) (3 : Int32).toNatClampNeg 3) (4 : Int32).toNatClampNeg 0) (5 : Int32).toNatClampNeg 1))) :: ((q 2 0, .inl (kx 0, 16, .inl (fun _ => 0))) :: ((q 1 0, .inl (kx 0, 16, .inl (fun _ => 0))) :: ((q 0 0, .inl (kx 0, 16, .inl (fun _ => 0))) :: [])))))))
set_option maxRecDepth 20000 in
theorem ct2 : MCT l kx D s5 2 5 { frames := 1, cells := 7, slots := 174, locals := 64 } [.null, .null, .null, .null, .int 0, .null, .null, .null, .int 0] (shp2 kx s5) := by
  refine mct_of (by decide +kernel) (by decide +kernel) (fun a p e s m args below meth c A ls X hN hname hr hlocks hP hD hl => ?_)
  obtain ⟨⟨hx, hb, hml⟩, hts, hown, hK, hA⟩ := id X
  have hS : va_S A s.heap s.heap [] := va_S.rf
  refine lv_aload_n (k := 0) (i := 0) (x := a) hx hb (by decide +kernel) rfl (lv_at hl 0 rfl) ?_
  refine obI (i := 3) X (tblG_of (by decide +kernel) rfl) hl.1 (by decide) (by decide) (by decide +kernel) ?_
  refine lv_aload_n (k := 0) (i := 0) (x := a) hx hb (by decide +kernel) rfl (lv_at hl 0 rfl) ?_
  refine lv_bipush (n := 16) (v := 16) hx hb (by decide +kernel) (by decide) ?_
  refine nwA (t := 0) (N := 16) (Or.inl ⟨rfl, rfl, rfl⟩) X (by decide) (by decide) (by decide) (by decide) (by decide) hP hD hS (by decide +kernel) (fun q0 H0 hP hD hS => ?_)
  refine ptF (k := 0) (i := 9) (ci := 5) (v := .ref q0) (ty := .array .int) X hname (by decide +kernel) (by decide +kernel) (by decide +kernel) rfl rfl (by exact (show 0 < 9 from by decide)) hP hD hS (by decide +kernel) (fun G5 locs5 hP hD hS => ?_)
  refine lv_aload_n (k := 0) (i := 0) (x := a) hx hb (by decide +kernel) rfl (lv_at hl 0 rfl) ?_
  refine lv_bipush (n := 16) (v := 16) hx hb (by decide +kernel) (by decide) ?_
  refine nwA (t := 0) (N := 16) (Or.inl ⟨rfl, rfl, rfl⟩) X (by decide) (by decide) (by decide) (by decide) (by decide) hP hD hS (by decide +kernel) (fun q1 H1 hP hD hS => ?_)
  refine ptF (k := 1) (i := 15) (ci := 5) (v := .ref q1) (ty := .array .int) X hname (by decide +kernel) (by decide +kernel) (by decide +kernel) rfl rfl (by exact (show 1 < 9 from by decide)) hP hD hS (by decide +kernel) (fun G9 locs9 hP hD hS => ?_)
  refine lv_aload_n (k := 0) (i := 0) (x := a) hx hb (by decide +kernel) rfl (lv_at hl 0 rfl) ?_
  refine lv_bipush (n := 16) (v := 16) hx hb (by decide +kernel) (by decide) ?_
  refine nwA (t := 0) (N := 16) (Or.inl ⟨rfl, rfl, rfl⟩) X (by decide) (by decide) (by decide) (by decide) (by decide) hP hD hS (by decide +kernel) (fun q2 H2 hP hD hS => ?_)
  refine ptF (k := 2) (i := 18) (ci := 5) (v := .ref q2) (ty := .array .int) X hname (by decide +kernel) (by decide +kernel) (by decide +kernel) rfl rfl (by exact (show 2 < 9 from by decide)) hP hD hS (by decide +kernel) (fun G13 locs13 hP hD hS => ?_)
  refine lv_aload_n (k := 0) (i := 0) (x := a) hx hb (by decide +kernel) rfl (lv_at hl 0 rfl) ?_
  refine lv_bipush (n := 6) (v := 6) hx hb (by decide +kernel) (by decide) ?_
  refine nwA (t := 0) (N := 6) (Or.inl ⟨rfl, rfl, rfl⟩) X (by decide) (by decide) (by decide) (by decide) (by decide) hP hD hS (by decide +kernel) (fun q3 H3 hP hD hS => ?_)
  refine lv_dup hx hb (by decide +kernel) rfl ?_
  refine lv_iconst (n := 0) (v := 0) hx hb (by decide +kernel) (by decide) ?_
  refine lv_iconst (n := 0) (v := 0) hx hb (by decide +kernel) (by decide) ?_
  refine ias X (vp_in_nI (n := 0) (by decide) (by decide)) hP hD hS (by decide +kernel) (fun H3_17 locs3_17 hP hD hS => ?_)
  refine lv_dup hx hb (by decide +kernel) rfl ?_
  refine lv_iconst (n := 1) (v := 1) hx hb (by decide +kernel) (by decide) ?_
  refine lv_iconst (n := 1) (v := 1) hx hb (by decide +kernel) (by decide) ?_
  refine ias X (vp_in_nI (n := 1) (by decide) (by decide)) hP hD hS (by decide +kernel) (fun H3_21 locs3_21 hP hD hS => ?_)
  refine lv_dup hx hb (by decide +kernel) rfl ?_
  refine lv_iconst (n := 2) (v := 2) hx hb (by decide +kernel) (by decide) ?_
  refine lv_iconst (n := 2) (v := 2) hx hb (by decide +kernel) (by decide) ?_
  refine ias X (vp_in_nI (n := 2) (by decide) (by decide)) hP hD hS (by decide +kernel) (fun H3_25 locs3_25 hP hD hS => ?_)
  refine lv_dup hx hb (by decide +kernel) rfl ?_
  refine lv_iconst (n := 3) (v := 3) hx hb (by decide +kernel) (by decide) ?_
  refine lv_iconst (n := 3) (v := 3) hx hb (by decide +kernel) (by decide) ?_
  refine ias X (vp_in_nI (n := 3) (by decide) (by decide)) hP hD hS (by decide +kernel) (fun H3_29 locs3_29 hP hD hS => ?_)
  refine lv_dup hx hb (by decide +kernel) rfl ?_
  refine lv_iconst (n := 4) (v := 4) hx hb (by decide +kernel) (by decide) ?_
  refine lv_iconst (n := 0) (v := 0) hx hb (by decide +kernel) (by decide) ?_
  refine ias X (vp_in_nI (n := 4) (by decide) (by decide)) hP hD hS (by decide +kernel) (fun H3_33 locs3_33 hP hD hS => ?_)
  refine lv_dup hx hb (by decide +kernel) rfl ?_
  refine lv_iconst (n := 5) (v := 5) hx hb (by decide +kernel) (by decide) ?_
  refine lv_iconst (n := 1) (v := 1) hx hb (by decide +kernel) (by decide) ?_
  refine ias X (vp_in_nI (n := 5) (by decide) (by decide)) hP hD hS (by decide +kernel) (fun H3_37 locs3_37 hP hD hS => ?_)
  refine ptF (k := 3) (i := 21) (ci := 5) (v := .ref q3) (ty := .array .int) X hname (by decide +kernel) (by decide +kernel) (by decide +kernel) rfl rfl (by exact (show 3 < 9 from by decide)) hP hD hS (by decide +kernel) (fun G41 locs41 hP hD hS => ?_)
  refine lv_aload_n (k := 0) (i := 0) (x := a) hx hb (by decide +kernel) rfl (lv_at hl 0 rfl) ?_
  refine lv_bipush (n := 40) (v := 40) hx hb (by decide +kernel) (by decide) ?_
  refine nwA (t := 0) (N := 40) (Or.inl ⟨rfl, rfl, rfl⟩) X (by decide) (by decide) (by decide) (by decide) (by decide) hP hD hS (by decide +kernel) (fun q4 H4 hP hD hS => ?_)
  refine ptF (k := 5) (i := 24) (ci := 5) (v := .ref q4) (ty := .array .int) X hname (by decide +kernel) (by decide +kernel) (by decide +kernel) rfl rfl (by exact (show 5 < 9 from by decide)) hP hD hS (by decide +kernel) (fun G45 locs45 hP hD hS => ?_)
  refine lv_aload_n (k := 0) (i := 0) (x := a) hx hb (by decide +kernel) rfl (lv_at hl 0 rfl) ?_
  refine lv_bipush (n := 40) (v := 40) hx hb (by decide +kernel) (by decide) ?_
  refine nwA (t := 0) (N := 40) (Or.inl ⟨rfl, rfl, rfl⟩) X (by decide) (by decide) (by decide) (by decide) (by decide) hP hD hS (by decide +kernel) (fun q5 H5 hP hD hS => ?_)
  refine ptF (k := 6) (i := 27) (ci := 5) (v := .ref q5) (ty := .array .int) X hname (by decide +kernel) (by decide +kernel) (by decide +kernel) rfl rfl (by exact (show 6 < 9 from by decide)) hP hD hS (by decide +kernel) (fun G49 locs49 hP hD hS => ?_)
  refine lv_aload_n (k := 0) (i := 0) (x := a) hx hb (by decide +kernel) rfl (lv_at hl 0 rfl) ?_
  refine lv_bipush (n := 40) (v := 40) hx hb (by decide +kernel) (by decide) ?_
  refine nwA (t := 0) (N := 40) (Or.inl ⟨rfl, rfl, rfl⟩) X (by decide) (by decide) (by decide) (by decide) (by decide) hP hD hS (by decide +kernel) (fun q6 H6 hP hD hS => ?_)
  refine ptF (k := 7) (i := 30) (ci := 5) (v := .ref q6) (ty := .array .int) X hname (by decide +kernel) (by decide +kernel) (by decide +kernel) rfl rfl (by exact (show 7 < 9 from by decide)) hP hD hS (by decide +kernel) (fun G53 locs53 hP hD hS => ?_)
  exact retC (q := fun t => ([fun _ => q0, fun _ => q1, fun _ => q2, fun _ => q3, fun _ => q4, fun _ => q5, fun _ => q6] : List (Nat → Nat)).getD t (fun _ => 0)) X hr hlocks (by decide +kernel) hP hD hS (fun z hz => hz) (fun h => h) (by decide) (by decide)
def shp12 (kx : Nat → ClassId) (s5 a : Nat) (q : Nat → Nat → Nat) : va_W := (a, .inr (6, [.ref (q 0 0), .ref (q 1 0), .ref (q 2 0), .ref (q 3 0), .ref (q 5 0), .ref (q 7 0), .ref (q 8 0)])) :: ((q 8 0, .inl (kx 0, 512, .inl (fun _ => 0))) :: ((q 7 0, .inl (kx 0, 512, .inl (fun _ => 0))) :: ((q 5 0, .inl (kx 2, 5, .inr (.inr (.inr (.inr (fun j => if j < 5 then some (q 6 j) else none)))))) :: ((List.range 5).map (fun j => ((q 6 j, .inl (kx 0, 512, .inl fun _ => 0)) : Nat × va_E)) ++ ((q 3 0, .inl (kx 2, 6, .inr (.inr (.inr (.inr (fun j => if j < 6 then some (q 4 j) else none)))))) :: ((List.range 6).map (fun j => ((q 4 j, .inl (kx 0, 512, .inl fun _ => 0)) : Nat × va_E)) ++ ((q 2 0, .inl (kx 0, 5, .inl (fun _ => 0))) :: ((q 1 0, .inl (kx 0, 5, .inl (fun _ => 0))) :: ((q 0 0, .inl (kx 0, 9, .inl (fun _ => 0))) :: [])))))))))
set_option maxRecDepth 20000 in
theorem ct12 : MCT l kx D s5 12 6 { frames := 1, cells := 18, slots := 6686, locals := 64 } [.null, .null, .null, .null, .null, .null, .null] (shp12 kx s5) := by
  refine mct_of (by decide +kernel) (by decide +kernel) (fun a p e s m args below meth c A ls X hN hname hr hlocks hP hD hl => ?_)
  obtain ⟨⟨hx, hb, hml⟩, hts, hown, hK, hA⟩ := id X
  have hS : va_S A s.heap s.heap [] := va_S.rf
  refine lv_aload_n (k := 0) (i := 0) (x := a) hx hb (by decide +kernel) rfl (lv_at hl 0 rfl) ?_
  refine obI (i := 3) X (tblG_of (by decide +kernel) rfl) hl.1 (by decide) (by decide) (by decide +kernel) ?_
  refine lv_aload_n (k := 0) (i := 0) (x := a) hx hb (by decide +kernel) rfl (lv_at hl 0 rfl) ?_
  refine lv_bipush (n := 9) (v := 9) hx hb (by decide +kernel) (by decide) ?_
  refine nwA (t := 0) (N := 9) (Or.inl ⟨rfl, rfl, rfl⟩) X (by decide) (by decide) (by decide) (by decide) (by decide) hP hD hS (by decide +kernel) (fun q0 H0 hP hD hS => ?_)
  refine ptF (k := 0) (i := 9) (ci := 6) (v := .ref q0) (ty := .array .int) X hname (by decide +kernel) (by decide +kernel) (by decide +kernel) rfl rfl (by exact (show 0 < 7 from by decide)) hP hD hS (by decide +kernel) (fun G5 locs5 hP hD hS => ?_)
  refine lv_aload_n (k := 0) (i := 0) (x := a) hx hb (by decide +kernel) rfl (lv_at hl 0 rfl) ?_
  refine lv_iconst (n := 5) (v := 5) hx hb (by decide +kernel) (by decide) ?_
  refine nwA (t := 0) (N := 5) (Or.inl ⟨rfl, rfl, rfl⟩) X (by decide) (by decide) (by decide) (by decide) (by decide) hP hD hS (by decide +kernel) (fun q1 H1 hP hD hS => ?_)
  refine ptF (k := 1) (i := 15) (ci := 6) (v := .ref q1) (ty := .array .int) X hname (by decide +kernel) (by decide +kernel) (by decide +kernel) rfl rfl (by exact (show 1 < 7 from by decide)) hP hD hS (by decide +kernel) (fun G9 locs9 hP hD hS => ?_)
  refine lv_aload_n (k := 0) (i := 0) (x := a) hx hb (by decide +kernel) rfl (lv_at hl 0 rfl) ?_
  refine lv_iconst (n := 5) (v := 5) hx hb (by decide +kernel) (by decide) ?_
  refine nwA (t := 0) (N := 5) (Or.inl ⟨rfl, rfl, rfl⟩) X (by decide) (by decide) (by decide) (by decide) (by decide) hP hD hS (by decide +kernel) (fun q2 H2 hP hD hS => ?_)
  refine ptF (k := 2) (i := 18) (ci := 6) (v := .ref q2) (ty := .array .int) X hname (by decide +kernel) (by decide +kernel) (by decide +kernel) rfl rfl (by exact (show 2 < 7 from by decide)) hP hD hS (by decide +kernel) (fun G13 locs13 hP hD hS => ?_)
  refine lv_aload_n (k := 0) (i := 0) (x := a) hx hb (by decide +kernel) rfl (lv_at hl 0 rfl) ?_
  refine lv_bipush (n := 6) (v := 6) hx hb (by decide +kernel) (by decide) ?_
  refine lv_sipush (n := 512) (v := 512) hx hb (by decide +kernel) (by decide) ?_
  refine nwM (i := 21) (N := 6) (K := 512) X hN (tblG_of (by decide +kernel) rfl) (by decide) (by decide) (by decide) (by decide) (by decide) (by decide) (by decide) hP hD hS (by decide +kernel) (fun q3 r3 H3 hP hD hS => ?_)
  refine ptF (k := 3) (i := 23) (ci := 6) (v := .ref q3) (ty := .array (.array .int)) X hname (by decide +kernel) (by decide +kernel) (by decide +kernel) rfl rfl (by exact (show 3 < 7 from by decide)) hP hD hS (by decide +kernel) (fun G18 locs18 hP hD hS => ?_)
  refine lv_aload_n (k := 0) (i := 0) (x := a) hx hb (by decide +kernel) rfl (lv_at hl 0 rfl) ?_
  refine lv_iconst (n := 5) (v := 5) hx hb (by decide +kernel) (by decide) ?_
  refine lv_sipush (n := 512) (v := 512) hx hb (by decide +kernel) (by decide) ?_
  refine nwM (i := 21) (N := 5) (K := 512) X hN (tblG_of (by decide +kernel) rfl) (by decide) (by decide) (by decide) (by decide) (by decide) (by decide) (by decide) hP hD hS (by decide +kernel) (fun q5 r5 H5 hP hD hS => ?_)
  refine ptF (k := 4) (i := 26) (ci := 6) (v := .ref q5) (ty := .array (.array .int)) X hname (by decide +kernel) (by decide +kernel) (by decide +kernel) rfl rfl (by exact (show 4 < 7 from by decide)) hP hD hS (by decide +kernel) (fun G23 locs23 hP hD hS => ?_)
  refine lv_aload_n (k := 0) (i := 0) (x := a) hx hb (by decide +kernel) rfl (lv_at hl 0 rfl) ?_
  refine lv_sipush (n := 512) (v := 512) hx hb (by decide +kernel) (by decide) ?_
  refine nwA (t := 0) (N := 512) (Or.inl ⟨rfl, rfl, rfl⟩) X (by decide) (by decide) (by decide) (by decide) (by decide) hP hD hS (by decide +kernel) (fun q7 H7 hP hD hS => ?_)
  refine ptF (k := 5) (i := 29) (ci := 6) (v := .ref q7) (ty := .array .int) X hname (by decide +kernel) (by decide +kernel) (by decide +kernel) rfl rfl (by exact (show 5 < 7 from by decide)) hP hD hS (by decide +kernel) (fun G27 locs27 hP hD hS => ?_)
  refine lv_aload_n (k := 0) (i := 0) (x := a) hx hb (by decide +kernel) rfl (lv_at hl 0 rfl) ?_
  refine lv_sipush (n := 512) (v := 512) hx hb (by decide +kernel) (by decide) ?_
  refine nwA (t := 0) (N := 512) (Or.inl ⟨rfl, rfl, rfl⟩) X (by decide) (by decide) (by decide) (by decide) (by decide) hP hD hS (by decide +kernel) (fun q8 H8 hP hD hS => ?_)
  refine ptF (k := 6) (i := 32) (ci := 6) (v := .ref q8) (ty := .array .int) X hname (by decide +kernel) (by decide +kernel) (by decide +kernel) rfl rfl (by exact (show 6 < 7 from by decide)) hP hD hS (by decide +kernel) (fun G31 locs31 hP hD hS => ?_)
  exact retC (q := fun t => ([fun _ => q0, fun _ => q1, fun _ => q2, fun _ => q3, r3, fun _ => q5, r5, fun _ => q7, fun _ => q8] : List (Nat → Nat)).getD t (fun _ => 0)) X hr hlocks (by decide +kernel) hP hD hS (fun z hz => hz) (fun h => h) (by decide) (by decide)
def shp3 (kx : Nat → ClassId) (s5 a : Nat) (q : Nat → Nat → Nat) : va_W := (a, .inr (7, [.ref (q 0 0), .ref (q 1 0), .ref (q 2 0), .ref (q 3 0), .ref (q 4 0), .int 0, .ref (q 5 0), .ref (q 6 0), .ref (q 7 0), .ref (q 8 0), .ref (q 9 0), .int 0])) :: ((q 9 0, .inl (kx 0, 16, .inl (fun _ => 0))) :: ((q 8 0, .inl (kx 0, 16, .inl (fun _ => 0))) :: ((q 7 0, .inl (kx 0, 16, .inl (fun _ => 0))) :: ((q 6 0, .inl (kx 0, 16, .inl (fun _ => 0))) :: ((q 5 0, .inl (kx 0, 2, .inl (upd (upd (fun _ => 0) (0 : Int32).toNatClampNeg 1) (1 : Int32).toNatClampNeg 1))) :: ((q 4 0, .inl (kx 0, 120, .inl (fun _ => 0))) :: ((q 3 0, .inl (kx 0, 120, .inl (fun _ => 0))) :: ((q 2 0, .inl (kx 0, 120, .inl (fun _ => 0))) :: ((q 1 0, .inl (kx 0, 120, .inl (fun _ => 0))) :: ((q 0 0, .inl (kx 0, 120, .inl (fun _ => 0))) :: []))))))))))
set_option maxRecDepth 20000 in
theorem ct3 : MCT l kx D s5 3 7 { frames := 1, cells := 10, slots := 666, locals := 64 } [.null, .null, .null, .null, .null, .int 0, .null, .null, .null, .null, .null, .int 0] (shp3 kx s5) := by
  refine mct_of (by decide +kernel) (by decide +kernel) (fun a p e s m args below meth c A ls X hN hname hr hlocks hP hD hl => ?_)
  obtain ⟨⟨hx, hb, hml⟩, hts, hown, hK, hA⟩ := id X
  have hS : va_S A s.heap s.heap [] := va_S.rf
  refine lv_aload_n (k := 0) (i := 0) (x := a) hx hb (by decide +kernel) rfl (lv_at hl 0 rfl) ?_
  refine obI (i := 3) X (tblG_of (by decide +kernel) rfl) hl.1 (by decide) (by decide) (by decide +kernel) ?_
  refine lv_aload_n (k := 0) (i := 0) (x := a) hx hb (by decide +kernel) rfl (lv_at hl 0 rfl) ?_
  refine lv_bipush (n := 120) (v := 120) hx hb (by decide +kernel) (by decide) ?_
  refine nwA (t := 0) (N := 120) (Or.inl ⟨rfl, rfl, rfl⟩) X (by decide) (by decide) (by decide) (by decide) (by decide) hP hD hS (by decide +kernel) (fun q0 H0 hP hD hS => ?_)
  refine ptF (k := 0) (i := 11) (ci := 7) (v := .ref q0) (ty := .array .int) X hname (by decide +kernel) (by decide +kernel) (by decide +kernel) rfl rfl (by exact (show 0 < 12 from by decide)) hP hD hS (by decide +kernel) (fun G5 locs5 hP hD hS => ?_)
  refine lv_aload_n (k := 0) (i := 0) (x := a) hx hb (by decide +kernel) rfl (lv_at hl 0 rfl) ?_
  refine lv_bipush (n := 120) (v := 120) hx hb (by decide +kernel) (by decide) ?_
  refine nwA (t := 0) (N := 120) (Or.inl ⟨rfl, rfl, rfl⟩) X (by decide) (by decide) (by decide) (by decide) (by decide) hP hD hS (by decide +kernel) (fun q1 H1 hP hD hS => ?_)
  refine ptF (k := 1) (i := 15) (ci := 7) (v := .ref q1) (ty := .array .int) X hname (by decide +kernel) (by decide +kernel) (by decide +kernel) rfl rfl (by exact (show 1 < 12 from by decide)) hP hD hS (by decide +kernel) (fun G9 locs9 hP hD hS => ?_)
  refine lv_aload_n (k := 0) (i := 0) (x := a) hx hb (by decide +kernel) rfl (lv_at hl 0 rfl) ?_
  refine lv_bipush (n := 120) (v := 120) hx hb (by decide +kernel) (by decide) ?_
  refine nwA (t := 0) (N := 120) (Or.inl ⟨rfl, rfl, rfl⟩) X (by decide) (by decide) (by decide) (by decide) (by decide) hP hD hS (by decide +kernel) (fun q2 H2 hP hD hS => ?_)
  refine ptF (k := 2) (i := 18) (ci := 7) (v := .ref q2) (ty := .array .int) X hname (by decide +kernel) (by decide +kernel) (by decide +kernel) rfl rfl (by exact (show 2 < 12 from by decide)) hP hD hS (by decide +kernel) (fun G13 locs13 hP hD hS => ?_)
  refine lv_aload_n (k := 0) (i := 0) (x := a) hx hb (by decide +kernel) rfl (lv_at hl 0 rfl) ?_
  refine lv_bipush (n := 120) (v := 120) hx hb (by decide +kernel) (by decide) ?_
  refine nwA (t := 0) (N := 120) (Or.inl ⟨rfl, rfl, rfl⟩) X (by decide) (by decide) (by decide) (by decide) (by decide) hP hD hS (by decide +kernel) (fun q3 H3 hP hD hS => ?_)
  refine ptF (k := 3) (i := 21) (ci := 7) (v := .ref q3) (ty := .array .int) X hname (by decide +kernel) (by decide +kernel) (by decide +kernel) rfl rfl (by exact (show 3 < 12 from by decide)) hP hD hS (by decide +kernel) (fun G17 locs17 hP hD hS => ?_)
  refine lv_aload_n (k := 0) (i := 0) (x := a) hx hb (by decide +kernel) rfl (lv_at hl 0 rfl) ?_
  refine lv_bipush (n := 120) (v := 120) hx hb (by decide +kernel) (by decide) ?_
  refine nwA (t := 0) (N := 120) (Or.inl ⟨rfl, rfl, rfl⟩) X (by decide) (by decide) (by decide) (by decide) (by decide) hP hD hS (by decide +kernel) (fun q4 H4 hP hD hS => ?_)
  refine ptF (k := 4) (i := 24) (ci := 7) (v := .ref q4) (ty := .array .int) X hname (by decide +kernel) (by decide +kernel) (by decide +kernel) rfl rfl (by exact (show 4 < 12 from by decide)) hP hD hS (by decide +kernel) (fun G21 locs21 hP hD hS => ?_)
  refine lv_aload_n (k := 0) (i := 0) (x := a) hx hb (by decide +kernel) rfl (lv_at hl 0 rfl) ?_
  refine lv_iconst (n := 2) (v := 2) hx hb (by decide +kernel) (by decide) ?_
  refine nwA (t := 0) (N := 2) (Or.inl ⟨rfl, rfl, rfl⟩) X (by decide) (by decide) (by decide) (by decide) (by decide) hP hD hS (by decide +kernel) (fun q5 H5 hP hD hS => ?_)
  refine lv_dup hx hb (by decide +kernel) rfl ?_
  refine lv_iconst (n := 0) (v := 0) hx hb (by decide +kernel) (by decide) ?_
  refine lv_iconst (n := 1) (v := 1) hx hb (by decide +kernel) (by decide) ?_
  refine ias X (vp_in_nI (n := 0) (by decide) (by decide)) hP hD hS (by decide +kernel) (fun H5_25 locs5_25 hP hD hS => ?_)
  refine lv_dup hx hb (by decide +kernel) rfl ?_
  refine lv_iconst (n := 1) (v := 1) hx hb (by decide +kernel) (by decide) ?_
  refine lv_iconst (n := 1) (v := 1) hx hb (by decide +kernel) (by decide) ?_
  refine ias X (vp_in_nI (n := 1) (by decide) (by decide)) hP hD hS (by decide +kernel) (fun H5_29 locs5_29 hP hD hS => ?_)
  refine ptF (k := 6) (i := 27) (ci := 7) (v := .ref q5) (ty := .array .int) X hname (by decide +kernel) (by decide +kernel) (by decide +kernel) rfl rfl (by exact (show 6 < 12 from by decide)) hP hD hS (by decide +kernel) (fun G33 locs33 hP hD hS => ?_)
  refine lv_aload_n (k := 0) (i := 0) (x := a) hx hb (by decide +kernel) rfl (lv_at hl 0 rfl) ?_
  refine lv_bipush (n := 16) (v := 16) hx hb (by decide +kernel) (by decide) ?_
  refine nwA (t := 0) (N := 16) (Or.inl ⟨rfl, rfl, rfl⟩) X (by decide) (by decide) (by decide) (by decide) (by decide) hP hD hS (by decide +kernel) (fun q6 H6 hP hD hS => ?_)
  refine ptF (k := 7) (i := 30) (ci := 7) (v := .ref q6) (ty := .array .int) X hname (by decide +kernel) (by decide +kernel) (by decide +kernel) rfl rfl (by exact (show 7 < 12 from by decide)) hP hD hS (by decide +kernel) (fun G37 locs37 hP hD hS => ?_)
  refine lv_aload_n (k := 0) (i := 0) (x := a) hx hb (by decide +kernel) rfl (lv_at hl 0 rfl) ?_
  refine lv_bipush (n := 16) (v := 16) hx hb (by decide +kernel) (by decide) ?_
  refine nwA (t := 0) (N := 16) (Or.inl ⟨rfl, rfl, rfl⟩) X (by decide) (by decide) (by decide) (by decide) (by decide) hP hD hS (by decide +kernel) (fun q7 H7 hP hD hS => ?_)
  refine ptF (k := 8) (i := 33) (ci := 7) (v := .ref q7) (ty := .array .int) X hname (by decide +kernel) (by decide +kernel) (by decide +kernel) rfl rfl (by exact (show 8 < 12 from by decide)) hP hD hS (by decide +kernel) (fun G41 locs41 hP hD hS => ?_)
  refine lv_aload_n (k := 0) (i := 0) (x := a) hx hb (by decide +kernel) rfl (lv_at hl 0 rfl) ?_
  refine lv_bipush (n := 16) (v := 16) hx hb (by decide +kernel) (by decide) ?_
  refine nwA (t := 0) (N := 16) (Or.inl ⟨rfl, rfl, rfl⟩) X (by decide) (by decide) (by decide) (by decide) (by decide) hP hD hS (by decide +kernel) (fun q8 H8 hP hD hS => ?_)
  refine ptF (k := 9) (i := 36) (ci := 7) (v := .ref q8) (ty := .array .int) X hname (by decide +kernel) (by decide +kernel) (by decide +kernel) rfl rfl (by exact (show 9 < 12 from by decide)) hP hD hS (by decide +kernel) (fun G45 locs45 hP hD hS => ?_)
  refine lv_aload_n (k := 0) (i := 0) (x := a) hx hb (by decide +kernel) rfl (lv_at hl 0 rfl) ?_
  refine lv_bipush (n := 16) (v := 16) hx hb (by decide +kernel) (by decide) ?_
  refine nwA (t := 0) (N := 16) (Or.inl ⟨rfl, rfl, rfl⟩) X (by decide) (by decide) (by decide) (by decide) (by decide) hP hD hS (by decide +kernel) (fun q9 H9 hP hD hS => ?_)
  refine ptF (k := 10) (i := 39) (ci := 7) (v := .ref q9) (ty := .array .int) X hname (by decide +kernel) (by decide +kernel) (by decide +kernel) rfl rfl (by exact (show 10 < 12 from by decide)) hP hD hS (by decide +kernel) (fun G49 locs49 hP hD hS => ?_)
  exact retC (q := fun t => ([fun _ => q0, fun _ => q1, fun _ => q2, fun _ => q3, fun _ => q4, fun _ => q5, fun _ => q6, fun _ => q7, fun _ => q8, fun _ => q9] : List (Nat → Nat)).getD t (fun _ => 0)) X hr hlocks (by decide +kernel) hP hD hS (fun z hz => hz) (fun h => h) (by decide) (by decide)
def shp8 (kx : Nat → ClassId) (s5 a : Nat) (q : Nat → Nat → Nat) : va_W := (a, .inr (8, [.ref (q 0 0), .ref (q 1 0), .ref (q 2 0), .int 0])) :: ((q 2 0, .inl (kx 0, 30, .inl (fun _ => 0))) :: ((q 1 0, .inl (kx 0, 30, .inl (fun _ => 0))) :: ((q 0 0, .inl (kx 0, 30, .inl (fun _ => 0))) :: [])))
set_option maxRecDepth 20000 in
theorem ct8 : MCT l kx D s5 8 8 { frames := 1, cells := 3, slots := 90, locals := 64 } [.null, .null, .null, .int 0] (shp8 kx s5) := by
  refine mct_of (by decide +kernel) (by decide +kernel) (fun a p e s m args below meth c A ls X hN hname hr hlocks hP hD hl => ?_)
  obtain ⟨⟨hx, hb, hml⟩, hts, hown, hK, hA⟩ := id X
  have hS : va_S A s.heap s.heap [] := va_S.rf
  refine lv_aload_n (k := 0) (i := 0) (x := a) hx hb (by decide +kernel) rfl (lv_at hl 0 rfl) ?_
  refine obI (i := 3) X (tblG_of (by decide +kernel) rfl) hl.1 (by decide) (by decide) (by decide +kernel) ?_
  refine lv_aload_n (k := 0) (i := 0) (x := a) hx hb (by decide +kernel) rfl (lv_at hl 0 rfl) ?_
  refine lv_bipush (n := 30) (v := 30) hx hb (by decide +kernel) (by decide) ?_
  refine nwA (t := 0) (N := 30) (Or.inl ⟨rfl, rfl, rfl⟩) X (by decide) (by decide) (by decide) (by decide) (by decide) hP hD hS (by decide +kernel) (fun q0 H0 hP hD hS => ?_)
  refine ptF (k := 0) (i := 11) (ci := 8) (v := .ref q0) (ty := .array .int) X hname (by decide +kernel) (by decide +kernel) (by decide +kernel) rfl rfl (by exact (show 0 < 4 from by decide)) hP hD hS (by decide +kernel) (fun G5 locs5 hP hD hS => ?_)
  refine lv_aload_n (k := 0) (i := 0) (x := a) hx hb (by decide +kernel) rfl (lv_at hl 0 rfl) ?_
  refine lv_bipush (n := 30) (v := 30) hx hb (by decide +kernel) (by decide) ?_
  refine nwA (t := 0) (N := 30) (Or.inl ⟨rfl, rfl, rfl⟩) X (by decide) (by decide) (by decide) (by decide) (by decide) hP hD hS (by decide +kernel) (fun q1 H1 hP hD hS => ?_)
  refine ptF (k := 1) (i := 15) (ci := 8) (v := .ref q1) (ty := .array .int) X hname (by decide +kernel) (by decide +kernel) (by decide +kernel) rfl rfl (by exact (show 1 < 4 from by decide)) hP hD hS (by decide +kernel) (fun G9 locs9 hP hD hS => ?_)
  refine lv_aload_n (k := 0) (i := 0) (x := a) hx hb (by decide +kernel) rfl (lv_at hl 0 rfl) ?_
  refine lv_bipush (n := 30) (v := 30) hx hb (by decide +kernel) (by decide) ?_
  refine nwA (t := 0) (N := 30) (Or.inl ⟨rfl, rfl, rfl⟩) X (by decide) (by decide) (by decide) (by decide) (by decide) hP hD hS (by decide +kernel) (fun q2 H2 hP hD hS => ?_)
  refine ptF (k := 2) (i := 18) (ci := 8) (v := .ref q2) (ty := .array .int) X hname (by decide +kernel) (by decide +kernel) (by decide +kernel) rfl rfl (by exact (show 2 < 4 from by decide)) hP hD hS (by decide +kernel) (fun G13 locs13 hP hD hS => ?_)
  exact retC (q := fun t => ([fun _ => q0, fun _ => q1, fun _ => q2] : List (Nat → Nat)).getD t (fun _ => 0)) X hr hlocks (by decide +kernel) hP hD hS (fun z hz => hz) (fun h => h) (by decide) (by decide)
def shp5 (kx : Nat → ClassId) (s5 a : Nat) (q : Nat → Nat → Nat) : va_W := (a, .inr (9, [.ref (q 0 0), .int 0, .ref (q 1 0), .int 0, .int 0, .ref s5])) :: ((q 1 0, .inl (kx 0, 40, .inl (fun _ => 0))) :: ((q 0 0, .inl (kx 0, 40, .inl (fun _ => 0))) :: []))
set_option maxRecDepth 20000 in
theorem ct5 : MCT l kx D s5 5 9 { frames := 1, cells := 2, slots := 80, locals := 64 } [.null, .int 0, .null, .int 0, .int 0, .null] (shp5 kx s5) := by
  refine mct_of (by decide +kernel) (by decide +kernel) (fun a p e s m args below meth c A ls X hN hname hr hlocks hP hD hl => ?_)
  obtain ⟨⟨hx, hb, hml⟩, hts, hown, hK, hA⟩ := id X
  have hS : va_S A s.heap s.heap [] := va_S.rf
  refine lv_aload_n (k := 0) (i := 0) (x := a) hx hb (by decide +kernel) rfl (lv_at hl 0 rfl) ?_
  refine obI (i := 1) X (tblG_of (by decide +kernel) rfl) hl.1 (by decide) (by decide) (by decide +kernel) ?_
  refine lv_aload_n (k := 0) (i := 0) (x := a) hx hb (by decide +kernel) rfl (lv_at hl 0 rfl) ?_
  refine lv_bipush (n := 40) (v := 40) hx hb (by decide +kernel) (by decide) ?_
  refine nwA (t := 0) (N := 40) (Or.inl ⟨rfl, rfl, rfl⟩) X (by decide) (by decide) (by decide) (by decide) (by decide) hP hD hS (by decide +kernel) (fun q0 H0 hP hD hS => ?_)
  refine ptF (k := 0) (i := 9) (ci := 9) (v := .ref q0) (ty := .array .int) X hname (by decide +kernel) (by decide +kernel) (by decide +kernel) rfl rfl (by exact (show 0 < 6 from by decide)) hP hD hS (by decide +kernel) (fun G5 locs5 hP hD hS => ?_)
  refine lv_aload_n (k := 0) (i := 0) (x := a) hx hb (by decide +kernel) rfl (lv_at hl 0 rfl) ?_
  refine lv_bipush (n := 40) (v := 40) hx hb (by decide +kernel) (by decide) ?_
  refine nwA (t := 0) (N := 40) (Or.inl ⟨rfl, rfl, rfl⟩) X (by decide) (by decide) (by decide) (by decide) (by decide) hP hD hS (by decide +kernel) (fun q1 H1 hP hD hS => ?_)
  refine ptF (k := 2) (i := 13) (ci := 9) (v := .ref q1) (ty := .array .int) X hname (by decide +kernel) (by decide +kernel) (by decide +kernel) rfl rfl (by exact (show 2 < 6 from by decide)) hP hD hS (by decide +kernel) (fun G9 locs9 hP hD hS => ?_)
  refine lv_aload_n (k := 0) (i := 0) (x := a) hx hb (by decide +kernel) rfl (lv_at hl 0 rfl) ?_
  refine va_ldcS (index := 16) hx hb hown (hN.2.2 (RN (owM 5)) 16 "hpgdy" (by decide +kernel) rfl) (by decide +kernel) ?_
  refine ptF (k := 5) (i := 18) (ci := 9) (v := .ref s5) (ty := .object "java/lang/String") X hname (by decide +kernel) (by decide +kernel) (by decide +kernel) rfl rfl (by exact (show 5 < 6 from by decide)) hP hD hS (by decide +kernel) (fun G12 locs12 hP hD hS => ?_)
  exact retC (q := fun t => ([fun _ => q0, fun _ => q1] : List (Nat → Nat)).getD t (fun _ => 0)) X hr hlocks (by decide +kernel) hP hD hS (fun z hz => hz) (fun h => h) (by decide) (by decide)
def shp6 (kx : Nat → ClassId) (s5 a : Nat) (q : Nat → Nat → Nat) : va_W := (a, .inr (10, [.ref (q 0 0), .ref (q 2 0), .int 0])) :: ((q 2 0, .inl (kx 0, 20, .inl (fun _ => 0))) :: ((q 0 0, .inl (kx 2, 20, .inr (.inr (.inr (.inr (fun j => if j < 20 then some (q 1 j) else none)))))) :: ((List.range 20).map (fun j => ((q 1 j, .inl (kx 0, 40, .inl fun _ => 0)) : Nat × va_E)) ++ [])))
set_option maxRecDepth 20000 in
theorem ct6 : MCT l kx D s5 6 10 { frames := 1, cells := 22, slots := 840, locals := 64 } [.null, .null, .int 0] (shp6 kx s5) := by
  refine mct_of (by decide +kernel) (by decide +kernel) (fun a p e s m args below meth c A ls X hN hname hr hlocks hP hD hl => ?_)
  obtain ⟨⟨hx, hb, hml⟩, hts, hown, hK, hA⟩ := id X
  have hS : va_S A s.heap s.heap [] := va_S.rf
  refine lv_aload_n (k := 0) (i := 0) (x := a) hx hb (by decide +kernel) rfl (lv_at hl 0 rfl) ?_
  refine obI (i := 1) X (tblG_of (by decide +kernel) rfl) hl.1 (by decide) (by decide) (by decide +kernel) ?_
  refine lv_aload_n (k := 0) (i := 0) (x := a) hx hb (by decide +kernel) rfl (lv_at hl 0 rfl) ?_
  refine lv_bipush (n := 20) (v := 20) hx hb (by decide +kernel) (by decide) ?_
  refine lv_bipush (n := 40) (v := 40) hx hb (by decide +kernel) (by decide) ?_
  refine nwM (i := 11) (N := 20) (K := 40) X hN (tblG_of (by decide +kernel) rfl) (by decide) (by decide) (by decide) (by decide) (by decide) (by decide) (by decide) hP hD hS (by decide +kernel) (fun q0 r0 H0 hP hD hS => ?_)
  refine ptF (k := 0) (i := 13) (ci := 10) (v := .ref q0) (ty := .array (.array .int)) X hname (by decide +kernel) (by decide +kernel) (by decide +kernel) rfl rfl (by exact (show 0 < 3 from by decide)) hP hD hS (by decide +kernel) (fun G6 locs6 hP hD hS => ?_)
  refine lv_aload_n (k := 0) (i := 0) (x := a) hx hb (by decide +kernel) rfl (lv_at hl 0 rfl) ?_
  refine lv_bipush (n := 20) (v := 20) hx hb (by decide +kernel) (by decide) ?_
  refine nwA (t := 0) (N := 20) (Or.inl ⟨rfl, rfl, rfl⟩) X (by decide) (by decide) (by decide) (by decide) (by decide) hP hD hS (by decide +kernel) (fun q2 H2 hP hD hS => ?_)
  refine ptF (k := 1) (i := 16) (ci := 10) (v := .ref q2) (ty := .array .int) X hname (by decide +kernel) (by decide +kernel) (by decide +kernel) rfl rfl (by exact (show 1 < 3 from by decide)) hP hD hS (by decide +kernel) (fun G10 locs10 hP hD hS => ?_)
  exact retC (q := fun t => ([fun _ => q0, r0, fun _ => q2] : List (Nat → Nat)).getD t (fun _ => 0)) X hr hlocks (by decide +kernel) hP hD hS (fun z hz => hz) (fun h => h) (by decide) (by decide)
def shp156 (kx : Nat → ClassId) (s5 a : Nat) (q : Nat → Nat → Nat) : va_W := (a, .inr (12, [.int 0, .int 0, .ref (q 0 0), .ref (q 1 0), .ref (q 2 0), .int 0, .ref (q 3 0), .ref (q 4 0), .ref (q 5 0), .ref (q 6 0), .ref (q 7 0), .ref (q 8 0), .ref (q 9 0), .int 0, .ref (q 10 0), .ref (q 11 0), .ref (q 12 0), .ref (q 13 0), .ref (q 14 0), .int 0, .ref (q 15 0), .ref (q 16 0), .ref (q 17 0), .ref (q 18 0), .ref (q 19 0), .ref (q 20 0), .ref (q 21 0), .ref (q 22 0), .ref (q 23 0), .ref (q 24 0), .int 0, .int 0, .int 0, .ref (q 25 0), .ref (q 26 0), .int 0, .int 0, .int 0, .int 0, .int 0, .int 0, .int 0, .ref (q 27 0), .int 0, .ref (q 28 0), .int 0, .int 0, .ref (q 29 0), .ref (q 30 0), .ref (q 31 0), .int 0, .ref (q 32 0), .ref (q 33 0), .ref (q 34 0), .ref (q 35 0), .int 0, .int 0, .int 0, .ref (q 36 0), .ref (q 37 0), .ref (q 38 0), .int 0, .ref (q 39 0), .ref (q 40 0), .ref (q 41 0), .ref (q 42 0), .ref (q 43 0), .ref (q 44 0), .ref (q 45 0), .ref (q 46 0), .ref (q 47 0), .ref (q 48 0), .ref (q 49 0), .ref (q 50 0), .ref (q 51 0), .ref (q 52 0), .ref (q 53 0), .ref (q 54 0), .ref (q 55 0), .ref (q 56 0), .ref (q 57 0), .ref (q 58 0), .ref (q 59 0), .ref (q 60 0), .int 0, .int 0, .ref (q 61 0), .int 0])) :: ((q 61 0, .inl (kx 0, 20, .inl (fun _ => 0))) :: ((q 60 0, .inl (kx 0, 4, .inl (fun _ => 0))) :: ((q 59 0, .inl (kx 0, 10, .inl (fun _ => 0))) :: ((q 58 0, .inl (kx 0, 6, .inl (fun _ => 0))) :: ((q 57 0, .inl (kx 0, 10, .inl (fun _ => 0))) :: ((q 56 0, .inl (kx 0, 9, .inl (fun _ => 0))) :: ((q 55 0, .inl (kx 0, 9, .inl (fun _ => 0))) :: ((q 54 0, .inl (kx 1, 45, .inl (fun _ => 0))) :: ((q 53 0, .inl (kx 0, 40, .inl (fun _ => 0))) :: ((q 52 0, .inl (kx 0, 40, .inl (fun _ => 0))) :: ((q 51 0, .inl (kx 0, 8, .inl (fun _ => 0))) :: ((q 50 0, .inl (kx 0, 8, .inl (fun _ => 0))) :: ((q 49 0, .inl (kx 0, 72, .inl (fun _ => 0))) :: ((q 48 0, .inl (kx 1, 40, .inl (fun _ => 0))) :: ((q 47 0, .inl (kx 0, 16, .inl (fun _ => 0))) :: ((q 46 0, .inl (kx 0, 16, .inl (fun _ => 0))) :: ((q 45 0, .inl (kx 0, 16, .inl (fun _ => 0))) :: ((q 44 0, .inl (kx 0, 16, .inl (fun _ => 0))) :: ((q 43 0, .inl (kx 0, 16, .inl (fun _ => 0))) :: ((q 42 0, .inl (kx 0, 9, .inl (fun _ => 0))) :: ((q 41 0, .inl (kx 0, 9, .inl (fun _ => 0))) :: ((q 40 0, .inl (kx 0, 9, .inl (fun _ => 0))) :: ((q 39 0, .inl (kx 0, 9, .inl (fun _ => 0))) :: ((q 38 0, .inl (kx 1, 40, .inl (fun _ => 0))) :: ((q 37 0, .inl (kx 0, 40, .inl (fun _ => 0))) :: ((q 36 0, .inl (kx 0, 40, .inl (fun _ => 0))) :: ((q 35 0, .inl (kx 0, 40, .inl (fun _ => 0))) :: ((q 34 0, .inl (kx 0, 30, .inl (fun _ => 0))) :: ((q 33 0, .inl (kx 0, 30, .inl (fun _ => 0))) :: ((q 32 0, .inl (kx 0, 30, .inl (fun _ => 0))) :: ((q 31 0, .inl (kx 0, 40, .inl (fun _ => 0))) :: ((q 30 0, .inl (kx 0, 40, .inl (fun _ => 0))) :: ((q 29 0, .inl (kx 0, 40, .inl (fun _ => 0))) :: ((q 28 0, .inl (kx 0, 60, .inl (fun _ => 0))) :: ((q 27 0, .inl (kx 1, 60, .inl (fun _ => 0))) :: ((q 26 0, .inl (kx 0, 30, .inl (fun _ => 0))) :: ((q 25 0, .inl (kx 0, 1200, .inl (fun _ => 0))) :: ((q 24 0, .inl (kx 0, 40, .inl (fun _ => 0))) :: ((q 23 0, .inl (kx 0, 5, .inl (fun _ => 0))) :: ((q 22 0, .inl (kx 0, 7, .inl (fun _ => 0))) :: ((q 21 0, .inl (kx 0, 6, .inl (upd (upd (upd (upd (upd (upd (fun _ => 0) (0 : Int32).toNatClampNeg 0) (1 : Int32).toNatClampNeg 1) (2 : Int32).toNatClampNeg 2) (3 : Int32).toNatClampNeg 3) (4 : Int32).toNatClampNeg 0) (5 : Int32).toNatClampNeg 1))) :: ((q 20 0, .inl (kx 0, 80, .inl (fun _ => 0))) :: ((q 19 0, .inl (kx 0, 80, .inl (fun _ => 0))) :: ((q 18 0, .inl (kx 0, 80, .inl (fun _ => 0))) :: ((q 17 0, .inl (kx 0, 80, .inl (fun _ => 0))) :: ((q 16 0, .inl (kx 0, 80, .inl (fun _ => 0))) :: ((q 15 0, .inl (kx 0, 80, .inl (fun _ => 0))) :: ((q 14 0, .inl (kx 1, 40, .inl (fun _ => 0))) :: ((q 13 0, .inl (kx 0, 40, .inl (fun _ => 0))) :: ((q 12 0, .inl (kx 0, 40, .inl (fun _ => 0))) :: ((q 11 0, .inl (kx 0, 40, .inl (fun _ => 0))) :: ((q 10 0, .inl (kx 0, 40, .inl (fun _ => 0))) :: ((q 9 0, .inl (kx 0, 2, .inl (upd (upd (fun _ => 0) (0 : Int32).toNatClampNeg 1) (1 : Int32).toNatClampNeg 1))) :: ((q 8 0, .inl (kx 0, 120, .inl (fun _ => 0))) :: ((q 7 0, .inl (kx 0, 120, .inl (fun _ => 0))) :: ((q 6 0, .inl (kx 0, 120, .inl (fun _ => 0))) :: ((q 5 0, .inl (kx 0, 120, .inl (fun _ => 0))) :: ((q 4 0, .inl (kx 0, 120, .inl (fun _ => 0))) :: ((q 3 0, .inl (kx 0, 120, .inl (fun _ => 0))) :: ((q 2 0, .inl (kx 0, 16, .inl (fun _ => 0))) :: ((q 1 0, .inl (kx 0, 16, .inl (fun _ => 0))) :: ((q 0 0, .inl (kx 0, 16, .inl (fun _ => 0))) :: []))))))))))))))))))))))))))))))))))))))))))))))))))))))))))))))
set_option maxRecDepth 20000 in
theorem ct156 : MCT l kx D s5 156 12 { frames := 1, cells := 62, slots := 3665, locals := 64 } [.int 0, .int 0, .null, .null, .null, .int 0, .null, .null, .null, .null, .null, .null, .null, .int 0, .null, .null, .null, .null, .null, .int 0, .null, .null, .null, .null, .null, .null, .null, .null, .null, .null, .int 0, .int 0, .int 0, .null, .null, .int 0, .int 0, .int 0, .int 0, .int 0, .int 0, .int 0, .null, .int 0, .null, .int 0, .int 0, .null, .null, .null, .int 0, .null, .null, .null, .null, .int 0, .int 0, .int 0, .null, .null, .null, .int 0, .null, .null, .null, .null, .null, .null, .null, .null, .null, .null, .null, .null, .null, .null, .null, .null, .null, .null, .null, .null, .null, .null, .int 0, .int 0, .null, .int 0] (shp156 kx s5) := by
  refine mct_of (by decide +kernel) (by decide +kernel) (fun a p e s m args below meth c A ls X hN hname hr hlocks hP hD hl => ?_)
  obtain ⟨⟨hx, hb, hml⟩, hts, hown, hK, hA⟩ := id X
  have hS : va_S A s.heap s.heap [] := va_S.rf
  refine lv_aload_n (k := 0) (i := 0) (x := a) hx hb (by decide +kernel) rfl (lv_at hl 0 rfl) ?_
  refine obI (i := 1) X (tblG_of (by decide +kernel) rfl) hl.1 (by decide) (by decide) (by decide +kernel) ?_
  refine lv_aload_n (k := 0) (i := 0) (x := a) hx hb (by decide +kernel) rfl (lv_at hl 0 rfl) ?_
  refine lv_bipush (n := 16) (v := 16) hx hb (by decide +kernel) (by decide) ?_
  refine nwA (t := 0) (N := 16) (Or.inl ⟨rfl, rfl, rfl⟩) X (by decide) (by decide) (by decide) (by decide) (by decide) hP hD hS (by decide +kernel) (fun q0 H0 hP hD hS => ?_)
  refine ptF (k := 2) (i := 7) (ci := 12) (v := .ref q0) (ty := .array .int) X hname (by decide +kernel) (by decide +kernel) (by decide +kernel) rfl rfl (by exact (show 2 < 88 from by decide)) hP hD hS (by decide +kernel) (fun G5 locs5 hP hD hS => ?_)
  refine lv_aload_n (k := 0) (i := 0) (x := a) hx hb (by decide +kernel) rfl (lv_at hl 0 rfl) ?_
  refine lv_bipush (n := 16) (v := 16) hx hb (by decide +kernel) (by decide) ?_
  refine nwA (t := 0) (N := 16) (Or.inl ⟨rfl, rfl, rfl⟩) X (by decide) (by decide) (by decide) (by decide) (by decide) hP hD hS (by decide +kernel) (fun q1 H1 hP hD hS => ?_)
  refine ptF (k := 3) (i := 13) (ci := 12) (v := .ref q1) (ty := .array .int) X hname (by decide +kernel) (by decide +kernel) (by decide +kernel) rfl rfl (by exact (show 3 < 88 from by decide)) hP hD hS (by decide +kernel) (fun G9 locs9 hP hD hS => ?_)
  refine lv_aload_n (k := 0) (i := 0) (x := a) hx hb (by decide +kernel) rfl (lv_at hl 0 rfl) ?_
  refine lv_bipush (n := 16) (v := 16) hx hb (by decide +kernel) (by decide) ?_
  refine nwA (t := 0) (N := 16) (Or.inl ⟨rfl, rfl, rfl⟩) X (by decide) (by decide) (by decide) (by decide) (by decide) hP hD hS (by decide +kernel) (fun q2 H2 hP hD hS => ?_)
  refine ptF (k := 4) (i := 16) (ci := 12) (v := .ref q2) (ty := .array .int) X hname (by decide +kernel) (by decide +kernel) (by decide +kernel) rfl rfl (by exact (show 4 < 88 from by decide)) hP hD hS (by decide +kernel) (fun G13 locs13 hP hD hS => ?_)
  refine lv_aload_n (k := 0) (i := 0) (x := a) hx hb (by decide +kernel) rfl (lv_at hl 0 rfl) ?_
  refine lv_bipush (n := 120) (v := 120) hx hb (by decide +kernel) (by decide) ?_
  refine nwA (t := 0) (N := 120) (Or.inl ⟨rfl, rfl, rfl⟩) X (by decide) (by decide) (by decide) (by decide) (by decide) hP hD hS (by decide +kernel) (fun q3 H3 hP hD hS => ?_)
  refine ptF (k := 6) (i := 19) (ci := 12) (v := .ref q3) (ty := .array .int) X hname (by decide +kernel) (by decide +kernel) (by decide +kernel) rfl rfl (by exact (show 6 < 88 from by decide)) hP hD hS (by decide +kernel) (fun G17 locs17 hP hD hS => ?_)
  refine lv_aload_n (k := 0) (i := 0) (x := a) hx hb (by decide +kernel) rfl (lv_at hl 0 rfl) ?_
  refine lv_bipush (n := 120) (v := 120) hx hb (by decide +kernel) (by decide) ?_
  refine nwA (t := 0) (N := 120) (Or.inl ⟨rfl, rfl, rfl⟩) X (by decide) (by decide) (by decide) (by decide) (by decide) hP hD hS (by decide +kernel) (fun q4 H4 hP hD hS => ?_)
  refine ptF (k := 7) (i := 22) (ci := 12) (v := .ref q4) (ty := .array .int) X hname (by decide +kernel) (by decide +kernel) (by decide +kernel) rfl rfl (by exact (show 7 < 88 from by decide)) hP hD hS (by decide +kernel) (fun G21 locs21 hP hD hS => ?_)
  refine lv_aload_n (k := 0) (i := 0) (x := a) hx hb (by decide +kernel) rfl (lv_at hl 0 rfl) ?_
  refine lv_bipush (n := 120) (v := 120) hx hb (by decide +kernel) (by decide) ?_
  refine nwA (t := 0) (N := 120) (Or.inl ⟨rfl, rfl, rfl⟩) X (by decide) (by decide) (by decide) (by decide) (by decide) hP hD hS (by decide +kernel) (fun q5 H5 hP hD hS => ?_)
  refine ptF (k := 8) (i := 25) (ci := 12) (v := .ref q5) (ty := .array .int) X hname (by decide +kernel) (by decide +kernel) (by decide +kernel) rfl rfl (by exact (show 8 < 88 from by decide)) hP hD hS (by decide +kernel) (fun G25 locs25 hP hD hS => ?_)
  refine lv_aload_n (k := 0) (i := 0) (x := a) hx hb (by decide +kernel) rfl (lv_at hl 0 rfl) ?_
  refine lv_bipush (n := 120) (v := 120) hx hb (by decide +kernel) (by decide) ?_
  refine nwA (t := 0) (N := 120) (Or.inl ⟨rfl, rfl, rfl⟩) X (by decide) (by decide) (by decide) (by decide) (by decide) hP hD hS (by decide +kernel) (fun q6 H6 hP hD hS => ?_)
  refine ptF (k := 9) (i := 28) (ci := 12) (v := .ref q6) (ty := .array .int) X hname (by decide +kernel) (by decide +kernel) (by decide +kernel) rfl rfl (by exact (show 9 < 88 from by decide)) hP hD hS (by decide +kernel) (fun G29 locs29 hP hD hS => ?_)
  refine lv_aload_n (k := 0) (i := 0) (x := a) hx hb (by decide +kernel) rfl (lv_at hl 0 rfl) ?_
  refine lv_bipush (n := 120) (v := 120) hx hb (by decide +kernel) (by decide) ?_
  refine nwA (t := 0) (N := 120) (Or.inl ⟨rfl, rfl, rfl⟩) X (by decide) (by decide) (by decide) (by decide) (by decide) hP hD hS (by decide +kernel) (fun q7 H7 hP hD hS => ?_)
  refine ptF (k := 10) (i := 31) (ci := 12) (v := .ref q7) (ty := .array .int) X hname (by decide +kernel) (by decide +kernel) (by decide +kernel) rfl rfl (by exact (show 10 < 88 from by decide)) hP hD hS (by decide +kernel) (fun G33 locs33 hP hD hS => ?_)
  refine lv_aload_n (k := 0) (i := 0) (x := a) hx hb (by decide +kernel) rfl (lv_at hl 0 rfl) ?_
  refine lv_bipush (n := 120) (v := 120) hx hb (by decide +kernel) (by decide) ?_
  refine nwA (t := 0) (N := 120) (Or.inl ⟨rfl, rfl, rfl⟩) X (by decide) (by decide) (by decide) (by decide) (by decide) hP hD hS (by decide +kernel) (fun q8 H8 hP hD hS => ?_)
  refine ptF (k := 11) (i := 34) (ci := 12) (v := .ref q8) (ty := .array .int) X hname (by decide +kernel) (by decide +kernel) (by decide +kernel) rfl rfl (by exact (show 11 < 88 from by decide)) hP hD hS (by decide +kernel) (fun G37 locs37 hP hD hS => ?_)
  refine lv_aload_n (k := 0) (i := 0) (x := a) hx hb (by decide +kernel) rfl (lv_at hl 0 rfl) ?_
  refine lv_iconst (n := 2) (v := 2) hx hb (by decide +kernel) (by decide) ?_
  refine nwA (t := 0) (N := 2) (Or.inl ⟨rfl, rfl, rfl⟩) X (by decide) (by decide) (by decide) (by decide) (by decide) hP hD hS (by decide +kernel) (fun q9 H9 hP hD hS => ?_)
  refine lv_dup hx hb (by decide +kernel) rfl ?_
  refine lv_iconst (n := 0) (v := 0) hx hb (by decide +kernel) (by decide) ?_
  refine lv_iconst (n := 1) (v := 1) hx hb (by decide +kernel) (by decide) ?_
  refine ias X (vp_in_nI (n := 0) (by decide) (by decide)) hP hD hS (by decide +kernel) (fun H9_41 locs9_41 hP hD hS => ?_)
  refine lv_dup hx hb (by decide +kernel) rfl ?_
  refine lv_iconst (n := 1) (v := 1) hx hb (by decide +kernel) (by decide) ?_
  refine lv_iconst (n := 1) (v := 1) hx hb (by decide +kernel) (by decide) ?_
  refine ias X (vp_in_nI (n := 1) (by decide) (by decide)) hP hD hS (by decide +kernel) (fun H9_45 locs9_45 hP hD hS => ?_)
  refine ptF (k := 12) (i := 37) (ci := 12) (v := .ref q9) (ty := .array .int) X hname (by decide +kernel) (by decide +kernel) (by decide +kernel) rfl rfl (by exact (show 12 < 88 from by decide)) hP hD hS (by decide +kernel) (fun G49 locs49 hP hD hS => ?_)
  refine lv_aload_n (k := 0) (i := 0) (x := a) hx hb (by decide +kernel) rfl (lv_at hl 0 rfl) ?_
  refine lv_bipush (n := 40) (v := 40) hx hb (by decide +kernel) (by decide) ?_
  refine nwA (t := 0) (N := 40) (Or.inl ⟨rfl, rfl, rfl⟩) X (by decide) (by decide) (by decide) (by decide) (by decide) hP hD hS (by decide +kernel) (fun q10 H10 hP hD hS => ?_)
  refine ptF (k := 14) (i := 40) (ci := 12) (v := .ref q10) (ty := .array .int) X hname (by decide +kernel) (by decide +kernel) (by decide +kernel) rfl rfl (by exact (show 14 < 88 from by decide)) hP hD hS (by decide +kernel) (fun G53 locs53 hP hD hS => ?_)
  refine lv_aload_n (k := 0) (i := 0) (x := a) hx hb (by decide +kernel) rfl (lv_at hl 0 rfl) ?_
  refine lv_bipush (n := 40) (v := 40) hx hb (by decide +kernel) (by decide) ?_
  refine nwA (t := 0) (N := 40) (Or.inl ⟨rfl, rfl, rfl⟩) X (by decide) (by decide) (by decide) (by decide) (by decide) hP hD hS (by decide +kernel) (fun q11 H11 hP hD hS => ?_)
  refine ptF (k := 15) (i := 43) (ci := 12) (v := .ref q11) (ty := .array .int) X hname (by decide +kernel) (by decide +kernel) (by decide +kernel) rfl rfl (by exact (show 15 < 88 from by decide)) hP hD hS (by decide +kernel) (fun G57 locs57 hP hD hS => ?_)
  refine lv_aload_n (k := 0) (i := 0) (x := a) hx hb (by decide +kernel) rfl (lv_at hl 0 rfl) ?_
  refine lv_bipush (n := 40) (v := 40) hx hb (by decide +kernel) (by decide) ?_
  refine nwA (t := 0) (N := 40) (Or.inl ⟨rfl, rfl, rfl⟩) X (by decide) (by decide) (by decide) (by decide) (by decide) hP hD hS (by decide +kernel) (fun q12 H12 hP hD hS => ?_)
  refine ptF (k := 16) (i := 46) (ci := 12) (v := .ref q12) (ty := .array .int) X hname (by decide +kernel) (by decide +kernel) (by decide +kernel) rfl rfl (by exact (show 16 < 88 from by decide)) hP hD hS (by decide +kernel) (fun G61 locs61 hP hD hS => ?_)
  refine lv_aload_n (k := 0) (i := 0) (x := a) hx hb (by decide +kernel) rfl (lv_at hl 0 rfl) ?_
  refine lv_bipush (n := 40) (v := 40) hx hb (by decide +kernel) (by decide) ?_
  refine nwA (t := 0) (N := 40) (Or.inl ⟨rfl, rfl, rfl⟩) X (by decide) (by decide) (by decide) (by decide) (by decide) hP hD hS (by decide +kernel) (fun q13 H13 hP hD hS => ?_)
  refine ptF (k := 17) (i := 49) (ci := 12) (v := .ref q13) (ty := .array .int) X hname (by decide +kernel) (by decide +kernel) (by decide +kernel) rfl rfl (by exact (show 17 < 88 from by decide)) hP hD hS (by decide +kernel) (fun G65 locs65 hP hD hS => ?_)
  refine lv_aload_n (k := 0) (i := 0) (x := a) hx hb (by decide +kernel) rfl (lv_at hl 0 rfl) ?_
  refine lv_bipush (n := 40) (v := 40) hx hb (by decide +kernel) (by decide) ?_
  refine nwA (t := 1) (N := 40) (Or.inr ⟨rfl, rfl, rfl⟩) X (by decide) (by decide) (by decide) (by decide) (by decide) hP hD hS (by decide +kernel) (fun q14 H14 hP hD hS => ?_)
  refine ptF (k := 18) (i := 52) (ci := 12) (v := .ref q14) (ty := .array .boolean) X hname (by decide +kernel) (by decide +kernel) (by decide +kernel) rfl rfl (by exact (show 18 < 88 from by decide)) hP hD hS (by decide +kernel) (fun G69 locs69 hP hD hS => ?_)
  refine lv_aload_n (k := 0) (i := 0) (x := a) hx hb (by decide +kernel) rfl (lv_at hl 0 rfl) ?_
  refine lv_bipush (n := 80) (v := 80) hx hb (by decide +kernel) (by decide) ?_
  refine nwA (t := 0) (N := 80) (Or.inl ⟨rfl, rfl, rfl⟩) X (by decide) (by decide) (by decide) (by decide) (by decide) hP hD hS (by decide +kernel) (fun q15 H15 hP hD hS => ?_)
  refine ptF (k := 20) (i := 56) (ci := 12) (v := .ref q15) (ty := .array .int) X hname (by decide +kernel) (by decide +kernel) (by decide +kernel) rfl rfl (by exact (show 20 < 88 from by decide)) hP hD hS (by decide +kernel) (fun G73 locs73 hP hD hS => ?_)
  refine lv_aload_n (k := 0) (i := 0) (x := a) hx hb (by decide +kernel) rfl (lv_at hl 0 rfl) ?_
  refine lv_bipush (n := 80) (v := 80) hx hb (by decide +kernel) (by decide) ?_
  refine nwA (t := 0) (N := 80) (Or.inl ⟨rfl, rfl, rfl⟩) X (by decide) (by decide) (by decide) (by decide) (by decide) hP hD hS (by decide +kernel) (fun q16 H16 hP hD hS => ?_)
  refine ptF (k := 21) (i := 59) (ci := 12) (v := .ref q16) (ty := .array .int) X hname (by decide +kernel) (by decide +kernel) (by decide +kernel) rfl rfl (by exact (show 21 < 88 from by decide)) hP hD hS (by decide +kernel) (fun G77 locs77 hP hD hS => ?_)
  refine lv_aload_n (k := 0) (i := 0) (x := a) hx hb (by decide +kernel) rfl (lv_at hl 0 rfl) ?_
  refine lv_bipush (n := 80) (v := 80) hx hb (by decide +kernel) (by decide) ?_
  refine nwA (t := 0) (N := 80) (Or.inl ⟨rfl, rfl, rfl⟩) X (by decide) (by decide) (by decide) (by decide) (by decide) hP hD hS (by decide +kernel) (fun q17 H17 hP hD hS => ?_)
  refine ptF (k := 22) (i := 62) (ci := 12) (v := .ref q17) (ty := .array .int) X hname (by decide +kernel) (by decide +kernel) (by decide +kernel) rfl rfl (by exact (show 22 < 88 from by decide)) hP hD hS (by decide +kernel) (fun G81 locs81 hP hD hS => ?_)
  refine lv_aload_n (k := 0) (i := 0) (x := a) hx hb (by decide +kernel) rfl (lv_at hl 0 rfl) ?_
  refine lv_bipush (n := 80) (v := 80) hx hb (by decide +kernel) (by decide) ?_
  refine nwA (t := 0) (N := 80) (Or.inl ⟨rfl, rfl, rfl⟩) X (by decide) (by decide) (by decide) (by decide) (by decide) hP hD hS (by decide +kernel) (fun q18 H18 hP hD hS => ?_)
  refine ptF (k := 23) (i := 65) (ci := 12) (v := .ref q18) (ty := .array .int) X hname (by decide +kernel) (by decide +kernel) (by decide +kernel) rfl rfl (by exact (show 23 < 88 from by decide)) hP hD hS (by decide +kernel) (fun G85 locs85 hP hD hS => ?_)
  refine lv_aload_n (k := 0) (i := 0) (x := a) hx hb (by decide +kernel) rfl (lv_at hl 0 rfl) ?_
  refine lv_bipush (n := 80) (v := 80) hx hb (by decide +kernel) (by decide) ?_
  refine nwA (t := 0) (N := 80) (Or.inl ⟨rfl, rfl, rfl⟩) X (by decide) (by decide) (by decide) (by decide) (by decide) hP hD hS (by decide +kernel) (fun q19 H19 hP hD hS => ?_)
  refine ptF (k := 24) (i := 68) (ci := 12) (v := .ref q19) (ty := .array .int) X hname (by decide +kernel) (by decide +kernel) (by decide +kernel) rfl rfl (by exact (show 24 < 88 from by decide)) hP hD hS (by decide +kernel) (fun G89 locs89 hP hD hS => ?_)
  refine lv_aload_n (k := 0) (i := 0) (x := a) hx hb (by decide +kernel) rfl (lv_at hl 0 rfl) ?_
  refine lv_bipush (n := 80) (v := 80) hx hb (by decide +kernel) (by decide) ?_
  refine nwA (t := 0) (N := 80) (Or.inl ⟨rfl, rfl, rfl⟩) X (by decide) (by decide) (by decide) (by decide) (by decide) hP hD hS (by decide +kernel) (fun q20 H20 hP hD hS => ?_)
  refine ptF (k := 25) (i := 71) (ci := 12) (v := .ref q20) (ty := .array .int) X hname (by decide +kernel) (by decide +kernel) (by decide +kernel) rfl rfl (by exact (show 25 < 88 from by decide)) hP hD hS (by decide +kernel) (fun G93 locs93 hP hD hS => ?_)
  refine lv_aload_n (k := 0) (i := 0) (x := a) hx hb (by decide +kernel) rfl (lv_at hl 0 rfl) ?_
  refine lv_bipush (n := 6) (v := 6) hx hb (by decide +kernel) (by decide) ?_
  refine nwA (t := 0) (N := 6) (Or.inl ⟨rfl, rfl, rfl⟩) X (by decide) (by decide) (by decide) (by decide) (by decide) hP hD hS (by decide +kernel) (fun q21 H21 hP hD hS => ?_)
  refine lv_dup hx hb (by decide +kernel) rfl ?_
  refine lv_iconst (n := 0) (v := 0) hx hb (by decide +kernel) (by decide) ?_
  refine lv_iconst (n := 0) (v := 0) hx hb (by decide +kernel) (by decide) ?_
  refine ias X (vp_in_nI (n := 0) (by decide) (by decide)) hP hD hS (by decide +kernel) (fun H21_97 locs21_97 hP hD hS => ?_)
  refine lv_dup hx hb (by decide +kernel) rfl ?_
  refine lv_iconst (n := 1) (v := 1) hx hb (by decide +kernel) (by decide) ?_
  refine lv_iconst (n := 1) (v := 1) hx hb (by decide +kernel) (by decide) ?_
  refine ias X (vp_in_nI (n := 1) (by decide) (by decide)) hP hD hS (by decide +kernel) (fun H21_101 locs21_101 hP hD hS => ?_)
  refine lv_dup hx hb (by decide +kernel) rfl ?_
  refine lv_iconst (n := 2) (v := 2) hx hb (by decide +kernel) (by decide) ?_
  refine lv_iconst (n := 2) (v := 2) hx hb (by decide +kernel) (by decide) ?_
  refine ias X (vp_in_nI (n := 2) (by decide) (by decide)) hP hD hS (by decide +kernel) (fun H21_105 locs21_105 hP hD hS => ?_)
  refine lv_dup hx hb (by decide +kernel) rfl ?_
  refine lv_iconst (n := 3) (v := 3) hx hb (by decide +kernel) (by decide) ?_
  refine lv_iconst (n := 3) (v := 3) hx hb (by decide +kernel) (by decide) ?_
  refine ias X (vp_in_nI (n := 3) (by decide) (by decide)) hP hD hS (by decide +kernel) (fun H21_109 locs21_109 hP hD hS => ?_)
  refine lv_dup hx hb (by decide +kernel) rfl ?_
  refine lv_iconst (n := 4) (v := 4) hx hb (by decide +kernel) (by decide) ?_
  refine lv_iconst (n := 0) (v := 0) hx hb (by decide +kernel) (by decide) ?_
  refine ias X (vp_in_nI (n := 4) (by decide) (by decide)) hP hD hS (by decide +kernel) (fun H21_113 locs21_113 hP hD hS => ?_)
  refine lv_dup hx hb (by decide +kernel) rfl ?_
  refine lv_iconst (n := 5) (v := 5) hx hb (by decide +kernel) (by decide) ?_
  refine lv_iconst (n := 1) (v := 1) hx hb (by decide +kernel) (by decide) ?_
  refine ias X (vp_in_nI (n := 5) (by decide) (by decide)) hP hD hS (by decide +kernel) (fun H21_117 locs21_117 hP hD hS => ?_)
  refine ptF (k := 26) (i := 74) (ci := 12) (v := .ref q21) (ty := .array .int) X hname (by decide +kernel) (by decide +kernel) (by decide +kernel) rfl rfl (by exact (show 26 < 88 from by decide)) hP hD hS (by decide +kernel) (fun G121 locs121 hP hD hS => ?_)
  refine lv_aload_n (k := 0) (i := 0) (x := a) hx hb (by decide +kernel) rfl (lv_at hl 0 rfl) ?_
  refine lv_bipush (n := 7) (v := 7) hx hb (by decide +kernel) (by decide) ?_
  refine nwA (t := 0) (N := 7) (Or.inl ⟨rfl, rfl, rfl⟩) X (by decide) (by decide) (by decide) (by decide) (by decide) hP hD hS (by decide +kernel) (fun q22 H22 hP hD hS => ?_)
  refine ptF (k := 27) (i := 77) (ci := 12) (v := .ref q22) (ty := .array .int) X hname (by decide +kernel) (by decide +kernel) (by decide +kernel) rfl rfl (by exact (show 27 < 88 from by decide)) hP hD hS (by decide +kernel) (fun G125 locs125 hP hD hS => ?_)
  refine lv_aload_n (k := 0) (i := 0) (x := a) hx hb (by decide +kernel) rfl (lv_at hl 0 rfl) ?_
  refine lv_iconst (n := 5) (v := 5) hx hb (by decide +kernel) (by decide) ?_
  refine nwA (t := 0) (N := 5) (Or.inl ⟨rfl, rfl, rfl⟩) X (by decide) (by decide) (by decide) (by decide) (by decide) hP hD hS (by decide +kernel) (fun q23 H23 hP hD hS => ?_)
  refine ptF (k := 28) (i := 80) (ci := 12) (v := .ref q23) (ty := .array .int) X hname (by decide +kernel) (by decide +kernel) (by decide +kernel) rfl rfl (by exact (show 28 < 88 from by decide)) hP hD hS (by decide +kernel) (fun G129 locs129 hP hD hS => ?_)
  refine lv_aload_n (k := 0) (i := 0) (x := a) hx hb (by decide +kernel) rfl (lv_at hl 0 rfl) ?_
  refine lv_bipush (n := 40) (v := 40) hx hb (by decide +kernel) (by decide) ?_
  refine nwA (t := 0) (N := 40) (Or.inl ⟨rfl, rfl, rfl⟩) X (by decide) (by decide) (by decide) (by decide) (by decide) hP hD hS (by decide +kernel) (fun q24 H24 hP hD hS => ?_)
  refine ptF (k := 29) (i := 83) (ci := 12) (v := .ref q24) (ty := .array .int) X hname (by decide +kernel) (by decide +kernel) (by decide +kernel) rfl rfl (by exact (show 29 < 88 from by decide)) hP hD hS (by decide +kernel) (fun G133 locs133 hP hD hS => ?_)
  refine lv_aload_n (k := 0) (i := 0) (x := a) hx hb (by decide +kernel) rfl (lv_at hl 0 rfl) ?_
  refine lv_sipush (n := 1200) (v := 1200) hx hb (by decide +kernel) (by decide) ?_
  refine nwA (t := 0) (N := 1200) (Or.inl ⟨rfl, rfl, rfl⟩) X (by decide) (by decide) (by decide) (by decide) (by decide) hP hD hS (by decide +kernel) (fun q25 H25 hP hD hS => ?_)
  refine ptF (k := 33) (i := 86) (ci := 12) (v := .ref q25) (ty := .array .int) X hname (by decide +kernel) (by decide +kernel) (by decide +kernel) rfl rfl (by exact (show 33 < 88 from by decide)) hP hD hS (by decide +kernel) (fun G137 locs137 hP hD hS => ?_)
  refine lv_aload_n (k := 0) (i := 0) (x := a) hx hb (by decide +kernel) rfl (lv_at hl 0 rfl) ?_
  refine lv_bipush (n := 30) (v := 30) hx hb (by decide +kernel) (by decide) ?_
  refine nwA (t := 0) (N := 30) (Or.inl ⟨rfl, rfl, rfl⟩) X (by decide) (by decide) (by decide) (by decide) (by decide) hP hD hS (by decide +kernel) (fun q26 H26 hP hD hS => ?_)
  refine ptF (k := 34) (i := 89) (ci := 12) (v := .ref q26) (ty := .array .int) X hname (by decide +kernel) (by decide +kernel) (by decide +kernel) rfl rfl (by exact (show 34 < 88 from by decide)) hP hD hS (by decide +kernel) (fun G141 locs141 hP hD hS => ?_)
  refine lv_aload_n (k := 0) (i := 0) (x := a) hx hb (by decide +kernel) rfl (lv_at hl 0 rfl) ?_
  refine lv_bipush (n := 60) (v := 60) hx hb (by decide +kernel) (by decide) ?_
  refine nwA (t := 1) (N := 60) (Or.inr ⟨rfl, rfl, rfl⟩) X (by decide) (by decide) (by decide) (by decide) (by decide) hP hD hS (by decide +kernel) (fun q27 H27 hP hD hS => ?_)
  refine ptF (k := 42) (i := 92) (ci := 12) (v := .ref q27) (ty := .array .boolean) X hname (by decide +kernel) (by decide +kernel) (by decide +kernel) rfl rfl (by exact (show 42 < 88 from by decide)) hP hD hS (by decide +kernel) (fun G145 locs145 hP hD hS => ?_)
  refine lv_aload_n (k := 0) (i := 0) (x := a) hx hb (by decide +kernel) rfl (lv_at hl 0 rfl) ?_
  refine lv_bipush (n := 60) (v := 60) hx hb (by decide +kernel) (by decide) ?_
  refine nwA (t := 0) (N := 60) (Or.inl ⟨rfl, rfl, rfl⟩) X (by decide) (by decide) (by decide) (by decide) (by decide) hP hD hS (by decide +kernel) (fun q28 H28 hP hD hS => ?_)
  refine ptF (k := 44) (i := 95) (ci := 12) (v := .ref q28) (ty := .array .int) X hname (by decide +kernel) (by decide +kernel) (by decide +kernel) rfl rfl (by exact (show 44 < 88 from by decide)) hP hD hS (by decide +kernel) (fun G149 locs149 hP hD hS => ?_)
  refine lv_aload_n (k := 0) (i := 0) (x := a) hx hb (by decide +kernel) rfl (lv_at hl 0 rfl) ?_
  refine lv_bipush (n := 40) (v := 40) hx hb (by decide +kernel) (by decide) ?_
  refine nwA (t := 0) (N := 40) (Or.inl ⟨rfl, rfl, rfl⟩) X (by decide) (by decide) (by decide) (by decide) (by decide) hP hD hS (by decide +kernel) (fun q29 H29 hP hD hS => ?_)
  refine ptF (k := 47) (i := 98) (ci := 12) (v := .ref q29) (ty := .array .int) X hname (by decide +kernel) (by decide +kernel) (by decide +kernel) rfl rfl (by exact (show 47 < 88 from by decide)) hP hD hS (by decide +kernel) (fun G153 locs153 hP hD hS => ?_)
  refine lv_aload_n (k := 0) (i := 0) (x := a) hx hb (by decide +kernel) rfl (lv_at hl 0 rfl) ?_
  refine lv_bipush (n := 40) (v := 40) hx hb (by decide +kernel) (by decide) ?_
  refine nwA (t := 0) (N := 40) (Or.inl ⟨rfl, rfl, rfl⟩) X (by decide) (by decide) (by decide) (by decide) (by decide) hP hD hS (by decide +kernel) (fun q30 H30 hP hD hS => ?_)
  refine ptF (k := 48) (i := 101) (ci := 12) (v := .ref q30) (ty := .array .int) X hname (by decide +kernel) (by decide +kernel) (by decide +kernel) rfl rfl (by exact (show 48 < 88 from by decide)) hP hD hS (by decide +kernel) (fun G157 locs157 hP hD hS => ?_)
  refine lv_aload_n (k := 0) (i := 0) (x := a) hx hb (by decide +kernel) rfl (lv_at hl 0 rfl) ?_
  refine lv_bipush (n := 40) (v := 40) hx hb (by decide +kernel) (by decide) ?_
  refine nwA (t := 0) (N := 40) (Or.inl ⟨rfl, rfl, rfl⟩) X (by decide) (by decide) (by decide) (by decide) (by decide) hP hD hS (by decide +kernel) (fun q31 H31 hP hD hS => ?_)
  refine ptF (k := 49) (i := 104) (ci := 12) (v := .ref q31) (ty := .array .int) X hname (by decide +kernel) (by decide +kernel) (by decide +kernel) rfl rfl (by exact (show 49 < 88 from by decide)) hP hD hS (by decide +kernel) (fun G161 locs161 hP hD hS => ?_)
  refine lv_aload_n (k := 0) (i := 0) (x := a) hx hb (by decide +kernel) rfl (lv_at hl 0 rfl) ?_
  refine lv_bipush (n := 30) (v := 30) hx hb (by decide +kernel) (by decide) ?_
  refine nwA (t := 0) (N := 30) (Or.inl ⟨rfl, rfl, rfl⟩) X (by decide) (by decide) (by decide) (by decide) (by decide) hP hD hS (by decide +kernel) (fun q32 H32 hP hD hS => ?_)
  refine ptF (k := 51) (i := 107) (ci := 12) (v := .ref q32) (ty := .array .int) X hname (by decide +kernel) (by decide +kernel) (by decide +kernel) rfl rfl (by exact (show 51 < 88 from by decide)) hP hD hS (by decide +kernel) (fun G165 locs165 hP hD hS => ?_)
  refine lv_aload_n (k := 0) (i := 0) (x := a) hx hb (by decide +kernel) rfl (lv_at hl 0 rfl) ?_
  refine lv_bipush (n := 30) (v := 30) hx hb (by decide +kernel) (by decide) ?_
  refine nwA (t := 0) (N := 30) (Or.inl ⟨rfl, rfl, rfl⟩) X (by decide) (by decide) (by decide) (by decide) (by decide) hP hD hS (by decide +kernel) (fun q33 H33 hP hD hS => ?_)
  refine ptF (k := 52) (i := 110) (ci := 12) (v := .ref q33) (ty := .array .int) X hname (by decide +kernel) (by decide +kernel) (by decide +kernel) rfl rfl (by exact (show 52 < 88 from by decide)) hP hD hS (by decide +kernel) (fun G169 locs169 hP hD hS => ?_)
  refine lv_aload_n (k := 0) (i := 0) (x := a) hx hb (by decide +kernel) rfl (lv_at hl 0 rfl) ?_
  refine lv_bipush (n := 30) (v := 30) hx hb (by decide +kernel) (by decide) ?_
  refine nwA (t := 0) (N := 30) (Or.inl ⟨rfl, rfl, rfl⟩) X (by decide) (by decide) (by decide) (by decide) (by decide) hP hD hS (by decide +kernel) (fun q34 H34 hP hD hS => ?_)
  refine ptF (k := 53) (i := 113) (ci := 12) (v := .ref q34) (ty := .array .int) X hname (by decide +kernel) (by decide +kernel) (by decide +kernel) rfl rfl (by exact (show 53 < 88 from by decide)) hP hD hS (by decide +kernel) (fun G173 locs173 hP hD hS => ?_)
  refine lv_aload_n (k := 0) (i := 0) (x := a) hx hb (by decide +kernel) rfl (lv_at hl 0 rfl) ?_
  refine lv_bipush (n := 40) (v := 40) hx hb (by decide +kernel) (by decide) ?_
  refine nwA (t := 0) (N := 40) (Or.inl ⟨rfl, rfl, rfl⟩) X (by decide) (by decide) (by decide) (by decide) (by decide) hP hD hS (by decide +kernel) (fun q35 H35 hP hD hS => ?_)
  refine ptF (k := 54) (i := 116) (ci := 12) (v := .ref q35) (ty := .array .int) X hname (by decide +kernel) (by decide +kernel) (by decide +kernel) rfl rfl (by exact (show 54 < 88 from by decide)) hP hD hS (by decide +kernel) (fun G177 locs177 hP hD hS => ?_)
  refine lv_aload_n (k := 0) (i := 0) (x := a) hx hb (by decide +kernel) rfl (lv_at hl 0 rfl) ?_
  refine lv_bipush (n := 40) (v := 40) hx hb (by decide +kernel) (by decide) ?_
  refine nwA (t := 0) (N := 40) (Or.inl ⟨rfl, rfl, rfl⟩) X (by decide) (by decide) (by decide) (by decide) (by decide) hP hD hS (by decide +kernel) (fun q36 H36 hP hD hS => ?_)
  refine ptF (k := 58) (i := 119) (ci := 12) (v := .ref q36) (ty := .array .int) X hname (by decide +kernel) (by decide +kernel) (by decide +kernel) rfl rfl (by exact (show 58 < 88 from by decide)) hP hD hS (by decide +kernel) (fun G181 locs181 hP hD hS => ?_)
  refine lv_aload_n (k := 0) (i := 0) (x := a) hx hb (by decide +kernel) rfl (lv_at hl 0 rfl) ?_
  refine lv_bipush (n := 40) (v := 40) hx hb (by decide +kernel) (by decide) ?_
  refine nwA (t := 0) (N := 40) (Or.inl ⟨rfl, rfl, rfl⟩) X (by decide) (by decide) (by decide) (by decide) (by decide) hP hD hS (by decide +kernel) (fun q37 H37 hP hD hS => ?_)
  refine ptF (k := 59) (i := 122) (ci := 12) (v := .ref q37) (ty := .array .int) X hname (by decide +kernel) (by decide +kernel) (by decide +kernel) rfl rfl (by exact (show 59 < 88 from by decide)) hP hD hS (by decide +kernel) (fun G185 locs185 hP hD hS => ?_)
  refine lv_aload_n (k := 0) (i := 0) (x := a) hx hb (by decide +kernel) rfl (lv_at hl 0 rfl) ?_
  refine lv_bipush (n := 40) (v := 40) hx hb (by decide +kernel) (by decide) ?_
  refine nwA (t := 1) (N := 40) (Or.inr ⟨rfl, rfl, rfl⟩) X (by decide) (by decide) (by decide) (by decide) (by decide) hP hD hS (by decide +kernel) (fun q38 H38 hP hD hS => ?_)
  refine ptF (k := 60) (i := 125) (ci := 12) (v := .ref q38) (ty := .array .boolean) X hname (by decide +kernel) (by decide +kernel) (by decide +kernel) rfl rfl (by exact (show 60 < 88 from by decide)) hP hD hS (by decide +kernel) (fun G189 locs189 hP hD hS => ?_)
  refine lv_aload_n (k := 0) (i := 0) (x := a) hx hb (by decide +kernel) rfl (lv_at hl 0 rfl) ?_
  refine lv_bipush (n := 9) (v := 9) hx hb (by decide +kernel) (by decide) ?_
  refine nwA (t := 0) (N := 9) (Or.inl ⟨rfl, rfl, rfl⟩) X (by decide) (by decide) (by decide) (by decide) (by decide) hP hD hS (by decide +kernel) (fun q39 H39 hP hD hS => ?_)
  refine ptF (k := 62) (i := 128) (ci := 12) (v := .ref q39) (ty := .array .int) X hname (by decide +kernel) (by decide +kernel) (by decide +kernel) rfl rfl (by exact (show 62 < 88 from by decide)) hP hD hS (by decide +kernel) (fun G193 locs193 hP hD hS => ?_)
  refine lv_aload_n (k := 0) (i := 0) (x := a) hx hb (by decide +kernel) rfl (lv_at hl 0 rfl) ?_
  refine lv_bipush (n := 9) (v := 9) hx hb (by decide +kernel) (by decide) ?_
  refine nwA (t := 0) (N := 9) (Or.inl ⟨rfl, rfl, rfl⟩) X (by decide) (by decide) (by decide) (by decide) (by decide) hP hD hS (by decide +kernel) (fun q40 H40 hP hD hS => ?_)
  refine ptF (k := 63) (i := 131) (ci := 12) (v := .ref q40) (ty := .array .int) X hname (by decide +kernel) (by decide +kernel) (by decide +kernel) rfl rfl (by exact (show 63 < 88 from by decide)) hP hD hS (by decide +kernel) (fun G197 locs197 hP hD hS => ?_)
  refine lv_aload_n (k := 0) (i := 0) (x := a) hx hb (by decide +kernel) rfl (lv_at hl 0 rfl) ?_
  refine lv_bipush (n := 9) (v := 9) hx hb (by decide +kernel) (by decide) ?_
  refine nwA (t := 0) (N := 9) (Or.inl ⟨rfl, rfl, rfl⟩) X (by decide) (by decide) (by decide) (by decide) (by decide) hP hD hS (by decide +kernel) (fun q41 H41 hP hD hS => ?_)
  refine ptF (k := 64) (i := 134) (ci := 12) (v := .ref q41) (ty := .array .int) X hname (by decide +kernel) (by decide +kernel) (by decide +kernel) rfl rfl (by exact (show 64 < 88 from by decide)) hP hD hS (by decide +kernel) (fun G201 locs201 hP hD hS => ?_)
  refine lv_aload_n (k := 0) (i := 0) (x := a) hx hb (by decide +kernel) rfl (lv_at hl 0 rfl) ?_
  refine lv_bipush (n := 9) (v := 9) hx hb (by decide +kernel) (by decide) ?_
  refine nwA (t := 0) (N := 9) (Or.inl ⟨rfl, rfl, rfl⟩) X (by decide) (by decide) (by decide) (by decide) (by decide) hP hD hS (by decide +kernel) (fun q42 H42 hP hD hS => ?_)
  refine ptF (k := 65) (i := 137) (ci := 12) (v := .ref q42) (ty := .array .int) X hname (by decide +kernel) (by decide +kernel) (by decide +kernel) rfl rfl (by exact (show 65 < 88 from by decide)) hP hD hS (by decide +kernel) (fun G205 locs205 hP hD hS => ?_)
  refine lv_aload_n (k := 0) (i := 0) (x := a) hx hb (by decide +kernel) rfl (lv_at hl 0 rfl) ?_
  refine lv_bipush (n := 16) (v := 16) hx hb (by decide +kernel) (by decide) ?_
  refine nwA (t := 0) (N := 16) (Or.inl ⟨rfl, rfl, rfl⟩) X (by decide) (by decide) (by decide) (by decide) (by decide) hP hD hS (by decide +kernel) (fun q43 H43 hP hD hS => ?_)
  refine ptF (k := 66) (i := 140) (ci := 12) (v := .ref q43) (ty := .array .int) X hname (by decide +kernel) (by decide +kernel) (by decide +kernel) rfl rfl (by exact (show 66 < 88 from by decide)) hP hD hS (by decide +kernel) (fun G209 locs209 hP hD hS => ?_)
  refine lv_aload_n (k := 0) (i := 0) (x := a) hx hb (by decide +kernel) rfl (lv_at hl 0 rfl) ?_
  refine lv_bipush (n := 16) (v := 16) hx hb (by decide +kernel) (by decide) ?_
  refine nwA (t := 0) (N := 16) (Or.inl ⟨rfl, rfl, rfl⟩) X (by decide) (by decide) (by decide) (by decide) (by decide) hP hD hS (by decide +kernel) (fun q44 H44 hP hD hS => ?_)
  refine ptF (k := 67) (i := 143) (ci := 12) (v := .ref q44) (ty := .array .int) X hname (by decide +kernel) (by decide +kernel) (by decide +kernel) rfl rfl (by exact (show 67 < 88 from by decide)) hP hD hS (by decide +kernel) (fun G213 locs213 hP hD hS => ?_)
  refine lv_aload_n (k := 0) (i := 0) (x := a) hx hb (by decide +kernel) rfl (lv_at hl 0 rfl) ?_
  refine lv_bipush (n := 16) (v := 16) hx hb (by decide +kernel) (by decide) ?_
  refine nwA (t := 0) (N := 16) (Or.inl ⟨rfl, rfl, rfl⟩) X (by decide) (by decide) (by decide) (by decide) (by decide) hP hD hS (by decide +kernel) (fun q45 H45 hP hD hS => ?_)
  refine ptF (k := 68) (i := 146) (ci := 12) (v := .ref q45) (ty := .array .int) X hname (by decide +kernel) (by decide +kernel) (by decide +kernel) rfl rfl (by exact (show 68 < 88 from by decide)) hP hD hS (by decide +kernel) (fun G217 locs217 hP hD hS => ?_)
  refine lv_aload_n (k := 0) (i := 0) (x := a) hx hb (by decide +kernel) rfl (lv_at hl 0 rfl) ?_
  refine lv_bipush (n := 16) (v := 16) hx hb (by decide +kernel) (by decide) ?_
  refine nwA (t := 0) (N := 16) (Or.inl ⟨rfl, rfl, rfl⟩) X (by decide) (by decide) (by decide) (by decide) (by decide) hP hD hS (by decide +kernel) (fun q46 H46 hP hD hS => ?_)
  refine ptF (k := 69) (i := 149) (ci := 12) (v := .ref q46) (ty := .array .int) X hname (by decide +kernel) (by decide +kernel) (by decide +kernel) rfl rfl (by exact (show 69 < 88 from by decide)) hP hD hS (by decide +kernel) (fun G221 locs221 hP hD hS => ?_)
  refine lv_aload_n (k := 0) (i := 0) (x := a) hx hb (by decide +kernel) rfl (lv_at hl 0 rfl) ?_
  refine lv_bipush (n := 16) (v := 16) hx hb (by decide +kernel) (by decide) ?_
  refine nwA (t := 0) (N := 16) (Or.inl ⟨rfl, rfl, rfl⟩) X (by decide) (by decide) (by decide) (by decide) (by decide) hP hD hS (by decide +kernel) (fun q47 H47 hP hD hS => ?_)
  refine ptF (k := 70) (i := 152) (ci := 12) (v := .ref q47) (ty := .array .int) X hname (by decide +kernel) (by decide +kernel) (by decide +kernel) rfl rfl (by exact (show 70 < 88 from by decide)) hP hD hS (by decide +kernel) (fun G225 locs225 hP hD hS => ?_)
  refine lv_aload_n (k := 0) (i := 0) (x := a) hx hb (by decide +kernel) rfl (lv_at hl 0 rfl) ?_
  refine lv_bipush (n := 40) (v := 40) hx hb (by decide +kernel) (by decide) ?_
  refine nwA (t := 1) (N := 40) (Or.inr ⟨rfl, rfl, rfl⟩) X (by decide) (by decide) (by decide) (by decide) (by decide) hP hD hS (by decide +kernel) (fun q48 H48 hP hD hS => ?_)
  refine ptF (k := 71) (i := 155) (ci := 12) (v := .ref q48) (ty := .array .boolean) X hname (by decide +kernel) (by decide +kernel) (by decide +kernel) rfl rfl (by exact (show 71 < 88 from by decide)) hP hD hS (by decide +kernel) (fun G229 locs229 hP hD hS => ?_)
  refine lv_aload_n (k := 0) (i := 0) (x := a) hx hb (by decide +kernel) rfl (lv_at hl 0 rfl) ?_
  refine lv_bipush (n := 72) (v := 72) hx hb (by decide +kernel) (by decide) ?_
  refine nwA (t := 0) (N := 72) (Or.inl ⟨rfl, rfl, rfl⟩) X (by decide) (by decide) (by decide) (by decide) (by decide) hP hD hS (by decide +kernel) (fun q49 H49 hP hD hS => ?_)
  refine ptF (k := 72) (i := 158) (ci := 12) (v := .ref q49) (ty := .array .int) X hname (by decide +kernel) (by decide +kernel) (by decide +kernel) rfl rfl (by exact (show 72 < 88 from by decide)) hP hD hS (by decide +kernel) (fun G233 locs233 hP hD hS => ?_)
  refine lv_aload_n (k := 0) (i := 0) (x := a) hx hb (by decide +kernel) rfl (lv_at hl 0 rfl) ?_
  refine lv_bipush (n := 8) (v := 8) hx hb (by decide +kernel) (by decide) ?_
  refine nwA (t := 0) (N := 8) (Or.inl ⟨rfl, rfl, rfl⟩) X (by decide) (by decide) (by decide) (by decide) (by decide) hP hD hS (by decide +kernel) (fun q50 H50 hP hD hS => ?_)
  refine ptF (k := 73) (i := 161) (ci := 12) (v := .ref q50) (ty := .array .int) X hname (by decide +kernel) (by decide +kernel) (by decide +kernel) rfl rfl (by exact (show 73 < 88 from by decide)) hP hD hS (by decide +kernel) (fun G237 locs237 hP hD hS => ?_)
  refine lv_aload_n (k := 0) (i := 0) (x := a) hx hb (by decide +kernel) rfl (lv_at hl 0 rfl) ?_
  refine lv_bipush (n := 8) (v := 8) hx hb (by decide +kernel) (by decide) ?_
  refine nwA (t := 0) (N := 8) (Or.inl ⟨rfl, rfl, rfl⟩) X (by decide) (by decide) (by decide) (by decide) (by decide) hP hD hS (by decide +kernel) (fun q51 H51 hP hD hS => ?_)
  refine ptF (k := 74) (i := 164) (ci := 12) (v := .ref q51) (ty := .array .int) X hname (by decide +kernel) (by decide +kernel) (by decide +kernel) rfl rfl (by exact (show 74 < 88 from by decide)) hP hD hS (by decide +kernel) (fun G241 locs241 hP hD hS => ?_)
  refine lv_aload_n (k := 0) (i := 0) (x := a) hx hb (by decide +kernel) rfl (lv_at hl 0 rfl) ?_
  refine lv_bipush (n := 40) (v := 40) hx hb (by decide +kernel) (by decide) ?_
  refine nwA (t := 0) (N := 40) (Or.inl ⟨rfl, rfl, rfl⟩) X (by decide) (by decide) (by decide) (by decide) (by decide) hP hD hS (by decide +kernel) (fun q52 H52 hP hD hS => ?_)
  refine ptF (k := 75) (i := 167) (ci := 12) (v := .ref q52) (ty := .array .int) X hname (by decide +kernel) (by decide +kernel) (by decide +kernel) rfl rfl (by exact (show 75 < 88 from by decide)) hP hD hS (by decide +kernel) (fun G245 locs245 hP hD hS => ?_)
  refine lv_aload_n (k := 0) (i := 0) (x := a) hx hb (by decide +kernel) rfl (lv_at hl 0 rfl) ?_
  refine lv_bipush (n := 40) (v := 40) hx hb (by decide +kernel) (by decide) ?_
  refine nwA (t := 0) (N := 40) (Or.inl ⟨rfl, rfl, rfl⟩) X (by decide) (by decide) (by decide) (by decide) (by decide) hP hD hS (by decide +kernel) (fun q53 H53 hP hD hS => ?_)
  refine ptF (k := 76) (i := 170) (ci := 12) (v := .ref q53) (ty := .array .int) X hname (by decide +kernel) (by decide +kernel) (by decide +kernel) rfl rfl (by exact (show 76 < 88 from by decide)) hP hD hS (by decide +kernel) (fun G249 locs249 hP hD hS => ?_)
  refine lv_aload_n (k := 0) (i := 0) (x := a) hx hb (by decide +kernel) rfl (lv_at hl 0 rfl) ?_
  refine lv_bipush (n := 45) (v := 45) hx hb (by decide +kernel) (by decide) ?_
  refine nwA (t := 1) (N := 45) (Or.inr ⟨rfl, rfl, rfl⟩) X (by decide) (by decide) (by decide) (by decide) (by decide) hP hD hS (by decide +kernel) (fun q54 H54 hP hD hS => ?_)
  refine ptF (k := 77) (i := 173) (ci := 12) (v := .ref q54) (ty := .array .boolean) X hname (by decide +kernel) (by decide +kernel) (by decide +kernel) rfl rfl (by exact (show 77 < 88 from by decide)) hP hD hS (by decide +kernel) (fun G253 locs253 hP hD hS => ?_)
  refine lv_aload_n (k := 0) (i := 0) (x := a) hx hb (by decide +kernel) rfl (lv_at hl 0 rfl) ?_
  refine lv_bipush (n := 9) (v := 9) hx hb (by decide +kernel) (by decide) ?_
  refine nwA (t := 0) (N := 9) (Or.inl ⟨rfl, rfl, rfl⟩) X (by decide) (by decide) (by decide) (by decide) (by decide) hP hD hS (by decide +kernel) (fun q55 H55 hP hD hS => ?_)
  refine ptF (k := 78) (i := 176) (ci := 12) (v := .ref q55) (ty := .array .int) X hname (by decide +kernel) (by decide +kernel) (by decide +kernel) rfl rfl (by exact (show 78 < 88 from by decide)) hP hD hS (by decide +kernel) (fun G257 locs257 hP hD hS => ?_)
  refine lv_aload_n (k := 0) (i := 0) (x := a) hx hb (by decide +kernel) rfl (lv_at hl 0 rfl) ?_
  refine lv_bipush (n := 9) (v := 9) hx hb (by decide +kernel) (by decide) ?_
  refine nwA (t := 0) (N := 9) (Or.inl ⟨rfl, rfl, rfl⟩) X (by decide) (by decide) (by decide) (by decide) (by decide) hP hD hS (by decide +kernel) (fun q56 H56 hP hD hS => ?_)
  refine ptF (k := 79) (i := 179) (ci := 12) (v := .ref q56) (ty := .array .int) X hname (by decide +kernel) (by decide +kernel) (by decide +kernel) rfl rfl (by exact (show 79 < 88 from by decide)) hP hD hS (by decide +kernel) (fun G261 locs261 hP hD hS => ?_)
  refine lv_aload_n (k := 0) (i := 0) (x := a) hx hb (by decide +kernel) rfl (lv_at hl 0 rfl) ?_
  refine lv_bipush (n := 10) (v := 10) hx hb (by decide +kernel) (by decide) ?_
  refine nwA (t := 0) (N := 10) (Or.inl ⟨rfl, rfl, rfl⟩) X (by decide) (by decide) (by decide) (by decide) (by decide) hP hD hS (by decide +kernel) (fun q57 H57 hP hD hS => ?_)
  refine ptF (k := 80) (i := 182) (ci := 12) (v := .ref q57) (ty := .array .int) X hname (by decide +kernel) (by decide +kernel) (by decide +kernel) rfl rfl (by exact (show 80 < 88 from by decide)) hP hD hS (by decide +kernel) (fun G265 locs265 hP hD hS => ?_)
  refine lv_aload_n (k := 0) (i := 0) (x := a) hx hb (by decide +kernel) rfl (lv_at hl 0 rfl) ?_
  refine lv_bipush (n := 6) (v := 6) hx hb (by decide +kernel) (by decide) ?_
  refine nwA (t := 0) (N := 6) (Or.inl ⟨rfl, rfl, rfl⟩) X (by decide) (by decide) (by decide) (by decide) (by decide) hP hD hS (by decide +kernel) (fun q58 H58 hP hD hS => ?_)
  refine ptF (k := 81) (i := 185) (ci := 12) (v := .ref q58) (ty := .array .int) X hname (by decide +kernel) (by decide +kernel) (by decide +kernel) rfl rfl (by exact (show 81 < 88 from by decide)) hP hD hS (by decide +kernel) (fun G269 locs269 hP hD hS => ?_)
  refine lv_aload_n (k := 0) (i := 0) (x := a) hx hb (by decide +kernel) rfl (lv_at hl 0 rfl) ?_
  refine lv_bipush (n := 10) (v := 10) hx hb (by decide +kernel) (by decide) ?_
  refine nwA (t := 0) (N := 10) (Or.inl ⟨rfl, rfl, rfl⟩) X (by decide) (by decide) (by decide) (by decide) (by decide) hP hD hS (by decide +kernel) (fun q59 H59 hP hD hS => ?_)
  refine ptF (k := 82) (i := 188) (ci := 12) (v := .ref q59) (ty := .array .int) X hname (by decide +kernel) (by decide +kernel) (by decide +kernel) rfl rfl (by exact (show 82 < 88 from by decide)) hP hD hS (by decide +kernel) (fun G273 locs273 hP hD hS => ?_)
  refine lv_aload_n (k := 0) (i := 0) (x := a) hx hb (by decide +kernel) rfl (lv_at hl 0 rfl) ?_
  refine lv_iconst (n := 4) (v := 4) hx hb (by decide +kernel) (by decide) ?_
  refine nwA (t := 0) (N := 4) (Or.inl ⟨rfl, rfl, rfl⟩) X (by decide) (by decide) (by decide) (by decide) (by decide) hP hD hS (by decide +kernel) (fun q60 H60 hP hD hS => ?_)
  refine ptF (k := 83) (i := 191) (ci := 12) (v := .ref q60) (ty := .array .int) X hname (by decide +kernel) (by decide +kernel) (by decide +kernel) rfl rfl (by exact (show 83 < 88 from by decide)) hP hD hS (by decide +kernel) (fun G277 locs277 hP hD hS => ?_)
  refine lv_aload_n (k := 0) (i := 0) (x := a) hx hb (by decide +kernel) rfl (lv_at hl 0 rfl) ?_
  refine lv_bipush (n := 20) (v := 20) hx hb (by decide +kernel) (by decide) ?_
  refine nwA (t := 0) (N := 20) (Or.inl ⟨rfl, rfl, rfl⟩) X (by decide) (by decide) (by decide) (by decide) (by decide) hP hD hS (by decide +kernel) (fun q61 H61 hP hD hS => ?_)
  refine ptF (k := 86) (i := 194) (ci := 12) (v := .ref q61) (ty := .array .int) X hname (by decide +kernel) (by decide +kernel) (by decide +kernel) rfl rfl (by exact (show 86 < 88 from by decide)) hP hD hS (by decide +kernel) (fun G281 locs281 hP hD hS => ?_)
  exact retC (q := fun t => ([fun _ => q0, fun _ => q1, fun _ => q2, fun _ => q3, fun _ => q4, fun _ => q5, fun _ => q6, fun _ => q7, fun _ => q8, fun _ => q9, fun _ => q10, fun _ => q11, fun _ => q12, fun _ => q13, fun _ => q14, fun _ => q15, fun _ => q16, fun _ => q17, fun _ => q18, fun _ => q19, fun _ => q20, fun _ => q21, fun _ => q22, fun _ => q23, fun _ => q24, fun _ => q25, fun _ => q26, fun _ => q27, fun _ => q28, fun _ => q29, fun _ => q30, fun _ => q31, fun _ => q32, fun _ => q33, fun _ => q34, fun _ => q35, fun _ => q36, fun _ => q37, fun _ => q38, fun _ => q39, fun _ => q40, fun _ => q41, fun _ => q42, fun _ => q43, fun _ => q44, fun _ => q45, fun _ => q46, fun _ => q47, fun _ => q48, fun _ => q49, fun _ => q50, fun _ => q51, fun _ => q52, fun _ => q53, fun _ => q54, fun _ => q55, fun _ => q56, fun _ => q57, fun _ => q58, fun _ => q59, fun _ => q60, fun _ => q61] : List (Nat → Nat)).getD t (fun _ => 0)) X hr hlocks (by decide +kernel) hP hD hS (fun z hz => hz) (fun h => h) (by decide) (by decide)
end
