/-! the constructors (printed by program) -/
section
variable {l : Launch} {kx : Nat → ClassId} {D : va_G} {s5 : Nat}
def shp10 (kx : Nat → ClassId) (s5 a : Nat) (q : Nat → Nat → Nat) : va_W := (a, .inr (0, [.ref (q 0 0), .ref (q 1 0), .ref (q 2 0), .ref (q 3 0), .int 0, .ref (q 4 0), .ref (q 5 0), .ref (q 6 0), .ref (q 7 0)])) :: ((q 7 0, .inl (kx 0, 16, .inl (fun _ => 0))) :: ((q 6 0, .inl (kx 0, 16, .inl (fun _ => 0))) :: ((q 5 0, .inl (kx 0, 16, .inl (fun _ => 0))) :: ((q 4 0, .inl (kx 0, 16, .inl (fun _ => 0))) :: ((q 3 0, .inl (kx 0, 9, .inl (fun _ => 0))) :: ((q 2 0, .inl (kx 0, 9, .inl (fun _ => 0))) :: ((q 1 0, .inl (kx 0, 9, .inl (fun _ => 0))) :: ((q 0 0, .inl (kx 0, 9, .inl (fun _ => 0))) :: []))))))))
set_option maxHeartbeats 4000000 in
set_option maxRecDepth 20000 in
theorem ct10 : MCT l kx D s5 10 0 { frames := 1, cells := 8, slots := 100, locals := 64 } [.null, .null, .null, .null, .int 0, .null, .null, .null, .null] (shp10 kx s5) := by
  refine mct_of (by decide +kernel) (by decide +kernel) (fun a p e s m args below meth c A ls X hN hname hr hlocks hP hD hl => ?_)
  obtain ⟨⟨hx, hb, hml⟩, hts, hown, hK, hA⟩ := id X
  have hS : va_S A s.heap s.heap [] := va_S.rf
  refine lv_aload_n (k := 0) (i := 0) (x := a) hx hb (by decide +kernel) rfl (lv_at hl 0 rfl) ?_
  refine obI (i := 3) X (tblG_of (by decide +kernel) rfl) hl.1 (by decide) (by decide) (by decide +kernel) ?_
  refine lv_aload_n (k := 0) (i := 0) (x := a) hx hb (by decide +kernel) rfl (lv_at hl 0 rfl) ?_
  refine lv_bipush (n := 9) (v := 9) hx hb (by decide +kernel) (by decide) ?_
  refine nwA (t := 0) (N := 9) (Or.inl ⟨rfl, rfl, rfl⟩) X (by decide) (by decide) (by decide) (by decide) (by decide) hP hD hS (by decide +kernel) (fun q0 H0 hP hD hS => ?_)
  refine ptF (k := 0) (i := 9) (ci := 0) (v := .ref q0) (ty := .array .int) X hname (by decide +kernel) (by decide +kernel) (by decide +kernel) rfl rfl (by exact (show 0 < 9 from by decide)) hP hD hS (by decide +kernel) (fun G5 locs5 hP hD hS => ?_)
  have hP : va_P D vwCl ((a, .inr (0, [.ref q0, .null, .null, .null, .int 0, .null, .null, .null, .null])) :: _) G5 := hP
  have hD : va_D A ((a, .inr (0, [.ref q0, .null, .null, .null, .int 0, .null, .null, .null, .null])) :: _) := hD
  refine lv_aload_n (k := 0) (i := 0) (x := a) hx hb (by decide +kernel) rfl (lv_at hl 0 rfl) ?_
  refine lv_bipush (n := 9) (v := 9) hx hb (by decide +kernel) (by decide) ?_
  refine nwA (t := 0) (N := 9) (Or.inl ⟨rfl, rfl, rfl⟩) X (by decide) (by decide) (by decide) (by decide) (by decide) hP hD hS (by decide +kernel) (fun q1 H1 hP hD hS => ?_)
  refine ptF (k := 1) (i := 15) (ci := 0) (v := .ref q1) (ty := .array .int) X hname (by decide +kernel) (by decide +kernel) (by decide +kernel) rfl rfl (by exact (show 1 < 9 from by decide)) hP hD hS (by decide +kernel) (fun G9 locs9 hP hD hS => ?_)
  have hP : va_P D vwCl ((a, .inr (0, [.ref q0, .ref q1, .null, .null, .int 0, .null, .null, .null, .null])) :: _) G9 := hP
  have hD : va_D A ((a, .inr (0, [.ref q0, .ref q1, .null, .null, .int 0, .null, .null, .null, .null])) :: _) := hD
  refine lv_aload_n (k := 0) (i := 0) (x := a) hx hb (by decide +kernel) rfl (lv_at hl 0 rfl) ?_
  refine lv_bipush (n := 9) (v := 9) hx hb (by decide +kernel) (by decide) ?_
  refine nwA (t := 0) (N := 9) (Or.inl ⟨rfl, rfl, rfl⟩) X (by decide) (by decide) (by decide) (by decide) (by decide) hP hD hS (by decide +kernel) (fun q2 H2 hP hD hS => ?_)
  refine ptF (k := 2) (i := 18) (ci := 0) (v := .ref q2) (ty := .array .int) X hname (by decide +kernel) (by decide +kernel) (by decide +kernel) rfl rfl (by exact (show 2 < 9 from by decide)) hP hD hS (by decide +kernel) (fun G13 locs13 hP hD hS => ?_)
  have hP : va_P D vwCl ((a, .inr (0, [.ref q0, .ref q1, .ref q2, .null, .int 0, .null, .null, .null, .null])) :: _) G13 := hP
  have hD : va_D A ((a, .inr (0, [.ref q0, .ref q1, .ref q2, .null, .int 0, .null, .null, .null, .null])) :: _) := hD
  refine lv_aload_n (k := 0) (i := 0) (x := a) hx hb (by decide +kernel) rfl (lv_at hl 0 rfl) ?_
  refine lv_bipush (n := 9) (v := 9) hx hb (by decide +kernel) (by decide) ?_
  refine nwA (t := 0) (N := 9) (Or.inl ⟨rfl, rfl, rfl⟩) X (by decide) (by decide) (by decide) (by decide) (by decide) hP hD hS (by decide +kernel) (fun q3 H3 hP hD hS => ?_)
  refine ptF (k := 3) (i := 21) (ci := 0) (v := .ref q3) (ty := .array .int) X hname (by decide +kernel) (by decide +kernel) (by decide +kernel) rfl rfl (by exact (show 3 < 9 from by decide)) hP hD hS (by decide +kernel) (fun G17 locs17 hP hD hS => ?_)
  have hP : va_P D vwCl ((a, .inr (0, [.ref q0, .ref q1, .ref q2, .ref q3, .int 0, .null, .null, .null, .null])) :: _) G17 := hP
  have hD : va_D A ((a, .inr (0, [.ref q0, .ref q1, .ref q2, .ref q3, .int 0, .null, .null, .null, .null])) :: _) := hD
  refine lv_aload_n (k := 0) (i := 0) (x := a) hx hb (by decide +kernel) rfl (lv_at hl 0 rfl) ?_
  refine lv_bipush (n := 16) (v := 16) hx hb (by decide +kernel) (by decide) ?_
  refine nwA (t := 0) (N := 16) (Or.inl ⟨rfl, rfl, rfl⟩) X (by decide) (by decide) (by decide) (by decide) (by decide) hP hD hS (by decide +kernel) (fun q4 H4 hP hD hS => ?_)
  refine ptF (k := 5) (i := 24) (ci := 0) (v := .ref q4) (ty := .array .int) X hname (by decide +kernel) (by decide +kernel) (by decide +kernel) rfl rfl (by exact (show 5 < 9 from by decide)) hP hD hS (by decide +kernel) (fun G21 locs21 hP hD hS => ?_)
  have hP : va_P D vwCl ((a, .inr (0, [.ref q0, .ref q1, .ref q2, .ref q3, .int 0, .ref q4, .null, .null, .null])) :: _) G21 := hP
  have hD : va_D A ((a, .inr (0, [.ref q0, .ref q1, .ref q2, .ref q3, .int 0, .ref q4, .null, .null, .null])) :: _) := hD
  refine lv_aload_n (k := 0) (i := 0) (x := a) hx hb (by decide +kernel) rfl (lv_at hl 0 rfl) ?_
  refine lv_bipush (n := 16) (v := 16) hx hb (by decide +kernel) (by decide) ?_
  refine nwA (t := 0) (N := 16) (Or.inl ⟨rfl, rfl, rfl⟩) X (by decide) (by decide) (by decide) (by decide) (by decide) hP hD hS (by decide +kernel) (fun q5 H5 hP hD hS => ?_)
  refine ptF (k := 6) (i := 27) (ci := 0) (v := .ref q5) (ty := .array .int) X hname (by decide +kernel) (by decide +kernel) (by decide +kernel) rfl rfl (by exact (show 6 < 9 from by decide)) hP hD hS (by decide +kernel) (fun G25 locs25 hP hD hS => ?_)
  have hP : va_P D vwCl ((a, .inr (0, [.ref q0, .ref q1, .ref q2, .ref q3, .int 0, .ref q4, .ref q5, .null, .null])) :: _) G25 := hP
  have hD : va_D A ((a, .inr (0, [.ref q0, .ref q1, .ref q2, .ref q3, .int 0, .ref q4, .ref q5, .null, .null])) :: _) := hD
  refine lv_aload_n (k := 0) (i := 0) (x := a) hx hb (by decide +kernel) rfl (lv_at hl 0 rfl) ?_
  refine lv_bipush (n := 16) (v := 16) hx hb (by decide +kernel) (by decide) ?_
  refine nwA (t := 0) (N := 16) (Or.inl ⟨rfl, rfl, rfl⟩) X (by decide) (by decide) (by decide) (by decide) (by decide) hP hD hS (by decide +kernel) (fun q6 H6 hP hD hS => ?_)
  refine ptF (k := 7) (i := 30) (ci := 0) (v := .ref q6) (ty := .array .int) X hname (by decide +kernel) (by decide +kernel) (by decide +kernel) rfl rfl (by exact (show 7 < 9 from by decide)) hP hD hS (by decide +kernel) (fun G29 locs29 hP hD hS => ?_)
  have hP : va_P D vwCl ((a, .inr (0, [.ref q0, .ref q1, .ref q2, .ref q3, .int 0, .ref q4, .ref q5, .ref q6, .null])) :: _) G29 := hP
  have hD : va_D A ((a, .inr (0, [.ref q0, .ref q1, .ref q2, .ref q3, .int 0, .ref q4, .ref q5, .ref q6, .null])) :: _) := hD
  refine lv_aload_n (k := 0) (i := 0) (x := a) hx hb (by decide +kernel) rfl (lv_at hl 0 rfl) ?_
  refine lv_bipush (n := 16) (v := 16) hx hb (by decide +kernel) (by decide) ?_
  refine nwA (t := 0) (N := 16) (Or.inl ⟨rfl, rfl, rfl⟩) X (by decide) (by decide) (by decide) (by decide) (by decide) hP hD hS (by decide +kernel) (fun q7 H7 hP hD hS => ?_)
  refine ptF (k := 8) (i := 33) (ci := 0) (v := .ref q7) (ty := .array .int) X hname (by decide +kernel) (by decide +kernel) (by decide +kernel) rfl rfl (by exact (show 8 < 9 from by decide)) hP hD hS (by decide +kernel) (fun G33 locs33 hP hD hS => ?_)
  have hP : va_P D vwCl ((a, .inr (0, [.ref q0, .ref q1, .ref q2, .ref q3, .int 0, .ref q4, .ref q5, .ref q6, .ref q7])) :: _) G33 := hP
  have hD : va_D A ((a, .inr (0, [.ref q0, .ref q1, .ref q2, .ref q3, .int 0, .ref q4, .ref q5, .ref q6, .ref q7])) :: _) := hD
  exact retC (q := fun t => ([fun _ => q0, fun _ => q1, fun _ => q2, fun _ => q3, fun _ => q4, fun _ => q5, fun _ => q6, fun _ => q7] : List (Nat → Nat)).getD t (fun _ => 0)) X hr hlocks (by decide +kernel) hP hD hS (fun z hz => hz) (fun h => h) (by decide) (by decide)
def shp11 (kx : Nat → ClassId) (s5 a : Nat) (q : Nat → Nat → Nat) : va_W := (a, .inr (1, [.ref (q 0 0), .ref (q 2 0), .ref (q 3 0), .ref (q 4 0), .ref (q 6 0)])) :: ((q 6 0, .inl (kx 2, 8, .inr (.inr (.inr (.inr (fun j => if j < 8 then some (q 7 j) else none)))))) :: ((List.range 8).map (fun j => ((q 7 j, .inl (kx 0, 5, .inl fun _ => 0)) : Nat × va_E)) ++ ((q 4 0, .inl (kx 2, 8, .inr (.inr (.inr (.inr (fun j => if j < 8 then some (q 5 j) else none)))))) :: ((List.range 8).map (fun j => ((q 5 j, .inl (kx 0, 5, .inl fun _ => 0)) : Nat × va_E)) ++ ((q 3 0, .inl (kx 0, 8, .inl (fun _ => 0))) :: ((q 2 0, .inl (kx 0, 8, .inl (fun _ => 0))) :: ((q 0 0, .inl (kx 2, 8, .inr (.inr (.inr (.inr (fun j => if j < 8 then some (q 1 j) else none)))))) :: ((List.range 8).map (fun j => ((q 1 j, .inl (kx 0, 9, .inl fun _ => 0)) : Nat × va_E)) ++ []))))))))
set_option maxHeartbeats 4000000 in
set_option maxRecDepth 20000 in
theorem ct11 : MCT l kx D s5 11 1 { frames := 1, cells := 29, slots := 192, locals := 64 } [.null, .null, .null, .null, .null] (shp11 kx s5) := by
  refine mct_of (by decide +kernel) (by decide +kernel) (fun a p e s m args below meth c A ls X hN hname hr hlocks hP hD hl => ?_)
  obtain ⟨⟨hx, hb, hml⟩, hts, hown, hK, hA⟩ := id X
  have hS : va_S A s.heap s.heap [] := va_S.rf
  refine lv_aload_n (k := 0) (i := 0) (x := a) hx hb (by decide +kernel) rfl (lv_at hl 0 rfl) ?_
  refine obI (i := 3) X (tblG_of (by decide +kernel) rfl) hl.1 (by decide) (by decide) (by decide +kernel) ?_
  refine lv_aload_n (k := 0) (i := 0) (x := a) hx hb (by decide +kernel) rfl (lv_at hl 0 rfl) ?_
  refine lv_bipush (n := 8) (v := 8) hx hb (by decide +kernel) (by decide) ?_
  refine lv_bipush (n := 9) (v := 9) hx hb (by decide +kernel) (by decide) ?_
  refine nwM (i := 9) (N := 8) (K := 9) X hN (tblG_of (by decide +kernel) rfl) (by decide) (by decide) (by decide) (by decide) (by decide) (by decide) (by decide) hP hD hS (by decide +kernel) (fun q0 r0 H0 hP hD hS => ?_)
  refine ptF (k := 0) (i := 11) (ci := 1) (v := .ref q0) (ty := .array (.array .int)) X hname (by decide +kernel) (by decide +kernel) (by decide +kernel) rfl rfl (by exact (show 0 < 5 from by decide)) hP hD hS (by decide +kernel) (fun G6 locs6 hP hD hS => ?_)
  have hP : va_P D vwCl ((a, .inr (1, [.ref q0, .null, .null, .null, .null])) :: _) G6 := hP
  have hD : va_D A ((a, .inr (1, [.ref q0, .null, .null, .null, .null])) :: _) := hD
  refine lv_aload_n (k := 0) (i := 0) (x := a) hx hb (by decide +kernel) rfl (lv_at hl 0 rfl) ?_
  refine lv_bipush (n := 8) (v := 8) hx hb (by decide +kernel) (by decide) ?_
  refine nwA (t := 0) (N := 8) (Or.inl ⟨rfl, rfl, rfl⟩) X (by decide) (by decide) (by decide) (by decide) (by decide) hP hD hS (by decide +kernel) (fun q2 H2 hP hD hS => ?_)
  refine ptF (k := 1) (i := 16) (ci := 1) (v := .ref q2) (ty := .array .int) X hname (by decide +kernel) (by decide +kernel) (by decide +kernel) rfl rfl (by exact (show 1 < 5 from by decide)) hP hD hS (by decide +kernel) (fun G10 locs10 hP hD hS => ?_)
  have hP : va_P D vwCl ((a, .inr (1, [.ref q0, .ref q2, .null, .null, .null])) :: _) G10 := hP
  have hD : va_D A ((a, .inr (1, [.ref q0, .ref q2, .null, .null, .null])) :: _) := hD
  refine lv_aload_n (k := 0) (i := 0) (x := a) hx hb (by decide +kernel) rfl (lv_at hl 0 rfl) ?_
  refine lv_bipush (n := 8) (v := 8) hx hb (by decide +kernel) (by decide) ?_
  refine nwA (t := 0) (N := 8) (Or.inl ⟨rfl, rfl, rfl⟩) X (by decide) (by decide) (by decide) (by decide) (by decide) hP hD hS (by decide +kernel) (fun q3 H3 hP hD hS => ?_)
  refine ptF (k := 2) (i := 20) (ci := 1) (v := .ref q3) (ty := .array .int) X hname (by decide +kernel) (by decide +kernel) (by decide +kernel) rfl rfl (by exact (show 2 < 5 from by decide)) hP hD hS (by decide +kernel) (fun G14 locs14 hP hD hS => ?_)
  have hP : va_P D vwCl ((a, .inr (1, [.ref q0, .ref q2, .ref q3, .null, .null])) :: _) G14 := hP
  have hD : va_D A ((a, .inr (1, [.ref q0, .ref q2, .ref q3, .null, .null])) :: _) := hD
  refine lv_aload_n (k := 0) (i := 0) (x := a) hx hb (by decide +kernel) rfl (lv_at hl 0 rfl) ?_
  refine lv_bipush (n := 8) (v := 8) hx hb (by decide +kernel) (by decide) ?_
  refine lv_iconst (n := 5) (v := 5) hx hb (by decide +kernel) (by decide) ?_
  refine nwM (i := 9) (N := 8) (K := 5) X hN (tblG_of (by decide +kernel) rfl) (by decide) (by decide) (by decide) (by decide) (by decide) (by decide) (by decide) hP hD hS (by decide +kernel) (fun q4 r4 H4 hP hD hS => ?_)
  refine ptF (k := 3) (i := 23) (ci := 1) (v := .ref q4) (ty := .array (.array .int)) X hname (by decide +kernel) (by decide +kernel) (by decide +kernel) rfl rfl (by exact (show 3 < 5 from by decide)) hP hD hS (by decide +kernel) (fun G19 locs19 hP hD hS => ?_)
  have hP : va_P D vwCl ((a, .inr (1, [.ref q0, .ref q2, .ref q3, .ref q4, .null])) :: _) G19 := hP
  have hD : va_D A ((a, .inr (1, [.ref q0, .ref q2, .ref q3, .ref q4, .null])) :: _) := hD
  refine lv_aload_n (k := 0) (i := 0) (x := a) hx hb (by decide +kernel) rfl (lv_at hl 0 rfl) ?_
  refine lv_bipush (n := 8) (v := 8) hx hb (by decide +kernel) (by decide) ?_
  refine lv_iconst (n := 5) (v := 5) hx hb (by decide +kernel) (by decide) ?_
  refine nwM (i := 9) (N := 8) (K := 5) X hN (tblG_of (by decide +kernel) rfl) (by decide) (by decide) (by decide) (by decide) (by decide) (by decide) (by decide) hP hD hS (by decide +kernel) (fun q6 r6 H6 hP hD hS => ?_)
  refine ptF (k := 4) (i := 26) (ci := 1) (v := .ref q6) (ty := .array (.array .int)) X hname (by decide +kernel) (by decide +kernel) (by decide +kernel) rfl rfl (by exact (show 4 < 5 from by decide)) hP hD hS (by decide +kernel) (fun G24 locs24 hP hD hS => ?_)
  have hP : va_P D vwCl ((a, .inr (1, [.ref q0, .ref q2, .ref q3, .ref q4, .ref q6])) :: _) G24 := hP
  have hD : va_D A ((a, .inr (1, [.ref q0, .ref q2, .ref q3, .ref q4, .ref q6])) :: _) := hD
  exact retC (q := fun t => ([fun _ => q0, r0, fun _ => q2, fun _ => q3, fun _ => q4, r4, fun _ => q6, r6] : List (Nat → Nat)).getD t (fun _ => 0)) X hr hlocks (by decide +kernel) hP hD hS (fun z hz => hz) (fun h => h) (by decide) (by decide)
def shp9 (kx : Nat → ClassId) (s5 a : Nat) (q : Nat → Nat → Nat) : va_W := (a, .inr (2, [.ref (q 0 0), .int 0, .ref (q 1 0), .ref (q 2 0), .ref (q 3 0)])) :: ((q 3 0, .inl (kx 1, 40, .inl (fun _ => 0))) :: ((q 2 0, .inl (kx 0, 40, .inl (fun _ => 0))) :: ((q 1 0, .inl (kx 0, 8, .inl (fun _ => 0))) :: ((q 0 0, .inl (kx 0, 40, .inl (fun _ => 0))) :: []))))
set_option maxHeartbeats 4000000 in
set_option maxRecDepth 20000 in
theorem ct9 : MCT l kx D s5 9 2 { frames := 1, cells := 4, slots := 128, locals := 64 } [.null, .int 0, .null, .null, .null] (shp9 kx s5) := by
  refine mct_of (by decide +kernel) (by decide +kernel) (fun a p e s m args below meth c A ls X hN hname hr hlocks hP hD hl => ?_)
  obtain ⟨⟨hx, hb, hml⟩, hts, hown, hK, hA⟩ := id X
  have hS : va_S A s.heap s.heap [] := va_S.rf
  refine lv_aload_n (k := 0) (i := 0) (x := a) hx hb (by decide +kernel) rfl (lv_at hl 0 rfl) ?_
  refine obI (i := 3) X (tblG_of (by decide +kernel) rfl) hl.1 (by decide) (by decide) (by decide +kernel) ?_
  refine lv_aload_n (k := 0) (i := 0) (x := a) hx hb (by decide +kernel) rfl (lv_at hl 0 rfl) ?_
  refine lv_bipush (n := 40) (v := 40) hx hb (by decide +kernel) (by decide) ?_
  refine nwA (t := 0) (N := 40) (Or.inl ⟨rfl, rfl, rfl⟩) X (by decide) (by decide) (by decide) (by decide) (by decide) hP hD hS (by decide +kernel) (fun q0 H0 hP hD hS => ?_)
  refine ptF (k := 0) (i := 11) (ci := 2) (v := .ref q0) (ty := .array .int) X hname (by decide +kernel) (by decide +kernel) (by decide +kernel) rfl rfl (by exact (show 0 < 5 from by decide)) hP hD hS (by decide +kernel) (fun G5 locs5 hP hD hS => ?_)
  have hP : va_P D vwCl ((a, .inr (2, [.ref q0, .int 0, .null, .null, .null])) :: _) G5 := hP
  have hD : va_D A ((a, .inr (2, [.ref q0, .int 0, .null, .null, .null])) :: _) := hD
  refine lv_aload_n (k := 0) (i := 0) (x := a) hx hb (by decide +kernel) rfl (lv_at hl 0 rfl) ?_
  refine lv_bipush (n := 8) (v := 8) hx hb (by decide +kernel) (by decide) ?_
  refine nwA (t := 0) (N := 8) (Or.inl ⟨rfl, rfl, rfl⟩) X (by decide) (by decide) (by decide) (by decide) (by decide) hP hD hS (by decide +kernel) (fun q1 H1 hP hD hS => ?_)
  refine ptF (k := 2) (i := 15) (ci := 2) (v := .ref q1) (ty := .array .int) X hname (by decide +kernel) (by decide +kernel) (by decide +kernel) rfl rfl (by exact (show 2 < 5 from by decide)) hP hD hS (by decide +kernel) (fun G9 locs9 hP hD hS => ?_)
  have hP : va_P D vwCl ((a, .inr (2, [.ref q0, .int 0, .ref q1, .null, .null])) :: _) G9 := hP
  have hD : va_D A ((a, .inr (2, [.ref q0, .int 0, .ref q1, .null, .null])) :: _) := hD
  refine lv_aload_n (k := 0) (i := 0) (x := a) hx hb (by decide +kernel) rfl (lv_at hl 0 rfl) ?_
  refine lv_bipush (n := 40) (v := 40) hx hb (by decide +kernel) (by decide) ?_
  refine nwA (t := 0) (N := 40) (Or.inl ⟨rfl, rfl, rfl⟩) X (by decide) (by decide) (by decide) (by decide) (by decide) hP hD hS (by decide +kernel) (fun q2 H2 hP hD hS => ?_)
  refine ptF (k := 3) (i := 18) (ci := 2) (v := .ref q2) (ty := .array .int) X hname (by decide +kernel) (by decide +kernel) (by decide +kernel) rfl rfl (by exact (show 3 < 5 from by decide)) hP hD hS (by decide +kernel) (fun G13 locs13 hP hD hS => ?_)
  have hP : va_P D vwCl ((a, .inr (2, [.ref q0, .int 0, .ref q1, .ref q2, .null])) :: _) G13 := hP
  have hD : va_D A ((a, .inr (2, [.ref q0, .int 0, .ref q1, .ref q2, .null])) :: _) := hD
  refine lv_aload_n (k := 0) (i := 0) (x := a) hx hb (by decide +kernel) rfl (lv_at hl 0 rfl) ?_
  refine lv_bipush (n := 40) (v := 40) hx hb (by decide +kernel) (by decide) ?_
  refine nwA (t := 1) (N := 40) (Or.inr ⟨rfl, rfl, rfl⟩) X (by decide) (by decide) (by decide) (by decide) (by decide) hP hD hS (by decide +kernel) (fun q3 H3 hP hD hS => ?_)
  refine ptF (k := 4) (i := 21) (ci := 2) (v := .ref q3) (ty := .array .boolean) X hname (by decide +kernel) (by decide +kernel) (by decide +kernel) rfl rfl (by exact (show 4 < 5 from by decide)) hP hD hS (by decide +kernel) (fun G17 locs17 hP hD hS => ?_)
  have hP : va_P D vwCl ((a, .inr (2, [.ref q0, .int 0, .ref q1, .ref q2, .ref q3])) :: _) G17 := hP
  have hD : va_D A ((a, .inr (2, [.ref q0, .int 0, .ref q1, .ref q2, .ref q3])) :: _) := hD
  exact retC (q := fun t => ([fun _ => q0, fun _ => q1, fun _ => q2, fun _ => q3] : List (Nat → Nat)).getD t (fun _ => 0)) X hr hlocks (by decide +kernel) hP hD hS (fun z hz => hz) (fun h => h) (by decide) (by decide)
def shp4 (kx : Nat → ClassId) (s5 a : Nat) (q : Nat → Nat → Nat) : va_W := (a, .inr (3, [.ref (q 0 0), .ref (q 1 0), .ref (q 2 0), .ref (q 3 0), .ref (q 4 0), .int 0, .ref (q 5 0), .ref (q 6 0), .ref (q 7 0), .ref (q 8 0), .ref (q 9 0), .ref (q 10 0), .int 0, .ref (q 11 0)])) :: ((q 11 0, .inl (kx 0, 5, .inl (fun _ => 0))) :: ((q 10 0, .inl (kx 0, 80, .inl (fun _ => 0))) :: ((q 9 0, .inl (kx 0, 80, .inl (fun _ => 0))) :: ((q 8 0, .inl (kx 0, 80, .inl (fun _ => 0))) :: ((q 7 0, .inl (kx 0, 80, .inl (fun _ => 0))) :: ((q 6 0, .inl (kx 0, 80, .inl (fun _ => 0))) :: ((q 5 0, .inl (kx 0, 80, .inl (fun _ => 0))) :: ((q 4 0, .inl (kx 1, 40, .inl (fun _ => 0))) :: ((q 3 0, .inl (kx 0, 40, .inl (fun _ => 0))) :: ((q 2 0, .inl (kx 0, 40, .inl (fun _ => 0))) :: ((q 1 0, .inl (kx 0, 40, .inl (fun _ => 0))) :: ((q 0 0, .inl (kx 0, 40, .inl (fun _ => 0))) :: []))))))))))))
set_option maxHeartbeats 4000000 in
set_option maxRecDepth 20000 in
theorem ct4 : MCT l kx D s5 4 3 { frames := 1, cells := 12, slots := 685, locals := 64 } [.null, .null, .null, .null, .null, .int 0, .null, .null, .null, .null, .null, .null, .int 0, .null] (shp4 kx s5) := by
  refine mct_of (by decide +kernel) (by decide +kernel) (fun a p e s m args below meth c A ls X hN hname hr hlocks hP hD hl => ?_)
  obtain ⟨⟨hx, hb, hml⟩, hts, hown, hK, hA⟩ := id X
  have hS : va_S A s.heap s.heap [] := va_S.rf
  refine lv_aload_n (k := 0) (i := 0) (x := a) hx hb (by decide +kernel) rfl (lv_at hl 0 rfl) ?_
  refine obI (i := 3) X (tblG_of (by decide +kernel) rfl) hl.1 (by decide) (by decide) (by decide +kernel) ?_
  refine lv_aload_n (k := 0) (i := 0) (x := a) hx hb (by decide +kernel) rfl (lv_at hl 0 rfl) ?_
  refine lv_bipush (n := 40) (v := 40) hx hb (by decide +kernel) (by decide) ?_
  refine nwA (t := 0) (N := 40) (Or.inl ⟨rfl, rfl, rfl⟩) X (by decide) (by decide) (by decide) (by decide) (by decide) hP hD hS (by decide +kernel) (fun q0 H0 hP hD hS => ?_)
  refine ptF (k := 0) (i := 11) (ci := 3) (v := .ref q0) (ty := .array .int) X hname (by decide +kernel) (by decide +kernel) (by decide +kernel) rfl rfl (by exact (show 0 < 14 from by decide)) hP hD hS (by decide +kernel) (fun G5 locs5 hP hD hS => ?_)
  have hP : va_P D vwCl ((a, .inr (3, [.ref q0, .null, .null, .null, .null, .int 0, .null, .null, .null, .null, .null, .null, .int 0, .null])) :: _) G5 := hP
  have hD : va_D A ((a, .inr (3, [.ref q0, .null, .null, .null, .null, .int 0, .null, .null, .null, .null, .null, .null, .int 0, .null])) :: _) := hD
  refine lv_aload_n (k := 0) (i := 0) (x := a) hx hb (by decide +kernel) rfl (lv_at hl 0 rfl) ?_
  refine lv_bipush (n := 40) (v := 40) hx hb (by decide +kernel) (by decide) ?_
  refine nwA (t := 0) (N := 40) (Or.inl ⟨rfl, rfl, rfl⟩) X (by decide) (by decide) (by decide) (by decide) (by decide) hP hD hS (by decide +kernel) (fun q1 H1 hP hD hS => ?_)
  refine ptF (k := 1) (i := 15) (ci := 3) (v := .ref q1) (ty := .array .int) X hname (by decide +kernel) (by decide +kernel) (by decide +kernel) rfl rfl (by exact (show 1 < 14 from by decide)) hP hD hS (by decide +kernel) (fun G9 locs9 hP hD hS => ?_)
  have hP : va_P D vwCl ((a, .inr (3, [.ref q0, .ref q1, .null, .null, .null, .int 0, .null, .null, .null, .null, .null, .null, .int 0, .null])) :: _) G9 := hP
  have hD : va_D A ((a, .inr (3, [.ref q0, .ref q1, .null, .null, .null, .int 0, .null, .null, .null, .null, .null, .null, .int 0, .null])) :: _) := hD
  refine lv_aload_n (k := 0) (i := 0) (x := a) hx hb (by decide +kernel) rfl (lv_at hl 0 rfl) ?_
  refine lv_bipush (n := 40) (v := 40) hx hb (by decide +kernel) (by decide) ?_
  refine nwA (t := 0) (N := 40) (Or.inl ⟨rfl, rfl, rfl⟩) X (by decide) (by decide) (by decide) (by decide) (by decide) hP hD hS (by decide +kernel) (fun q2 H2 hP hD hS => ?_)
  refine ptF (k := 2) (i := 18) (ci := 3) (v := .ref q2) (ty := .array .int) X hname (by decide +kernel) (by decide +kernel) (by decide +kernel) rfl rfl (by exact (show 2 < 14 from by decide)) hP hD hS (by decide +kernel) (fun G13 locs13 hP hD hS => ?_)
  have hP : va_P D vwCl ((a, .inr (3, [.ref q0, .ref q1, .ref q2, .null, .null, .int 0, .null, .null, .null, .null, .null, .null, .int 0, .null])) :: _) G13 := hP
  have hD : va_D A ((a, .inr (3, [.ref q0, .ref q1, .ref q2, .null, .null, .int 0, .null, .null, .null, .null, .null, .null, .int 0, .null])) :: _) := hD
  refine lv_aload_n (k := 0) (i := 0) (x := a) hx hb (by decide +kernel) rfl (lv_at hl 0 rfl) ?_
  refine lv_bipush (n := 40) (v := 40) hx hb (by decide +kernel) (by decide) ?_
  refine nwA (t := 0) (N := 40) (Or.inl ⟨rfl, rfl, rfl⟩) X (by decide) (by decide) (by decide) (by decide) (by decide) hP hD hS (by decide +kernel) (fun q3 H3 hP hD hS => ?_)
  refine ptF (k := 3) (i := 21) (ci := 3) (v := .ref q3) (ty := .array .int) X hname (by decide +kernel) (by decide +kernel) (by decide +kernel) rfl rfl (by exact (show 3 < 14 from by decide)) hP hD hS (by decide +kernel) (fun G17 locs17 hP hD hS => ?_)
  have hP : va_P D vwCl ((a, .inr (3, [.ref q0, .ref q1, .ref q2, .ref q3, .null, .int 0, .null, .null, .null, .null, .null, .null, .int 0, .null])) :: _) G17 := hP
  have hD : va_D A ((a, .inr (3, [.ref q0, .ref q1, .ref q2, .ref q3, .null, .int 0, .null, .null, .null, .null, .null, .null, .int 0, .null])) :: _) := hD
  refine lv_aload_n (k := 0) (i := 0) (x := a) hx hb (by decide +kernel) rfl (lv_at hl 0 rfl) ?_
  refine lv_bipush (n := 40) (v := 40) hx hb (by decide +kernel) (by decide) ?_
  refine nwA (t := 1) (N := 40) (Or.inr ⟨rfl, rfl, rfl⟩) X (by decide) (by decide) (by decide) (by decide) (by decide) hP hD hS (by decide +kernel) (fun q4 H4 hP hD hS => ?_)
  refine ptF (k := 4) (i := 24) (ci := 3) (v := .ref q4) (ty := .array .boolean) X hname (by decide +kernel) (by decide +kernel) (by decide +kernel) rfl rfl (by exact (show 4 < 14 from by decide)) hP hD hS (by decide +kernel) (fun G21 locs21 hP hD hS => ?_)
  have hP : va_P D vwCl ((a, .inr (3, [.ref q0, .ref q1, .ref q2, .ref q3, .ref q4, .int 0, .null, .null, .null, .null, .null, .null, .int 0, .null])) :: _) G21 := hP
  have hD : va_D A ((a, .inr (3, [.ref q0, .ref q1, .ref q2, .ref q3, .ref q4, .int 0, .null, .null, .null, .null, .null, .null, .int 0, .null])) :: _) := hD
  refine lv_aload_n (k := 0) (i := 0) (x := a) hx hb (by decide +kernel) rfl (lv_at hl 0 rfl) ?_
  refine lv_bipush (n := 80) (v := 80) hx hb (by decide +kernel) (by decide) ?_
  refine nwA (t := 0) (N := 80) (Or.inl ⟨rfl, rfl, rfl⟩) X (by decide) (by decide) (by decide) (by decide) (by decide) hP hD hS (by decide +kernel) (fun q5 H5 hP hD hS => ?_)
  refine ptF (k := 6) (i := 28) (ci := 3) (v := .ref q5) (ty := .array .int) X hname (by decide +kernel) (by decide +kernel) (by decide +kernel) rfl rfl (by exact (show 6 < 14 from by decide)) hP hD hS (by decide +kernel) (fun G25 locs25 hP hD hS => ?_)
  have hP : va_P D vwCl ((a, .inr (3, [.ref q0, .ref q1, .ref q2, .ref q3, .ref q4, .int 0, .ref q5, .null, .null, .null, .null, .null, .int 0, .null])) :: _) G25 := hP
  have hD : va_D A ((a, .inr (3, [.ref q0, .ref q1, .ref q2, .ref q3, .ref q4, .int 0, .ref q5, .null, .null, .null, .null, .null, .int 0, .null])) :: _) := hD
  refine lv_aload_n (k := 0) (i := 0) (x := a) hx hb (by decide +kernel) rfl (lv_at hl 0 rfl) ?_
  refine lv_bipush (n := 80) (v := 80) hx hb (by decide +kernel) (by decide) ?_
  refine nwA (t := 0) (N := 80) (Or.inl ⟨rfl, rfl, rfl⟩) X (by decide) (by decide) (by decide) (by decide) (by decide) hP hD hS (by decide +kernel) (fun q6 H6 hP hD hS => ?_)
  refine ptF (k := 7) (i := 31) (ci := 3) (v := .ref q6) (ty := .array .int) X hname (by decide +kernel) (by decide +kernel) (by decide +kernel) rfl rfl (by exact (show 7 < 14 from by decide)) hP hD hS (by decide +kernel) (fun G29 locs29 hP hD hS => ?_)
  have hP : va_P D vwCl ((a, .inr (3, [.ref q0, .ref q1, .ref q2, .ref q3, .ref q4, .int 0, .ref q5, .ref q6, .null, .null, .null, .null, .int 0, .null])) :: _) G29 := hP
  have hD : va_D A ((a, .inr (3, [.ref q0, .ref q1, .ref q2, .ref q3, .ref q4, .int 0, .ref q5, .ref q6, .null, .null, .null, .null, .int 0, .null])) :: _) := hD
  refine lv_aload_n (k := 0) (i := 0) (x := a) hx hb (by decide +kernel) rfl (lv_at hl 0 rfl) ?_
  refine lv_bipush (n := 80) (v := 80) hx hb (by decide +kernel) (by decide) ?_
  refine nwA (t := 0) (N := 80) (Or.inl ⟨rfl, rfl, rfl⟩) X (by decide) (by decide) (by decide) (by decide) (by decide) hP hD hS (by decide +kernel) (fun q7 H7 hP hD hS => ?_)
  refine ptF (k := 8) (i := 34) (ci := 3) (v := .ref q7) (ty := .array .int) X hname (by decide +kernel) (by decide +kernel) (by decide +kernel) rfl rfl (by exact (show 8 < 14 from by decide)) hP hD hS (by decide +kernel) (fun G33 locs33 hP hD hS => ?_)
  have hP : va_P D vwCl ((a, .inr (3, [.ref q0, .ref q1, .ref q2, .ref q3, .ref q4, .int 0, .ref q5, .ref q6, .ref q7, .null, .null, .null, .int 0, .null])) :: _) G33 := hP
  have hD : va_D A ((a, .inr (3, [.ref q0, .ref q1, .ref q2, .ref q3, .ref q4, .int 0, .ref q5, .ref q6, .ref q7, .null, .null, .null, .int 0, .null])) :: _) := hD
  refine lv_aload_n (k := 0) (i := 0) (x := a) hx hb (by decide +kernel) rfl (lv_at hl 0 rfl) ?_
  refine lv_bipush (n := 80) (v := 80) hx hb (by decide +kernel) (by decide) ?_
  refine nwA (t := 0) (N := 80) (Or.inl ⟨rfl, rfl, rfl⟩) X (by decide) (by decide) (by decide) (by decide) (by decide) hP hD hS (by decide +kernel) (fun q8 H8 hP hD hS => ?_)
  refine ptF (k := 9) (i := 37) (ci := 3) (v := .ref q8) (ty := .array .int) X hname (by decide +kernel) (by decide +kernel) (by decide +kernel) rfl rfl (by exact (show 9 < 14 from by decide)) hP hD hS (by decide +kernel) (fun G37 locs37 hP hD hS => ?_)
  have hP : va_P D vwCl ((a, .inr (3, [.ref q0, .ref q1, .ref q2, .ref q3, .ref q4, .int 0, .ref q5, .ref q6, .ref q7, .ref q8, .null, .null, .int 0, .null])) :: _) G37 := hP
  have hD : va_D A ((a, .inr (3, [.ref q0, .ref q1, .ref q2, .ref q3, .ref q4, .int 0, .ref q5, .ref q6, .ref q7, .ref q8, .null, .null, .int 0, .null])) :: _) := hD
  refine lv_aload_n (k := 0) (i := 0) (x := a) hx hb (by decide +kernel) rfl (lv_at hl 0 rfl) ?_
  refine lv_bipush (n := 80) (v := 80) hx hb (by decide +kernel) (by decide) ?_
  refine nwA (t := 0) (N := 80) (Or.inl ⟨rfl, rfl, rfl⟩) X (by decide) (by decide) (by decide) (by decide) (by decide) hP hD hS (by decide +kernel) (fun q9 H9 hP hD hS => ?_)
  refine ptF (k := 10) (i := 40) (ci := 3) (v := .ref q9) (ty := .array .int) X hname (by decide +kernel) (by decide +kernel) (by decide +kernel) rfl rfl (by exact (show 10 < 14 from by decide)) hP hD hS (by decide +kernel) (fun G41 locs41 hP hD hS => ?_)
  have hP : va_P D vwCl ((a, .inr (3, [.ref q0, .ref q1, .ref q2, .ref q3, .ref q4, .int 0, .ref q5, .ref q6, .ref q7, .ref q8, .ref q9, .null, .int 0, .null])) :: _) G41 := hP
  have hD : va_D A ((a, .inr (3, [.ref q0, .ref q1, .ref q2, .ref q3, .ref q4, .int 0, .ref q5, .ref q6, .ref q7, .ref q8, .ref q9, .null, .int 0, .null])) :: _) := hD
  refine lv_aload_n (k := 0) (i := 0) (x := a) hx hb (by decide +kernel) rfl (lv_at hl 0 rfl) ?_
  refine lv_bipush (n := 80) (v := 80) hx hb (by decide +kernel) (by decide) ?_
  refine nwA (t := 0) (N := 80) (Or.inl ⟨rfl, rfl, rfl⟩) X (by decide) (by decide) (by decide) (by decide) (by decide) hP hD hS (by decide +kernel) (fun q10 H10 hP hD hS => ?_)
  refine ptF (k := 11) (i := 43) (ci := 3) (v := .ref q10) (ty := .array .int) X hname (by decide +kernel) (by decide +kernel) (by decide +kernel) rfl rfl (by exact (show 11 < 14 from by decide)) hP hD hS (by decide +kernel) (fun G45 locs45 hP hD hS => ?_)
  have hP : va_P D vwCl ((a, .inr (3, [.ref q0, .ref q1, .ref q2, .ref q3, .ref q4, .int 0, .ref q5, .ref q6, .ref q7, .ref q8, .ref q9, .ref q10, .int 0, .null])) :: _) G45 := hP
  have hD : va_D A ((a, .inr (3, [.ref q0, .ref q1, .ref q2, .ref q3, .ref q4, .int 0, .ref q5, .ref q6, .ref q7, .ref q8, .ref q9, .ref q10, .int 0, .null])) :: _) := hD
  refine lv_aload_n (k := 0) (i := 0) (x := a) hx hb (by decide +kernel) rfl (lv_at hl 0 rfl) ?_
  refine lv_iconst (n := 5) (v := 5) hx hb (by decide +kernel) (by decide) ?_
  refine nwA (t := 0) (N := 5) (Or.inl ⟨rfl, rfl, rfl⟩) X (by decide) (by decide) (by decide) (by decide) (by decide) hP hD hS (by decide +kernel) (fun q11 H11 hP hD hS => ?_)
  refine ptF (k := 13) (i := 46) (ci := 3) (v := .ref q11) (ty := .array .int) X hname (by decide +kernel) (by decide +kernel) (by decide +kernel) rfl rfl (by exact (show 13 < 14 from by decide)) hP hD hS (by decide +kernel) (fun G49 locs49 hP hD hS => ?_)
  have hP : va_P D vwCl ((a, .inr (3, [.ref q0, .ref q1, .ref q2, .ref q3, .ref q4, .int 0, .ref q5, .ref q6, .ref q7, .ref q8, .ref q9, .ref q10, .int 0, .ref q11])) :: _) G49 := hP
  have hD : va_D A ((a, .inr (3, [.ref q0, .ref q1, .ref q2, .ref q3, .ref q4, .int 0, .ref q5, .ref q6, .ref q7, .ref q8, .ref q9, .ref q10, .int 0, .ref q11])) :: _) := hD
  exact retC (q := fun t => ([fun _ => q0, fun _ => q1, fun _ => q2, fun _ => q3, fun _ => q4, fun _ => q5, fun _ => q6, fun _ => q7, fun _ => q8, fun _ => q9, fun _ => q10, fun _ => q11] : List (Nat → Nat)).getD t (fun _ => 0)) X hr hlocks (by decide +kernel) hP hD hS (fun z hz => hz) (fun h => h) (by decide) (by decide)
def shp7 (kx : Nat → ClassId) (s5 a : Nat) (q : Nat → Nat → Nat) : va_W := (a, .inr (4, [.ref (q 0 0), .ref (q 1 0), .int 0, .ref (q 3 0)])) :: ((q 3 0, .inl (kx 0, 4, .inl (fun _ => 0))) :: ((q 1 0, .inl (kx 2, 10, .inr (.inr (.inr (.inr (fun j => if j < 10 then some (q 2 j) else none)))))) :: ((List.range 10).map (fun j => ((q 2 j, .inl (kx 0, 4, .inl fun _ => 0)) : Nat × va_E)) ++ ((q 0 0, .inl (kx 0, 10, .inl (fun _ => 0))) :: []))))
set_option maxHeartbeats 4000000 in
set_option maxRecDepth 20000 in
theorem ct7 : MCT l kx D s5 7 4 { frames := 1, cells := 13, slots := 64, locals := 64 } [.null, .null, .int 0, .null] (shp7 kx s5) := by
  refine mct_of (by decide +kernel) (by decide +kernel) (fun a p e s m args below meth c A ls X hN hname hr hlocks hP hD hl => ?_)
  obtain ⟨⟨hx, hb, hml⟩, hts, hown, hK, hA⟩ := id X
  have hS : va_S A s.heap s.heap [] := va_S.rf
  refine lv_aload_n (k := 0) (i := 0) (x := a) hx hb (by decide +kernel) rfl (lv_at hl 0 rfl) ?_
  refine obI (i := 3) X (tblG_of (by decide +kernel) rfl) hl.1 (by decide) (by decide) (by decide +kernel) ?_
  refine lv_aload_n (k := 0) (i := 0) (x := a) hx hb (by decide +kernel) rfl (lv_at hl 0 rfl) ?_
  refine lv_bipush (n := 10) (v := 10) hx hb (by decide +kernel) (by decide) ?_
  refine nwA (t := 0) (N := 10) (Or.inl ⟨rfl, rfl, rfl⟩) X (by decide) (by decide) (by decide) (by decide) (by decide) hP hD hS (by decide +kernel) (fun q0 H0 hP hD hS => ?_)
  refine ptF (k := 0) (i := 11) (ci := 4) (v := .ref q0) (ty := .array .int) X hname (by decide +kernel) (by decide +kernel) (by decide +kernel) rfl rfl (by exact (show 0 < 4 from by decide)) hP hD hS (by decide +kernel) (fun G5 locs5 hP hD hS => ?_)
  have hP : va_P D vwCl ((a, .inr (4, [.ref q0, .null, .int 0, .null])) :: _) G5 := hP
  have hD : va_D A ((a, .inr (4, [.ref q0, .null, .int 0, .null])) :: _) := hD
  refine lv_aload_n (k := 0) (i := 0) (x := a) hx hb (by decide +kernel) rfl (lv_at hl 0 rfl) ?_
  refine lv_bipush (n := 10) (v := 10) hx hb (by decide +kernel) (by decide) ?_
  refine lv_iconst (n := 4) (v := 4) hx hb (by decide +kernel) (by decide) ?_
  refine nwM (i := 15) (N := 10) (K := 4) X hN (tblG_of (by decide +kernel) rfl) (by decide) (by decide) (by decide) (by decide) (by decide) (by decide) (by decide) hP hD hS (by decide +kernel) (fun q1 r1 H1 hP hD hS => ?_)
  refine ptF (k := 1) (i := 17) (ci := 4) (v := .ref q1) (ty := .array (.array .int)) X hname (by decide +kernel) (by decide +kernel) (by decide +kernel) rfl rfl (by exact (show 1 < 4 from by decide)) hP hD hS (by decide +kernel) (fun G10 locs10 hP hD hS => ?_)
  have hP : va_P D vwCl ((a, .inr (4, [.ref q0, .ref q1, .int 0, .null])) :: _) G10 := hP
  have hD : va_D A ((a, .inr (4, [.ref q0, .ref q1, .int 0, .null])) :: _) := hD
  refine lv_aload_n (k := 0) (i := 0) (x := a) hx hb (by decide +kernel) rfl (lv_at hl 0 rfl) ?_
  refine lv_iconst (n := 4) (v := 4) hx hb (by decide +kernel) (by decide) ?_
  refine nwA (t := 0) (N := 4) (Or.inl ⟨rfl, rfl, rfl⟩) X (by decide) (by decide) (by decide) (by decide) (by decide) hP hD hS (by decide +kernel) (fun q3 H3 hP hD hS => ?_)
  refine ptF (k := 3) (i := 20) (ci := 4) (v := .ref q3) (ty := .array .int) X hname (by decide +kernel) (by decide +kernel) (by decide +kernel) rfl rfl (by exact (show 3 < 4 from by decide)) hP hD hS (by decide +kernel) (fun G14 locs14 hP hD hS => ?_)
  have hP : va_P D vwCl ((a, .inr (4, [.ref q0, .ref q1, .int 0, .ref q3])) :: _) G14 := hP
  have hD : va_D A ((a, .inr (4, [.ref q0, .ref q1, .int 0, .ref q3])) :: _) := hD
  exact retC (q := fun t => ([fun _ => q0, fun _ => q1, r1, fun _ => q3] : List (Nat → Nat)).getD t (fun _ => 0)) X hr hlocks (by decide +kernel) hP hD hS (fun z hz => hz) (fun h => h) (by decide) (by decide)
def shp2 (kx : Nat → ClassId) (s5 a : Nat) (q : Nat → Nat → Nat) : va_W := (a, .inr (5, [.ref (q 0 0), .ref (q 1 0), .ref (q 2 0), .ref (q 3 0), .int 0, .ref (q 4 0), .ref (q 5 0), .ref (q 6 0), .int 0])) :: ((q 6 0, .inl (kx 0, 40, .inl (fun _ => 0))) :: ((q 5 0, .inl (kx 0, 40, .inl (fun _ => 0))) :: ((q 4 0, .inl (kx 0, 40, .inl (fun _ => 0))) :: ((q 3 0, .inl (kx 0, 6, .inl (upd (upd (upd (upd (upd (upd (fun _ => 0) (0 : Int32).toNatClampNeg 0) (1 : Int32).toNatClampNeg 1) (2 : Int32).toNatClampNeg 2) (3 : Int32).toNatClampNeg 3) (4 : Int32).toNatClampNeg 0) (5 : Int32).toNatClampNeg 1))) :: ((q 2 0, .inl (kx 0, 16, .inl (fun _ => 0))) :: ((q 1 0, .inl (kx 0, 16, .inl (fun _ => 0))) :: ((q 0 0, .inl (kx 0, 16, .inl (fun _ => 0))) :: [])))))))
set_option maxHeartbeats 4000000 in
set_option maxRecDepth 20000 in
theorem ct2 : MCT l kx D s5 2 5 { frames := 1, cells := 7, slots := 174, locals := 64 } [.null, .null, .null, .null, .int 0, .null, .null, .null, .int 0] (shp2 kx s5) := by
  refine mct_of (by decide +kernel) (by decide +kernel) (fun a p e s m args below meth c A ls X hN hname hr hlocks hP hD hl => ?_)
  obtain ⟨⟨hx, hb, hml⟩, hts, hown, hK, hA⟩ := id X
  have hS : va_S A s.heap s.heap [] := va_S.rf
  refine lv_aload_n (k := 0) (i := 0) (x := a) hx hb (by decide +kernel) rfl (lv_at hl 0 rfl) ?_
  refine obI (i := 3) X (tblG_of (by decide +kernel) rfl) hl.1 (by decide) (by decide) (by decide +kernel) ?_
  refine lv_aload_n (k := 0) (i := 0) (x := a) hx hb (by decide +kernel) rfl (lv_at hl 0 rfl) ?_
  refine lv_bipush (n := 16) (v := 16) hx hb (by decide +kernel) (by decide) ?_
  refine nwA (t := 0) (N := 16) (Or.inl ⟨rfl, rfl, rfl⟩) X (by decide) (by decide) (by decide) (by decide) (by decide) hP hD hS (by decide +kernel) (fun q0 H0 hP hD hS => ?_)
  refine ptF (k := 0) (i := 9) (ci := 5) (v := .ref q0) (ty := .array .int) X hname (by decide +kernel) (by decide +kernel) (by decide +kernel) rfl rfl (by exact (show 0 < 9 from by decide)) hP hD hS (by decide +kernel) (fun G5 locs5 hP hD hS => ?_)
  have hP : va_P D vwCl ((a, .inr (5, [.ref q0, .null, .null, .null, .int 0, .null, .null, .null, .int 0])) :: _) G5 := hP
  have hD : va_D A ((a, .inr (5, [.ref q0, .null, .null, .null, .int 0, .null, .null, .null, .int 0])) :: _) := hD
  refine lv_aload_n (k := 0) (i := 0) (x := a) hx hb (by decide +kernel) rfl (lv_at hl 0 rfl) ?_
  refine lv_bipush (n := 16) (v := 16) hx hb (by decide +kernel) (by decide) ?_
  refine nwA (t := 0) (N := 16) (Or.inl ⟨rfl, rfl, rfl⟩) X (by decide) (by decide) (by decide) (by decide) (by decide) hP hD hS (by decide +kernel) (fun q1 H1 hP hD hS => ?_)
  refine ptF (k := 1) (i := 15) (ci := 5) (v := .ref q1) (ty := .array .int) X hname (by decide +kernel) (by decide +kernel) (by decide +kernel) rfl rfl (by exact (show 1 < 9 from by decide)) hP hD hS (by decide +kernel) (fun G9 locs9 hP hD hS => ?_)
  have hP : va_P D vwCl ((a, .inr (5, [.ref q0, .ref q1, .null, .null, .int 0, .null, .null, .null, .int 0])) :: _) G9 := hP
  have hD : va_D A ((a, .inr (5, [.ref q0, .ref q1, .null, .null, .int 0, .null, .null, .null, .int 0])) :: _) := hD
  refine lv_aload_n (k := 0) (i := 0) (x := a) hx hb (by decide +kernel) rfl (lv_at hl 0 rfl) ?_
  refine lv_bipush (n := 16) (v := 16) hx hb (by decide +kernel) (by decide) ?_
  refine nwA (t := 0) (N := 16) (Or.inl ⟨rfl, rfl, rfl⟩) X (by decide) (by decide) (by decide) (by decide) (by decide) hP hD hS (by decide +kernel) (fun q2 H2 hP hD hS => ?_)
  refine ptF (k := 2) (i := 18) (ci := 5) (v := .ref q2) (ty := .array .int) X hname (by decide +kernel) (by decide +kernel) (by decide +kernel) rfl rfl (by exact (show 2 < 9 from by decide)) hP hD hS (by decide +kernel) (fun G13 locs13 hP hD hS => ?_)
  have hP : va_P D vwCl ((a, .inr (5, [.ref q0, .ref q1, .ref q2, .null, .int 0, .null, .null, .null, .int 0])) :: _) G13 := hP
  have hD : va_D A ((a, .inr (5, [.ref q0, .ref q1, .ref q2, .null, .int 0, .null, .null, .null, .int 0])) :: _) := hD
  refine lv_aload_n (k := 0) (i := 0) (x := a) hx hb (by decide +kernel) rfl (lv_at hl 0 rfl) ?_
  refine lv_bipush (n := 6) (v := 6) hx hb (by decide +kernel) (by decide) ?_
  refine nwA (t := 0) (N := 6) (Or.inl ⟨rfl, rfl, rfl⟩) X (by decide) (by decide) (by decide) (by decide) (by decide) hP hD hS (by decide +kernel) (fun q3 H3 hP hD hS => ?_)
  refine lv_dup hx hb (by decide +kernel) rfl ?_
  refine lv_iconst (n := 0) (v := 0) hx hb (by decide +kernel) (by decide) ?_
  refine lv_iconst (n := 0) (v := 0) hx hb (by decide +kernel) (by decide) ?_
  refine ias X (vp_in_nI (n := 0) (by decide) (by decide)) hP hD hS (by decide +kernel) (fun H3_17 locs3_17 hP hD hS => ?_)
  refine lv_dup hx hb (by decide +kernel) rfl ?_
  refine lv_iconst (n := 1) (v := 1) hx hb (by decide +kernel) (by decide) ?_
  refine lv_iconst (n := 1) (v := 1) hx hb (by decide +kernel) (by decide) ?_
  refine ias X (vp_in_nI (n := 1) (by decide) (by decide)) hP hD hS (by decide +kernel) (fun H3_21 locs3_21 hP hD hS => ?_)
  refine lv_dup hx hb (by decide +kernel) rfl ?_
  refine lv_iconst (n := 2) (v := 2) hx hb (by decide +kernel) (by decide) ?_
  refine lv_iconst (n := 2) (v := 2) hx hb (by decide +kernel) (by decide) ?_
  refine ias X (vp_in_nI (n := 2) (by decide) (by decide)) hP hD hS (by decide +kernel) (fun H3_25 locs3_25 hP hD hS => ?_)
  refine lv_dup hx hb (by decide +kernel) rfl ?_
  refine lv_iconst (n := 3) (v := 3) hx hb (by decide +kernel) (by decide) ?_
  refine lv_iconst (n := 3) (v := 3) hx hb (by decide +kernel) (by decide) ?_
  refine ias X (vp_in_nI (n := 3) (by decide) (by decide)) hP hD hS (by decide +kernel) (fun H3_29 locs3_29 hP hD hS => ?_)
  refine lv_dup hx hb (by decide +kernel) rfl ?_
  refine lv_iconst (n := 4) (v := 4) hx hb (by decide +kernel) (by decide) ?_
  refine lv_iconst (n := 0) (v := 0) hx hb (by decide +kernel) (by decide) ?_
  refine ias X (vp_in_nI (n := 4) (by decide) (by decide)) hP hD hS (by decide +kernel) (fun H3_33 locs3_33 hP hD hS => ?_)
  refine lv_dup hx hb (by decide +kernel) rfl ?_
  refine lv_iconst (n := 5) (v := 5) hx hb (by decide +kernel) (by decide) ?_
  refine lv_iconst (n := 1) (v := 1) hx hb (by decide +kernel) (by decide) ?_
  refine ias X (vp_in_nI (n := 5) (by decide) (by decide)) hP hD hS (by decide +kernel) (fun H3_37 locs3_37 hP hD hS => ?_)
  refine ptF (k := 3) (i := 21) (ci := 5) (v := .ref q3) (ty := .array .int) X hname (by decide +kernel) (by decide +kernel) (by decide +kernel) rfl rfl (by exact (show 3 < 9 from by decide)) hP hD hS (by decide +kernel) (fun G41 locs41 hP hD hS => ?_)
  have hP : va_P D vwCl ((a, .inr (5, [.ref q0, .ref q1, .ref q2, .ref q3, .int 0, .null, .null, .null, .int 0])) :: _) G41 := hP
  have hD : va_D A ((a, .inr (5, [.ref q0, .ref q1, .ref q2, .ref q3, .int 0, .null, .null, .null, .int 0])) :: _) := hD
  refine lv_aload_n (k := 0) (i := 0) (x := a) hx hb (by decide +kernel) rfl (lv_at hl 0 rfl) ?_
  refine lv_bipush (n := 40) (v := 40) hx hb (by decide +kernel) (by decide) ?_
  refine nwA (t := 0) (N := 40) (Or.inl ⟨rfl, rfl, rfl⟩) X (by decide) (by decide) (by decide) (by decide) (by decide) hP hD hS (by decide +kernel) (fun q4 H4 hP hD hS => ?_)
  refine ptF (k := 5) (i := 24) (ci := 5) (v := .ref q4) (ty := .array .int) X hname (by decide +kernel) (by decide +kernel) (by decide +kernel) rfl rfl (by exact (show 5 < 9 from by decide)) hP hD hS (by decide +kernel) (fun G45 locs45 hP hD hS => ?_)
  have hP : va_P D vwCl ((a, .inr (5, [.ref q0, .ref q1, .ref q2, .ref q3, .int 0, .ref q4, .null, .null, .int 0])) :: _) G45 := hP
  have hD : va_D A ((a, .inr (5, [.ref q0, .ref q1, .ref q2, .ref q3, .int 0, .ref q4, .null, .null, .int 0])) :: _) := hD
  refine lv_aload_n (k := 0) (i := 0) (x := a) hx hb (by decide +kernel) rfl (lv_at hl 0 rfl) ?_
  refine lv_bipush (n := 40) (v := 40) hx hb (by decide +kernel) (by decide) ?_
  refine nwA (t := 0) (N := 40) (Or.inl ⟨rfl, rfl, rfl⟩) X (by decide) (by decide) (by decide) (by decide) (by decide) hP hD hS (by decide +kernel) (fun q5 H5 hP hD hS => ?_)
  refine ptF (k := 6) (i := 27) (ci := 5) (v := .ref q5) (ty := .array .int) X hname (by decide +kernel) (by decide +kernel) (by decide +kernel) rfl rfl (by exact (show 6 < 9 from by decide)) hP hD hS (by decide +kernel) (fun G49 locs49 hP hD hS => ?_)
  have hP : va_P D vwCl ((a, .inr (5, [.ref q0, .ref q1, .ref q2, .ref q3, .int 0, .ref q4, .ref q5, .null, .int 0])) :: _) G49 := hP
  have hD : va_D A ((a, .inr (5, [.ref q0, .ref q1, .ref q2, .ref q3, .int 0, .ref q4, .ref q5, .null, .int 0])) :: _) := hD
  refine lv_aload_n (k := 0) (i := 0) (x := a) hx hb (by decide +kernel) rfl (lv_at hl 0 rfl) ?_
  refine lv_bipush (n := 40) (v := 40) hx hb (by decide +kernel) (by decide) ?_
  refine nwA (t := 0) (N := 40) (Or.inl ⟨rfl, rfl, rfl⟩) X (by decide) (by decide) (by decide) (by decide) (by decide) hP hD hS (by decide +kernel) (fun q6 H6 hP hD hS => ?_)
  refine ptF (k := 7) (i := 30) (ci := 5) (v := .ref q6) (ty := .array .int) X hname (by decide +kernel) (by decide +kernel) (by decide +kernel) rfl rfl (by exact (show 7 < 9 from by decide)) hP hD hS (by decide +kernel) (fun G53 locs53 hP hD hS => ?_)
  have hP : va_P D vwCl ((a, .inr (5, [.ref q0, .ref q1, .ref q2, .ref q3, .int 0, .ref q4, .ref q5, .ref q6, .int 0])) :: _) G53 := hP
  have hD : va_D A ((a, .inr (5, [.ref q0, .ref q1, .ref q2, .ref q3, .int 0, .ref q4, .ref q5, .ref q6, .int 0])) :: _) := hD
  exact retC (q := fun t => ([fun _ => q0, fun _ => q1, fun _ => q2, fun _ => q3, fun _ => q4, fun _ => q5, fun _ => q6] : List (Nat → Nat)).getD t (fun _ => 0)) X hr hlocks (by decide +kernel) hP hD hS (fun z hz => hz) (fun h => h) (by decide) (by decide)
def shp12 (kx : Nat → ClassId) (s5 a : Nat) (q : Nat → Nat → Nat) : va_W := (a, .inr (6, [.ref (q 0 0), .ref (q 1 0), .ref (q 2 0), .ref (q 3 0), .ref (q 5 0), .ref (q 7 0), .ref (q 8 0)])) :: ((q 8 0, .inl (kx 0, 512, .inl (fun _ => 0))) :: ((q 7 0, .inl (kx 0, 512, .inl (fun _ => 0))) :: ((q 5 0, .inl (kx 2, 5, .inr (.inr (.inr (.inr (fun j => if j < 5 then some (q 6 j) else none)))))) :: ((List.range 5).map (fun j => ((q 6 j, .inl (kx 0, 512, .inl fun _ => 0)) : Nat × va_E)) ++ ((q 3 0, .inl (kx 2, 6, .inr (.inr (.inr (.inr (fun j => if j < 6 then some (q 4 j) else none)))))) :: ((List.range 6).map (fun j => ((q 4 j, .inl (kx 0, 512, .inl fun _ => 0)) : Nat × va_E)) ++ ((q 2 0, .inl (kx 0, 5, .inl (fun _ => 0))) :: ((q 1 0, .inl (kx 0, 5, .inl (fun _ => 0))) :: ((q 0 0, .inl (kx 0, 9, .inl (fun _ => 0))) :: [])))))))))
set_option maxHeartbeats 4000000 in
set_option maxRecDepth 20000 in
theorem ct12 : MCT l kx D s5 12 6 { frames := 1, cells := 18, slots := 6686, locals := 64 } [.null, .null, .null, .null, .null, .null, .null] (shp12 kx s5) := by
  refine mct_of (by decide +kernel) (by decide +kernel) (fun a p e s m args below meth c A ls X hN hname hr hlocks hP hD hl => ?_)
  obtain ⟨⟨hx, hb, hml⟩, hts, hown, hK, hA⟩ := id X
  have hS : va_S A s.heap s.heap [] := va_S.rf
  refine lv_aload_n (k := 0) (i := 0) (x := a) hx hb (by decide +kernel) rfl (lv_at hl 0 rfl) ?_
  refine obI (i := 3) X (tblG_of (by decide +kernel) rfl) hl.1 (by decide) (by decide) (by decide +kernel) ?_
  refine lv_aload_n (k := 0) (i := 0) (x := a) hx hb (by decide +kernel) rfl (lv_at hl 0 rfl) ?_
  refine lv_bipush (n := 9) (v := 9) hx hb (by decide +kernel) (by decide) ?_
  refine nwA (t := 0) (N := 9) (Or.inl ⟨rfl, rfl, rfl⟩) X (by decide) (by decide) (by decide) (by decide) (by decide) hP hD hS (by decide +kernel) (fun q0 H0 hP hD hS => ?_)
  refine ptF (k := 0) (i := 9) (ci := 6) (v := .ref q0) (ty := .array .int) X hname (by decide +kernel) (by decide +kernel) (by decide +kernel) rfl rfl (by exact (show 0 < 7 from by decide)) hP hD hS (by decide +kernel) (fun G5 locs5 hP hD hS => ?_)
  have hP : va_P D vwCl ((a, .inr (6, [.ref q0, .null, .null, .null, .null, .null, .null])) :: _) G5 := hP
  have hD : va_D A ((a, .inr (6, [.ref q0, .null, .null, .null, .null, .null, .null])) :: _) := hD
  refine lv_aload_n (k := 0) (i := 0) (x := a) hx hb (by decide +kernel) rfl (lv_at hl 0 rfl) ?_
  refine lv_iconst (n := 5) (v := 5) hx hb (by decide +kernel) (by decide) ?_
  refine nwA (t := 0) (N := 5) (Or.inl ⟨rfl, rfl, rfl⟩) X (by decide) (by decide) (by decide) (by decide) (by decide) hP hD hS (by decide +kernel) (fun q1 H1 hP hD hS => ?_)
  refine ptF (k := 1) (i := 15) (ci := 6) (v := .ref q1) (ty := .array .int) X hname (by decide +kernel) (by decide +kernel) (by decide +kernel) rfl rfl (by exact (show 1 < 7 from by decide)) hP hD hS (by decide +kernel) (fun G9 locs9 hP hD hS => ?_)
  have hP : va_P D vwCl ((a, .inr (6, [.ref q0, .ref q1, .null, .null, .null, .null, .null])) :: _) G9 := hP
  have hD : va_D A ((a, .inr (6, [.ref q0, .ref q1, .null, .null, .null, .null, .null])) :: _) := hD
  refine lv_aload_n (k := 0) (i := 0) (x := a) hx hb (by decide +kernel) rfl (lv_at hl 0 rfl) ?_
  refine lv_iconst (n := 5) (v := 5) hx hb (by decide +kernel) (by decide) ?_
  refine nwA (t := 0) (N := 5) (Or.inl ⟨rfl, rfl, rfl⟩) X (by decide) (by decide) (by decide) (by decide) (by decide) hP hD hS (by decide +kernel) (fun q2 H2 hP hD hS => ?_)
  refine ptF (k := 2) (i := 18) (ci := 6) (v := .ref q2) (ty := .array .int) X hname (by decide +kernel) (by decide +kernel) (by decide +kernel) rfl rfl (by exact (show 2 < 7 from by decide)) hP hD hS (by decide +kernel) (fun G13 locs13 hP hD hS => ?_)
  have hP : va_P D vwCl ((a, .inr (6, [.ref q0, .ref q1, .ref q2, .null, .null, .null, .null])) :: _) G13 := hP
  have hD : va_D A ((a, .inr (6, [.ref q0, .ref q1, .ref q2, .null, .null, .null, .null])) :: _) := hD
  refine lv_aload_n (k := 0) (i := 0) (x := a) hx hb (by decide +kernel) rfl (lv_at hl 0 rfl) ?_
  refine lv_bipush (n := 6) (v := 6) hx hb (by decide +kernel) (by decide) ?_
  refine lv_sipush (n := 512) (v := 512) hx hb (by decide +kernel) (by decide) ?_
  refine nwM (i := 21) (N := 6) (K := 512) X hN (tblG_of (by decide +kernel) rfl) (by decide) (by decide) (by decide) (by decide) (by decide) (by decide) (by decide) hP hD hS (by decide +kernel) (fun q3 r3 H3 hP hD hS => ?_)
  refine ptF (k := 3) (i := 23) (ci := 6) (v := .ref q3) (ty := .array (.array .int)) X hname (by decide +kernel) (by decide +kernel) (by decide +kernel) rfl rfl (by exact (show 3 < 7 from by decide)) hP hD hS (by decide +kernel) (fun G18 locs18 hP hD hS => ?_)
  have hP : va_P D vwCl ((a, .inr (6, [.ref q0, .ref q1, .ref q2, .ref q3, .null, .null, .null])) :: _) G18 := hP
  have hD : va_D A ((a, .inr (6, [.ref q0, .ref q1, .ref q2, .ref q3, .null, .null, .null])) :: _) := hD
  refine lv_aload_n (k := 0) (i := 0) (x := a) hx hb (by decide +kernel) rfl (lv_at hl 0 rfl) ?_
  refine lv_iconst (n := 5) (v := 5) hx hb (by decide +kernel) (by decide) ?_
  refine lv_sipush (n := 512) (v := 512) hx hb (by decide +kernel) (by decide) ?_
  refine nwM (i := 21) (N := 5) (K := 512) X hN (tblG_of (by decide +kernel) rfl) (by decide) (by decide) (by decide) (by decide) (by decide) (by decide) (by decide) hP hD hS (by decide +kernel) (fun q5 r5 H5 hP hD hS => ?_)
  refine ptF (k := 4) (i := 26) (ci := 6) (v := .ref q5) (ty := .array (.array .int)) X hname (by decide +kernel) (by decide +kernel) (by decide +kernel) rfl rfl (by exact (show 4 < 7 from by decide)) hP hD hS (by decide +kernel) (fun G23 locs23 hP hD hS => ?_)
  have hP : va_P D vwCl ((a, .inr (6, [.ref q0, .ref q1, .ref q2, .ref q3, .ref q5, .null, .null])) :: _) G23 := hP
  have hD : va_D A ((a, .inr (6, [.ref q0, .ref q1, .ref q2, .ref q3, .ref q5, .null, .null])) :: _) := hD
  refine lv_aload_n (k := 0) (i := 0) (x := a) hx hb (by decide +kernel) rfl (lv_at hl 0 rfl) ?_
  refine lv_sipush (n := 512) (v := 512) hx hb (by decide +kernel) (by decide) ?_
  refine nwA (t := 0) (N := 512) (Or.inl ⟨rfl, rfl, rfl⟩) X (by decide) (by decide) (by decide) (by decide) (by decide) hP hD hS (by decide +kernel) (fun q7 H7 hP hD hS => ?_)
  refine ptF (k := 5) (i := 29) (ci := 6) (v := .ref q7) (ty := .array .int) X hname (by decide +kernel) (by decide +kernel) (by decide +kernel) rfl rfl (by exact (show 5 < 7 from by decide)) hP hD hS (by decide +kernel) (fun G27 locs27 hP hD hS => ?_)
  have hP : va_P D vwCl ((a, .inr (6, [.ref q0, .ref q1, .ref q2, .ref q3, .ref q5, .ref q7, .null])) :: _) G27 := hP
  have hD : va_D A ((a, .inr (6, [.ref q0, .ref q1, .ref q2, .ref q3, .ref q5, .ref q7, .null])) :: _) := hD
  refine lv_aload_n (k := 0) (i := 0) (x := a) hx hb (by decide +kernel) rfl (lv_at hl 0 rfl) ?_
  refine lv_sipush (n := 512) (v := 512) hx hb (by decide +kernel) (by decide) ?_
  refine nwA (t := 0) (N := 512) (Or.inl ⟨rfl, rfl, rfl⟩) X (by decide) (by decide) (by decide) (by decide) (by decide) hP hD hS (by decide +kernel) (fun q8 H8 hP hD hS => ?_)
  refine ptF (k := 6) (i := 32) (ci := 6) (v := .ref q8) (ty := .array .int) X hname (by decide +kernel) (by decide +kernel) (by decide +kernel) rfl rfl (by exact (show 6 < 7 from by decide)) hP hD hS (by decide +kernel) (fun G31 locs31 hP hD hS => ?_)
  have hP : va_P D vwCl ((a, .inr (6, [.ref q0, .ref q1, .ref q2, .ref q3, .ref q5, .ref q7, .ref q8])) :: _) G31 := hP
  have hD : va_D A ((a, .inr (6, [.ref q0, .ref q1, .ref q2, .ref q3, .ref q5, .ref q7, .ref q8])) :: _) := hD
  exact retC (q := fun t => ([fun _ => q0, fun _ => q1, fun _ => q2, fun _ => q3, r3, fun _ => q5, r5, fun _ => q7, fun _ => q8] : List (Nat → Nat)).getD t (fun _ => 0)) X hr hlocks (by decide +kernel) hP hD hS (fun z hz => hz) (fun h => h) (by decide) (by decide)
def shp3 (kx : Nat → ClassId) (s5 a : Nat) (q : Nat → Nat → Nat) : va_W := (a, .inr (7, [.ref (q 0 0), .ref (q 1 0), .ref (q 2 0), .ref (q 3 0), .ref (q 4 0), .int 0, .ref (q 5 0), .ref (q 6 0), .ref (q 7 0), .ref (q 8 0), .ref (q 9 0), .int 0])) :: ((q 9 0, .inl (kx 0, 16, .inl (fun _ => 0))) :: ((q 8 0, .inl (kx 0, 16, .inl (fun _ => 0))) :: ((q 7 0, .inl (kx 0, 16, .inl (fun _ => 0))) :: ((q 6 0, .inl (kx 0, 16, .inl (fun _ => 0))) :: ((q 5 0, .inl (kx 0, 2, .inl (upd (upd (fun _ => 0) (0 : Int32).toNatClampNeg 1) (1 : Int32).toNatClampNeg 1))) :: ((q 4 0, .inl (kx 0, 120, .inl (fun _ => 0))) :: ((q 3 0, .inl (kx 0, 120, .inl (fun _ => 0))) :: ((q 2 0, .inl (kx 0, 120, .inl (fun _ => 0))) :: ((q 1 0, .inl (kx 0, 120, .inl (fun _ => 0))) :: ((q 0 0, .inl (kx 0, 120, .inl (fun _ => 0))) :: []))))))))))
set_option maxHeartbeats 4000000 in
set_option maxRecDepth 20000 in
theorem ct3 : MCT l kx D s5 3 7 { frames := 1, cells := 10, slots := 666, locals := 64 } [.null, .null, .null, .null, .null, .int 0, .null, .null, .null, .null, .null, .int 0] (shp3 kx s5) := by
  refine mct_of (by decide +kernel) (by decide +kernel) (fun a p e s m args below meth c A ls X hN hname hr hlocks hP hD hl => ?_)
  obtain ⟨⟨hx, hb, hml⟩, hts, hown, hK, hA⟩ := id X
  have hS : va_S A s.heap s.heap [] := va_S.rf
  refine lv_aload_n (k := 0) (i := 0) (x := a) hx hb (by decide +kernel) rfl (lv_at hl 0 rfl) ?_
  refine obI (i := 3) X (tblG_of (by decide +kernel) rfl) hl.1 (by decide) (by decide) (by decide +kernel) ?_
  refine lv_aload_n (k := 0) (i := 0) (x := a) hx hb (by decide +kernel) rfl (lv_at hl 0 rfl) ?_
  refine lv_bipush (n := 120) (v := 120) hx hb (by decide +kernel) (by decide) ?_
  refine nwA (t := 0) (N := 120) (Or.inl ⟨rfl, rfl, rfl⟩) X (by decide) (by decide) (by decide) (by decide) (by decide) hP hD hS (by decide +kernel) (fun q0 H0 hP hD hS => ?_)
  refine ptF (k := 0) (i := 11) (ci := 7) (v := .ref q0) (ty := .array .int) X hname (by decide +kernel) (by decide +kernel) (by decide +kernel) rfl rfl (by exact (show 0 < 12 from by decide)) hP hD hS (by decide +kernel) (fun G5 locs5 hP hD hS => ?_)
  have hP : va_P D vwCl ((a, .inr (7, [.ref q0, .null, .null, .null, .null, .int 0, .null, .null, .null, .null, .null, .int 0])) :: _) G5 := hP
  have hD : va_D A ((a, .inr (7, [.ref q0, .null, .null, .null, .null, .int 0, .null, .null, .null, .null, .null, .int 0])) :: _) := hD
  refine lv_aload_n (k := 0) (i := 0) (x := a) hx hb (by decide +kernel) rfl (lv_at hl 0 rfl) ?_
  refine lv_bipush (n := 120) (v := 120) hx hb (by decide +kernel) (by decide) ?_
  refine nwA (t := 0) (N := 120) (Or.inl ⟨rfl, rfl, rfl⟩) X (by decide) (by decide) (by decide) (by decide) (by decide) hP hD hS (by decide +kernel) (fun q1 H1 hP hD hS => ?_)
  refine ptF (k := 1) (i := 15) (ci := 7) (v := .ref q1) (ty := .array .int) X hname (by decide +kernel) (by decide +kernel) (by decide +kernel) rfl rfl (by exact (show 1 < 12 from by decide)) hP hD hS (by decide +kernel) (fun G9 locs9 hP hD hS => ?_)
  have hP : va_P D vwCl ((a, .inr (7, [.ref q0, .ref q1, .null, .null, .null, .int 0, .null, .null, .null, .null, .null, .int 0])) :: _) G9 := hP
  have hD : va_D A ((a, .inr (7, [.ref q0, .ref q1, .null, .null, .null, .int 0, .null, .null, .null, .null, .null, .int 0])) :: _) := hD
  refine lv_aload_n (k := 0) (i := 0) (x := a) hx hb (by decide +kernel) rfl (lv_at hl 0 rfl) ?_
  refine lv_bipush (n := 120) (v := 120) hx hb (by decide +kernel) (by decide) ?_
  refine nwA (t := 0) (N := 120) (Or.inl ⟨rfl, rfl, rfl⟩) X (by decide) (by decide) (by decide) (by decide) (by decide) hP hD hS (by decide +kernel) (fun q2 H2 hP hD hS => ?_)
  refine ptF (k := 2) (i := 18) (ci := 7) (v := .ref q2) (ty := .array .int) X hname (by decide +kernel) (by decide +kernel) (by decide +kernel) rfl rfl (by exact (show 2 < 12 from by decide)) hP hD hS (by decide +kernel) (fun G13 locs13 hP hD hS => ?_)
  have hP : va_P D vwCl ((a, .inr (7, [.ref q0, .ref q1, .ref q2, .null, .null, .int 0, .null, .null, .null, .null, .null, .int 0])) :: _) G13 := hP
  have hD : va_D A ((a, .inr (7, [.ref q0, .ref q1, .ref q2, .null, .null, .int 0, .null, .null, .null, .null, .null, .int 0])) :: _) := hD
  refine lv_aload_n (k := 0) (i := 0) (x := a) hx hb (by decide +kernel) rfl (lv_at hl 0 rfl) ?_
  refine lv_bipush (n := 120) (v := 120) hx hb (by decide +kernel) (by decide) ?_
  refine nwA (t := 0) (N := 120) (Or.inl ⟨rfl, rfl, rfl⟩) X (by decide) (by decide) (by decide) (by decide) (by decide) hP hD hS (by decide +kernel) (fun q3 H3 hP hD hS => ?_)
  refine ptF (k := 3) (i := 21) (ci := 7) (v := .ref q3) (ty := .array .int) X hname (by decide +kernel) (by decide +kernel) (by decide +kernel) rfl rfl (by exact (show 3 < 12 from by decide)) hP hD hS (by decide +kernel) (fun G17 locs17 hP hD hS => ?_)
  have hP : va_P D vwCl ((a, .inr (7, [.ref q0, .ref q1, .ref q2, .ref q3, .null, .int 0, .null, .null, .null, .null, .null, .int 0])) :: _) G17 := hP
  have hD : va_D A ((a, .inr (7, [.ref q0, .ref q1, .ref q2, .ref q3, .null, .int 0, .null, .null, .null, .null, .null, .int 0])) :: _) := hD
  refine lv_aload_n (k := 0) (i := 0) (x := a) hx hb (by decide +kernel) rfl (lv_at hl 0 rfl) ?_
  refine lv_bipush (n := 120) (v := 120) hx hb (by decide +kernel) (by decide) ?_
  refine nwA (t := 0) (N := 120) (Or.inl ⟨rfl, rfl, rfl⟩) X (by decide) (by decide) (by decide) (by decide) (by decide) hP hD hS (by decide +kernel) (fun q4 H4 hP hD hS => ?_)
  refine ptF (k := 4) (i := 24) (ci := 7) (v := .ref q4) (ty := .array .int) X hname (by decide +kernel) (by decide +kernel) (by decide +kernel) rfl rfl (by exact (show 4 < 12 from by decide)) hP hD hS (by decide +kernel) (fun G21 locs21 hP hD hS => ?_)
  have hP : va_P D vwCl ((a, .inr (7, [.ref q0, .ref q1, .ref q2, .ref q3, .ref q4, .int 0, .null, .null, .null, .null, .null, .int 0])) :: _) G21 := hP
  have hD : va_D A ((a, .inr (7, [.ref q0, .ref q1, .ref q2, .ref q3, .ref q4, .int 0, .null, .null, .null, .null, .null, .int 0])) :: _) := hD
  refine lv_aload_n (k := 0) (i := 0) (x := a) hx hb (by decide +kernel) rfl (lv_at hl 0 rfl) ?_
  refine lv_iconst (n := 2) (v := 2) hx hb (by decide +kernel) (by decide) ?_
  refine nwA (t := 0) (N := 2) (Or.inl ⟨rfl, rfl, rfl⟩) X (by decide) (by decide) (by decide) (by decide) (by decide) hP hD hS (by decide +kernel) (fun q5 H5 hP hD hS => ?_)
  refine lv_dup hx hb (by decide +kernel) rfl ?_
  refine lv_iconst (n := 0) (v := 0) hx hb (by decide +kernel) (by decide) ?_
  refine lv_iconst (n := 1) (v := 1) hx hb (by decide +kernel) (by decide) ?_
  refine ias X (vp_in_nI (n := 0) (by decide) (by decide)) hP hD hS (by decide +kernel) (fun H5_25 locs5_25 hP hD hS => ?_)
  refine lv_dup hx hb (by decide +kernel) rfl ?_
  refine lv_iconst (n := 1) (v := 1) hx hb (by decide +kernel) (by decide) ?_
  refine lv_iconst (n := 1) (v := 1) hx hb (by decide +kernel) (by decide) ?_
  refine ias X (vp_in_nI (n := 1) (by decide) (by decide)) hP hD hS (by decide +kernel) (fun H5_29 locs5_29 hP hD hS => ?_)
  refine ptF (k := 6) (i := 27) (ci := 7) (v := .ref q5) (ty := .array .int) X hname (by decide +kernel) (by decide +kernel) (by decide +kernel) rfl rfl (by exact (show 6 < 12 from by decide)) hP hD hS (by decide +kernel) (fun G33 locs33 hP hD hS => ?_)
  have hP : va_P D vwCl ((a, .inr (7, [.ref q0, .ref q1, .ref q2, .ref q3, .ref q4, .int 0, .ref q5, .null, .null, .null, .null, .int 0])) :: _) G33 := hP
  have hD : va_D A ((a, .inr (7, [.ref q0, .ref q1, .ref q2, .ref q3, .ref q4, .int 0, .ref q5, .null, .null, .null, .null, .int 0])) :: _) := hD
  refine lv_aload_n (k := 0) (i := 0) (x := a) hx hb (by decide +kernel) rfl (lv_at hl 0 rfl) ?_
  refine lv_bipush (n := 16) (v := 16) hx hb (by decide +kernel) (by decide) ?_
  refine nwA (t := 0) (N := 16) (Or.inl ⟨rfl, rfl, rfl⟩) X (by decide) (by decide) (by decide) (by decide) (by decide) hP hD hS (by decide +kernel) (fun q6 H6 hP hD hS => ?_)
  refine ptF (k := 7) (i := 30) (ci := 7) (v := .ref q6) (ty := .array .int) X hname (by decide +kernel) (by decide +kernel) (by decide +kernel) rfl rfl (by exact (show 7 < 12 from by decide)) hP hD hS (by decide +kernel) (fun G37 locs37 hP hD hS => ?_)
  have hP : va_P D vwCl ((a, .inr (7, [.ref q0, .ref q1, .ref q2, .ref q3, .ref q4, .int 0, .ref q5, .ref q6, .null, .null, .null, .int 0])) :: _) G37 := hP
  have hD : va_D A ((a, .inr (7, [.ref q0, .ref q1, .ref q2, .ref q3, .ref q4, .int 0, .ref q5, .ref q6, .null, .null, .null, .int 0])) :: _) := hD
  refine lv_aload_n (k := 0) (i := 0) (x := a) hx hb (by decide +kernel) rfl (lv_at hl 0 rfl) ?_
  refine lv_bipush (n := 16) (v := 16) hx hb (by decide +kernel) (by decide) ?_
  refine nwA (t := 0) (N := 16) (Or.inl ⟨rfl, rfl, rfl⟩) X (by decide) (by decide) (by decide) (by decide) (by decide) hP hD hS (by decide +kernel) (fun q7 H7 hP hD hS => ?_)
  refine ptF (k := 8) (i := 33) (ci := 7) (v := .ref q7) (ty := .array .int) X hname (by decide +kernel) (by decide +kernel) (by decide +kernel) rfl rfl (by exact (show 8 < 12 from by decide)) hP hD hS (by decide +kernel) (fun G41 locs41 hP hD hS => ?_)
  have hP : va_P D vwCl ((a, .inr (7, [.ref q0, .ref q1, .ref q2, .ref q3, .ref q4, .int 0, .ref q5, .ref q6, .ref q7, .null, .null, .int 0])) :: _) G41 := hP
  have hD : va_D A ((a, .inr (7, [.ref q0, .ref q1, .ref q2, .ref q3, .ref q4, .int 0, .ref q5, .ref q6, .ref q7, .null, .null, .int 0])) :: _) := hD
  refine lv_aload_n (k := 0) (i := 0) (x := a) hx hb (by decide +kernel) rfl (lv_at hl 0 rfl) ?_
  refine lv_bipush (n := 16) (v := 16) hx hb (by decide +kernel) (by decide) ?_
  refine nwA (t := 0) (N := 16) (Or.inl ⟨rfl, rfl, rfl⟩) X (by decide) (by decide) (by decide) (by decide) (by decide) hP hD hS (by decide +kernel) (fun q8 H8 hP hD hS => ?_)
  refine ptF (k := 9) (i := 36) (ci := 7) (v := .ref q8) (ty := .array .int) X hname (by decide +kernel) (by decide +kernel) (by decide +kernel) rfl rfl (by exact (show 9 < 12 from by decide)) hP hD hS (by decide +kernel) (fun G45 locs45 hP hD hS => ?_)
  have hP : va_P D vwCl ((a, .inr (7, [.ref q0, .ref q1, .ref q2, .ref q3, .ref q4, .int 0, .ref q5, .ref q6, .ref q7, .ref q8, .null, .int 0])) :: _) G45 := hP
  have hD : va_D A ((a, .inr (7, [.ref q0, .ref q1, .ref q2, .ref q3, .ref q4, .int 0, .ref q5, .ref q6, .ref q7, .ref q8, .null, .int 0])) :: _) := hD
  refine lv_aload_n (k := 0) (i := 0) (x := a) hx hb (by decide +kernel) rfl (lv_at hl 0 rfl) ?_
  refine lv_bipush (n := 16) (v := 16) hx hb (by decide +kernel) (by decide) ?_
  refine nwA (t := 0) (N := 16) (Or.inl ⟨rfl, rfl, rfl⟩) X (by decide) (by decide) (by decide) (by decide) (by decide) hP hD hS (by decide +kernel) (fun q9 H9 hP hD hS => ?_)
  refine ptF (k := 10) (i := 39) (ci := 7) (v := .ref q9) (ty := .array .int) X hname (by decide +kernel) (by decide +kernel) (by decide +kernel) rfl rfl (by exact (show 10 < 12 from by decide)) hP hD hS (by decide +kernel) (fun G49 locs49 hP hD hS => ?_)
  have hP : va_P D vwCl ((a, .inr (7, [.ref q0, .ref q1, .ref q2, .ref q3, .ref q4, .int 0, .ref q5, .ref q6, .ref q7, .ref q8, .ref q9, .int 0])) :: _) G49 := hP
  have hD : va_D A ((a, .inr (7, [.ref q0, .ref q1, .ref q2, .ref q3, .ref q4, .int 0, .ref q5, .ref q6, .ref q7, .ref q8, .ref q9, .int 0])) :: _) := hD
  exact retC (q := fun t => ([fun _ => q0, fun _ => q1, fun _ => q2, fun _ => q3, fun _ => q4, fun _ => q5, fun _ => q6, fun _ => q7, fun _ => q8, fun _ => q9] : List (Nat → Nat)).getD t (fun _ => 0)) X hr hlocks (by decide +kernel) hP hD hS (fun z hz => hz) (fun h => h) (by decide) (by decide)
def shp8 (kx : Nat → ClassId) (s5 a : Nat) (q : Nat → Nat → Nat) : va_W := (a, .inr (8, [.ref (q 0 0), .ref (q 1 0), .ref (q 2 0), .int 0])) :: ((q 2 0, .inl (kx 0, 30, .inl (fun _ => 0))) :: ((q 1 0, .inl (kx 0, 30, .inl (fun _ => 0))) :: ((q 0 0, .inl (kx 0, 30, .inl (fun _ => 0))) :: [])))
set_option maxHeartbeats 4000000 in
set_option maxRecDepth 20000 in
theorem ct8 : MCT l kx D s5 8 8 { frames := 1, cells := 3, slots := 90, locals := 64 } [.null, .null, .null, .int 0] (shp8 kx s5) := by
  refine mct_of (by decide +kernel) (by decide +kernel) (fun a p e s m args below meth c A ls X hN hname hr hlocks hP hD hl => ?_)
  obtain ⟨⟨hx, hb, hml⟩, hts, hown, hK, hA⟩ := id X
  have hS : va_S A s.heap s.heap [] := va_S.rf
  refine lv_aload_n (k := 0) (i := 0) (x := a) hx hb (by decide +kernel) rfl (lv_at hl 0 rfl) ?_
  refine obI (i := 3) X (tblG_of (by decide +kernel) rfl) hl.1 (by decide) (by decide) (by decide +kernel) ?_
  refine lv_aload_n (k := 0) (i := 0) (x := a) hx hb (by decide +kernel) rfl (lv_at hl 0 rfl) ?_
  refine lv_bipush (n := 30) (v := 30) hx hb (by decide +kernel) (by decide) ?_
  refine nwA (t := 0) (N := 30) (Or.inl ⟨rfl, rfl, rfl⟩) X (by decide) (by decide) (by decide) (by decide) (by decide) hP hD hS (by decide +kernel) (fun q0 H0 hP hD hS => ?_)
  refine ptF (k := 0) (i := 11) (ci := 8) (v := .ref q0) (ty := .array .int) X hname (by decide +kernel) (by decide +kernel) (by decide +kernel) rfl rfl (by exact (show 0 < 4 from by decide)) hP hD hS (by decide +kernel) (fun G5 locs5 hP hD hS => ?_)
  have hP : va_P D vwCl ((a, .inr (8, [.ref q0, .null, .null, .int 0])) :: _) G5 := hP
  have hD : va_D A ((a, .inr (8, [.ref q0, .null, .null, .int 0])) :: _) := hD
  refine lv_aload_n (k := 0) (i := 0) (x := a) hx hb (by decide +kernel) rfl (lv_at hl 0 rfl) ?_
  refine lv_bipush (n := 30) (v := 30) hx hb (by decide +kernel) (by decide) ?_
  refine nwA (t := 0) (N := 30) (Or.inl ⟨rfl, rfl, rfl⟩) X (by decide) (by decide) (by decide) (by decide) (by decide) hP hD hS (by decide +kernel) (fun q1 H1 hP hD hS => ?_)
  refine ptF (k := 1) (i := 15) (ci := 8) (v := .ref q1) (ty := .array .int) X hname (by decide +kernel) (by decide +kernel) (by decide +kernel) rfl rfl (by exact (show 1 < 4 from by decide)) hP hD hS (by decide +kernel) (fun G9 locs9 hP hD hS => ?_)
  have hP : va_P D vwCl ((a, .inr (8, [.ref q0, .ref q1, .null, .int 0])) :: _) G9 := hP
  have hD : va_D A ((a, .inr (8, [.ref q0, .ref q1, .null, .int 0])) :: _) := hD
  refine lv_aload_n (k := 0) (i := 0) (x := a) hx hb (by decide +kernel) rfl (lv_at hl 0 rfl) ?_
  refine lv_bipush (n := 30) (v := 30) hx hb (by decide +kernel) (by decide) ?_
  refine nwA (t := 0) (N := 30) (Or.inl ⟨rfl, rfl, rfl⟩) X (by decide) (by decide) (by decide) (by decide) (by decide) hP hD hS (by decide +kernel) (fun q2 H2 hP hD hS => ?_)
  refine ptF (k := 2) (i := 18) (ci := 8) (v := .ref q2) (ty := .array .int) X hname (by decide +kernel) (by decide +kernel) (by decide +kernel) rfl rfl (by exact (show 2 < 4 from by decide)) hP hD hS (by decide +kernel) (fun G13 locs13 hP hD hS => ?_)
  have hP : va_P D vwCl ((a, .inr (8, [.ref q0, .ref q1, .ref q2, .int 0])) :: _) G13 := hP
  have hD : va_D A ((a, .inr (8, [.ref q0, .ref q1, .ref q2, .int 0])) :: _) := hD
  exact retC (q := fun t => ([fun _ => q0, fun _ => q1, fun _ => q2] : List (Nat → Nat)).getD t (fun _ => 0)) X hr hlocks (by decide +kernel) hP hD hS (fun z hz => hz) (fun h => h) (by decide) (by decide)
def shp5 (kx : Nat → ClassId) (s5 a : Nat) (q : Nat → Nat → Nat) : va_W := (a, .inr (9, [.ref (q 0 0), .int 0, .ref (q 1 0), .int 0, .int 0, .ref s5])) :: ((q 1 0, .inl (kx 0, 40, .inl (fun _ => 0))) :: ((q 0 0, .inl (kx 0, 40, .inl (fun _ => 0))) :: []))
set_option maxHeartbeats 4000000 in
set_option maxRecDepth 20000 in
theorem ct5 : MCT l kx D s5 5 9 { frames := 1, cells := 2, slots := 80, locals := 64 } [.null, .int 0, .null, .int 0, .int 0, .null] (shp5 kx s5) := by
  refine mct_of (by decide +kernel) (by decide +kernel) (fun a p e s m args below meth c A ls X hN hname hr hlocks hP hD hl => ?_)
  obtain ⟨⟨hx, hb, hml⟩, hts, hown, hK, hA⟩ := id X
  have hS : va_S A s.heap s.heap [] := va_S.rf
  refine lv_aload_n (k := 0) (i := 0) (x := a) hx hb (by decide +kernel) rfl (lv_at hl 0 rfl) ?_
  refine obI (i := 1) X (tblG_of (by decide +kernel) rfl) hl.1 (by decide) (by decide) (by decide +kernel) ?_
  refine lv_aload_n (k := 0) (i := 0) (x := a) hx hb (by decide +kernel) rfl (lv_at hl 0 rfl) ?_
  refine lv_bipush (n := 40) (v := 40) hx hb (by decide +kernel) (by decide) ?_
  refine nwA (t := 0) (N := 40) (Or.inl ⟨rfl, rfl, rfl⟩) X (by decide) (by decide) (by decide) (by decide) (by decide) hP hD hS (by decide +kernel) (fun q0 H0 hP hD hS => ?_)
  refine ptF (k := 0) (i := 9) (ci := 9) (v := .ref q0) (ty := .array .int) X hname (by decide +kernel) (by decide +kernel) (by decide +kernel) rfl rfl (by exact (show 0 < 6 from by decide)) hP hD hS (by decide +kernel) (fun G5 locs5 hP hD hS => ?_)
  have hP : va_P D vwCl ((a, .inr (9, [.ref q0, .int 0, .null, .int 0, .int 0, .null])) :: _) G5 := hP
  have hD : va_D A ((a, .inr (9, [.ref q0, .int 0, .null, .int 0, .int 0, .null])) :: _) := hD
  refine lv_aload_n (k := 0) (i := 0) (x := a) hx hb (by decide +kernel) rfl (lv_at hl 0 rfl) ?_
  refine lv_bipush (n := 40) (v := 40) hx hb (by decide +kernel) (by decide) ?_
  refine nwA (t := 0) (N := 40) (Or.inl ⟨rfl, rfl, rfl⟩) X (by decide) (by decide) (by decide) (by decide) (by decide) hP hD hS (by decide +kernel) (fun q1 H1 hP hD hS => ?_)
  refine ptF (k := 2) (i := 13) (ci := 9) (v := .ref q1) (ty := .array .int) X hname (by decide +kernel) (by decide +kernel) (by decide +kernel) rfl rfl (by exact (show 2 < 6 from by decide)) hP hD hS (by decide +kernel) (fun G9 locs9 hP hD hS => ?_)
  have hP : va_P D vwCl ((a, .inr (9, [.ref q0, .int 0, .ref q1, .int 0, .int 0, .null])) :: _) G9 := hP
  have hD : va_D A ((a, .inr (9, [.ref q0, .int 0, .ref q1, .int 0, .int 0, .null])) :: _) := hD
  refine lv_aload_n (k := 0) (i := 0) (x := a) hx hb (by decide +kernel) rfl (lv_at hl 0 rfl) ?_
  refine va_ldcS (index := 16) hx hb hown (hN.2.2 (RN (owM 5)) 16 "hpgdy" (by decide +kernel) rfl) (by decide +kernel) ?_
  refine ptF (k := 5) (i := 18) (ci := 9) (v := .ref s5) (ty := .object "java/lang/String") X hname (by decide +kernel) (by decide +kernel) (by decide +kernel) rfl rfl (by exact (show 5 < 6 from by decide)) hP hD hS (by decide +kernel) (fun G12 locs12 hP hD hS => ?_)
  have hP : va_P D vwCl ((a, .inr (9, [.ref q0, .int 0, .ref q1, .int 0, .int 0, .ref s5])) :: _) G12 := hP
  have hD : va_D A ((a, .inr (9, [.ref q0, .int 0, .ref q1, .int 0, .int 0, .ref s5])) :: _) := hD
  exact retC (q := fun t => ([fun _ => q0, fun _ => q1] : List (Nat → Nat)).getD t (fun _ => 0)) X hr hlocks (by decide +kernel) hP hD hS (fun z hz => hz) (fun h => h) (by decide) (by decide)
def shp6 (kx : Nat → ClassId) (s5 a : Nat) (q : Nat → Nat → Nat) : va_W := (a, .inr (10, [.ref (q 0 0), .ref (q 2 0), .int 0])) :: ((q 2 0, .inl (kx 0, 20, .inl (fun _ => 0))) :: ((q 0 0, .inl (kx 2, 20, .inr (.inr (.inr (.inr (fun j => if j < 20 then some (q 1 j) else none)))))) :: ((List.range 20).map (fun j => ((q 1 j, .inl (kx 0, 40, .inl fun _ => 0)) : Nat × va_E)) ++ [])))
set_option maxHeartbeats 4000000 in
set_option maxRecDepth 20000 in
theorem ct6 : MCT l kx D s5 6 10 { frames := 1, cells := 22, slots := 840, locals := 64 } [.null, .null, .int 0] (shp6 kx s5) := by
  refine mct_of (by decide +kernel) (by decide +kernel) (fun a p e s m args below meth c A ls X hN hname hr hlocks hP hD hl => ?_)
  obtain ⟨⟨hx, hb, hml⟩, hts, hown, hK, hA⟩ := id X
  have hS : va_S A s.heap s.heap [] := va_S.rf
  refine lv_aload_n (k := 0) (i := 0) (x := a) hx hb (by decide +kernel) rfl (lv_at hl 0 rfl) ?_
  refine obI (i := 1) X (tblG_of (by decide +kernel) rfl) hl.1 (by decide) (by decide) (by decide +kernel) ?_
  refine lv_aload_n (k := 0) (i := 0) (x := a) hx hb (by decide +kernel) rfl (lv_at hl 0 rfl) ?_
  refine lv_bipush (n := 20) (v := 20) hx hb (by decide +kernel) (by decide) ?_
  refine lv_bipush (n := 40) (v := 40) hx hb (by decide +kernel) (by decide) ?_
  refine nwM (i := 11) (N := 20) (K := 40) X hN (tblG_of (by decide +kernel) rfl) (by decide) (by decide) (by decide) (by decide) (by decide) (by decide) (by decide) hP hD hS (by decide +kernel) (fun q0 r0 H0 hP hD hS => ?_)
  refine ptF (k := 0) (i := 13) (ci := 10) (v := .ref q0) (ty := .array (.array .int)) X hname (by decide +kernel) (by decide +kernel) (by decide +kernel) rfl rfl (by exact (show 0 < 3 from by decide)) hP hD hS (by decide +kernel) (fun G6 locs6 hP hD hS => ?_)
  have hP : va_P D vwCl ((a, .inr (10, [.ref q0, .null, .int 0])) :: _) G6 := hP
  have hD : va_D A ((a, .inr (10, [.ref q0, .null, .int 0])) :: _) := hD
  refine lv_aload_n (k := 0) (i := 0) (x := a) hx hb (by decide +kernel) rfl (lv_at hl 0 rfl) ?_
  refine lv_bipush (n := 20) (v := 20) hx hb (by decide +kernel) (by decide) ?_
  refine nwA (t := 0) (N := 20) (Or.inl ⟨rfl, rfl, rfl⟩) X (by decide) (by decide) (by decide) (by decide) (by decide) hP hD hS (by decide +kernel) (fun q2 H2 hP hD hS => ?_)
  refine ptF (k := 1) (i := 16) (ci := 10) (v := .ref q2) (ty := .array .int) X hname (by decide +kernel) (by decide +kernel) (by decide +kernel) rfl rfl (by exact (show 1 < 3 from by decide)) hP hD hS (by decide +kernel) (fun G10 locs10 hP hD hS => ?_)
  have hP : va_P D vwCl ((a, .inr (10, [.ref q0, .ref q2, .int 0])) :: _) G10 := hP
  have hD : va_D A ((a, .inr (10, [.ref q0, .ref q2, .int 0])) :: _) := hD
  exact retC (q := fun t => ([fun _ => q0, r0, fun _ => q2] : List (Nat → Nat)).getD t (fun _ => 0)) X hr hlocks (by decide +kernel) hP hD hS (fun z hz => hz) (fun h => h) (by decide) (by decide)
end
