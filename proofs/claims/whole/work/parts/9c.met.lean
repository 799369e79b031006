/-! the text constants' methods -/
theorem lg1 : ∀ (l : List Value), (∀ v ∈ l, v.category = 1) → (lg_sl l).length = l.length
  | [], _ => rfl
  | v :: l, h => by
    rw [lg_cons, List.length_append, lg1 l (fun u hu => h u (List.mem_cons_of_mem _ hu)), if_neg (by rw [h v List.mem_cons_self]; decide)]
    show 1 + l.length = l.length + 1
    omega
theorem lg1b {l : List Value} (h : l.all (fun v => Nat.beq v.category 1) = true) : (lg_sl l).length = l.length := lg1 l (fun v hv => Nat.eq_of_beq_eq_true (List.all_eq_true.mp h v hv))
theorem ch_ok : ∀ i, i < 2 → ∀ j, j < lS i → ¬ Int32.ofInt (j : Int) < 0 ∧ Int32.ofInt (j : Int) < Int32.ofNat (lS i) ∧ (Int32.ofInt (j : Int)).toNatClampNeg = j ∧ ((Int32.ofInt (chA (1000 + i) (j : Int)) &&& 255).toUInt32 % 65536).toInt32 = Int32.ofInt (chA (1000 + i) (j : Int)) ∧ narrow .char (.int (Int32.ofInt (chA (1000 + i) (j : Int)))) = .int (Int32.ofInt (chA (1000 + i) (j : Int))) := by decide +kernel
theorem ch_in : ∀ i, i < 2 → ∀ j, j < lS i → -2147483648 ≤ chA (1000 + i) (j : Int) ∧ chA (1000 + i) (j : Int) < 2147483648 := by decide +kernel
theorem ls_in (i : Nat) : in32 ((lS i : Nat) : Int) := by
  have : lS i ≤ 5 := by unfold lS; split <;> omega
  exact ⟨by omega, by omega⟩
section
variable {l : Launch} {ad : Nat → Nat} {kx : Nat → ClassId} {D : va_G} {w : Wd}
theorem M60 (hwf : wfW w) {i n : Int32} {v : Value} (hv : v.category = 1) (h0 : ¬ i < 0) (hn : i < n) : MOR (SFX ad kx D) l ad kx D (rz 1) 60 [.int i, .int n, v] w (fun v w' => v = some (.inl i.toInt) ∧ w' = w) := by
  refine mor_of (SFX_ok ad kx D) hwf (by decide) (by decide +kernel) ?_ (fun p e s m args below meth c A ls X hP hD hl => ?_)
  · rw [lg1]
    · exact (by decide +kernel : 3 ≤ mlM 60)
    · intro u hu
      simp only [List.mem_cons, List.not_mem_nil, or_false] at hu
      rcases hu with rfl | rfl | rfl
      · rfl
      · rfl
      · exact hv
  obtain ⟨⟨hx, hb, hml, hr, hlocks⟩, hts, hown, hK, hA, hF, hSF, hw⟩ := id X
  refine lv_iload_n (k := 0) (i := 0) (x := i) hx hb (by decide +kernel) rfl (lv_at hl 0 rfl) ?_
  refine lv_if_lt (off := 8) (tgt := 9) hx hb (by decide +kernel) rfl (fun q => absurd q h0) (fun _ => ?_)
  refine lv_iload_n (k := 0) (i := 0) (x := i) hx hb (by decide +kernel) rfl (lv_at hl 0 rfl) ?_
  refine lv_iload_n (k := 1) (i := 1) (x := n) hx hb (by decide +kernel) rfl (lv_at hl 1 rfl) ?_
  refine lv_icmp_lt (off := 10) (tgt := 16) hx hb (by decide +kernel) rfl (fun _ => ?_) (fun q => absurd hn q)
  refine lv_iload_n (k := 0) (i := 0) (x := i) hx hb (by decide +kernel) rfl (lv_at hl 0 rfl) ?_
  exact retI X (ty := .int) rfl rfl (by decide +kernel) ⟨rfl, rfl⟩ hP hD va_S.rf
theorem M59 (hwf : wfW w) {i n : Int32} (h0 : ¬ i < 0) (hn : i < n) : MOR (SFX ad kx D) l ad kx D (rz 2) 59 [.int i, .int n] w (fun v w' => v = none ∧ w' = w) := by
  refine mor_of (SFX_ok ad kx D) hwf (by decide) (by decide +kernel) (by rw [lg1b rfl]; exact (by decide +kernel : 2 ≤ mlM 59)) (fun p e s m args below meth c A ls X hP hD hl => ?_)
  obtain ⟨⟨hx, hb, hml, hr, hlocks⟩, hts, hown, hK, hA, hF, hSF, hw⟩ := id X
  refine lv_iload_n (k := 0) (i := 0) (x := i) hx hb (by decide +kernel) rfl (lv_at hl 0 rfl) ?_
  refine lv_iload_n (k := 1) (i := 1) (x := n) hx hb (by decide +kernel) rfl (lv_at hl 1 rfl) ?_
  have go : ∀ v : Value, v.category = 1 → va_Z "jdk/internal/util/Preconditions" "SIOOBE_FORMATTER" "Ljava/util/function/BiFunction;" v A s s.heap → W p l e (rz 2) s m args below meth c s.heap [] 0 0 (MQ below (Qx ad kx D A (fun v w' => v = none ∧ w' = w) (rM 59)) args s 0 0 A) (F0 m (0 + 1 + 1) ls [.int n, .int i]) := by
    intro v hv hZ
    refine va_gets (own := RN (owM 59)) (ref := "jdk/internal/util/Preconditions") (index := 1053) hx hb hZ va_S.rf hown (hts _ (tblG_of (by decide +kernel) rfl)) (fun _ z => z) (by decide +kernel) ?_
    refine callS_r (own := owM 59) (i := 1059) (k := 60) (d := 1) (av := [.int i, .int n, v]) (rest := []) (z := i) (ty := .int) hF hSF (M60 hwf hv h0 hn) rfl (by decide +kernel) rfl rfl (by decide) (by decide +kernel) (Nat.le_refl _) (Nat.le_refl _) hK hA hml hts hown (tblG_of (by decide +kernel) rfl) hx hb (by decide +kernel) hl.1 (by decide) hP hD va_S.rf (fun H1 locs1 hP1 hS1 => ?_)
    refine lv_pop hx hb (by decide +kernel) rfl ?_
    exact retV X rfl (by decide +kernel) ⟨rfl, rfl⟩ hP1 hD hS1
  rcases hSF.2.2.1 with hZ | ⟨t, hZ⟩
  · exact go _ rfl hZ
  · exact go _ rfl hZ
theorem M58 (hwf : wfW w) {i j : Nat} (hi : i < 2) (hj : j < lS i) : MOR (SFX ad kx D) l ad kx D (rz 3) 58 [.ref (ad (1002 + i)), .int (Int32.ofInt (j : Int))] w (fun v w' => v = some (.inl (Int32.ofInt (chA (1000 + i) (j : Int))).toInt) ∧ w' = w) := by
  obtain ⟨c1, c2, c3, c4, c5⟩ := ch_ok i hi j hj
  refine mor_of (SFX_ok ad kx D) hwf (by decide) (by decide +kernel) (by rw [lg1b rfl]; exact (by decide +kernel : 2 ≤ mlM 58)) (fun p e s m args below meth c A ls X hP hD hl => ?_)
  obtain ⟨⟨hx, hb, hml, hr, hlocks⟩, hts, hown, hK, hA, hF, hSF, hw⟩ := id X
  have hT := (hSF.1 i hi).2.2.2
  refine lv_iload_n (k := 1) (i := 1) (x := Int32.ofInt (j : Int)) hx hb (by decide +kernel) rfl (lv_at hl 1 rfl) ?_
  refine lv_aload_n (k := 0) (i := 0) (x := ad (1002 + i)) hx hb (by decide +kernel) rfl (lv_at hl 0 rfl) ?_
  refine sz_alen hx hb hT va_S.rf (by decide +kernel) ?_
  refine callS_v (own := owM 58) (i := 9) (k := 59) (d := 2) (av := [.int (Int32.ofInt (j : Int)), .int (Int32.ofNat (lS i))]) (rest := []) hF hSF (M59 hwf c1 c2) rfl (by decide +kernel) rfl rfl (by decide) (by decide +kernel) (Nat.le_refl _) (Nat.le_refl _) hK hA hml hts hown (tblG_of (by decide +kernel) rfl) hx hb (by decide +kernel) hl.1 (by decide) hP hD va_S.rf (fun H1 locs1 hP1 hS1 => ?_)
  refine lv_aload_n (k := 0) (i := 0) (x := ad (1002 + i)) hx hb (by decide +kernel) rfl (lv_at hl 0 rfl) ?_
  refine lv_iload_n (k := 1) (i := 1) (x := Int32.ofInt (j : Int)) hx hb (by decide +kernel) rfl (lv_at hl 1 rfl) ?_
  refine sz_bald hx hb hT hS1 (by rw [c3]; exact fun z => z.elim c1 (fun q => by omega)) (by decide +kernel) ?_
  rw [c3]
  refine lv_sipush (n := 255) (v := 255) hx hb (by decide +kernel) (by decide) ?_
  refine lv_iand hx hb (by decide +kernel) ?_
  refine lv_i2c hx hb (by decide +kernel) c4 ?_
  exact retI X (ty := .char) rfl c5 (by decide +kernel) ⟨rfl, rfl⟩ hP1 hD hS1
theorem M57 (hwf : wfW w) {i : Nat} (hi : i < 2) : MOR (SFX ad kx D) l ad kx D (rz 1) 57 [.ref (ad (1000 + i))] w (fun v w' => v = some (.inl (1 : Int32).toInt) ∧ w' = w) := by
  refine mor_of (SFX_ok ad kx D) hwf (by decide) (by decide +kernel) (by rw [lg1b rfl]; exact (by decide +kernel : 1 ≤ mlM 57)) (fun p e s m args below meth c A ls X hP hD hl => ?_)
  obtain ⟨⟨hx, hb, hml, hr, hlocks⟩, hts, hown, hK, hA, hF, hSF, hw⟩ := id X
  refine va_gets (own := RN (owM 57)) (ref := "java/lang/String") (index := 38) hx hb hSF.2.1 va_S.rf hown (hts _ (tblG_of (by decide +kernel) rfl)) (fun _ z => z) (by decide +kernel) ?_
  refine lv_if_eq (off := 14) (tgt := 17) hx hb (by decide +kernel) rfl (fun q => absurd q (by decide)) (fun _ => ?_)
  refine lv_aload_n (k := 0) (i := 0) (x := ad (1000 + i)) hx hb (by decide +kernel) rfl (lv_at hl 0 rfl) ?_
  refine vk_getf (own := RN (owM 57)) (ref := "java/lang/String") (index := 15) hx hb (hSF.1 i hi).2.1 va_S.rf hown (hts _ (tblG_of (by decide +kernel) rfl)) (fun _ z => z) (by decide +kernel) ?_
  refine lv_if_ne (off := 7) (tgt := 17) hx hb (by decide +kernel) rfl (fun q => absurd rfl q) (fun _ => ?_)
  refine lv_iconst (n := 1) (v := 1) hx hb (by decide +kernel) rfl ?_
  refine lv_goto (off := 4) (tgt := 18) hx hb (by decide +kernel) rfl ?_
  exact retI X (ty := .boolean) rfl (by decide) (by decide +kernel) ⟨rfl, rfl⟩ hP hD va_S.rf
theorem M55 (hwf : wfW w) {i : Nat} (hi : i < 2) : MOR (SFX ad kx D) l ad kx D (rz 1) 55 [.ref (ad (1000 + i))] w (fun v w' => v = some (.inl (0 : Int32).toInt) ∧ w' = w) := by
  refine mor_of (SFX_ok ad kx D) hwf (by decide) (by decide +kernel) (by rw [lg1b rfl]; exact (by decide +kernel : 1 ≤ mlM 55)) (fun p e s m args below meth c A ls X hP hD hl => ?_)
  obtain ⟨⟨hx, hb, hml, hr, hlocks⟩, hts, hown, hK, hA, hF, hSF, hw⟩ := id X
  refine va_gets (own := RN (owM 55)) (ref := "java/lang/String") (index := 38) hx hb hSF.2.1 va_S.rf hown (hts _ (tblG_of (by decide +kernel) rfl)) (fun _ z => z) (by decide +kernel) ?_
  refine lv_if_eq (off := 10) (tgt := 13) hx hb (by decide +kernel) rfl (fun q => absurd q (by decide)) (fun _ => ?_)
  refine lv_aload_n (k := 0) (i := 0) (x := ad (1000 + i)) hx hb (by decide +kernel) rfl (lv_at hl 0 rfl) ?_
  refine vk_getf (own := RN (owM 55)) (ref := "java/lang/String") (index := 15) hx hb (hSF.1 i hi).2.1 va_S.rf hown (hts _ (tblG_of (by decide +kernel) rfl)) (fun _ z => z) (by decide +kernel) ?_
  refine lv_goto (off := 4) (tgt := 14) hx hb (by decide +kernel) rfl ?_
  exact retI X (ty := .byte) rfl (by decide) (by decide +kernel) ⟨rfl, rfl⟩ hP hD va_S.rf
theorem recvS {SFx : SFT} {A : Nat → Prop} {s : State} {H : Heap} {locs : List Loc} {i : Nat} (hi : i < 2) (hSF : SFX ad kx D A s s.heap) (hS : va_S A s.heap H locs) : ∃ cell : Cell, H[ad (1000 + i)]? = some cell ∧ cell.vm.isStatics = false ∧ s.vm.findClass "java/lang/String" = some cell.cls := by
  obtain ⟨cell, h1, h2, h3, -⟩ := (hSF.1 i hi).1.kept hS.2.1
  exact ⟨cell, h1, h2, h3⟩
theorem M54 (hwf : wfW w) {i : Nat} (hi : i < 2) : MOR (SFX ad kx D) l ad kx D (rz 2) 54 [.ref (ad (1000 + i))] w (fun v w' => v = some (.inl (Int32.ofNat (lS i)).toInt) ∧ w' = w) := by
  refine mor_of (SFX_ok ad kx D) hwf (by decide) (by decide +kernel) (by rw [lg1b rfl]; exact (by decide +kernel : 1 ≤ mlM 54)) (fun p e s m args below meth c A ls X hP hD hl => ?_)
  obtain ⟨⟨hx, hb, hml, hr, hlocks⟩, hts, hown, hK, hA, hF, hSF, hw⟩ := id X
  refine lv_aload_n (k := 0) (i := 0) (x := ad (1000 + i)) hx hb (by decide +kernel) rfl (lv_at hl 0 rfl) ?_
  refine vk_getf (own := RN (owM 54)) (ref := "java/lang/String") (index := 9) hx hb (hSF.1 i hi).2.2.1 va_S.rf hown (hts _ (tblG_of (by decide +kernel) rfl)) (fun _ z => z) (by decide +kernel) ?_
  refine sz_alen hx hb (hSF.1 i hi).2.2.2 va_S.rf (by decide +kernel) ?_
  refine lv_aload_n (k := 0) (i := 0) (x := ad (1000 + i)) hx hb (by decide +kernel) rfl (lv_at hl 0 rfl) ?_
  refine callV_r (own := owM 54) (i := 335) (k := 55) (d := 1) (av := []) (b := ad (1000 + i)) (rest := [.int (Int32.ofNat (lS i))]) (z := 0) (ty := .byte) hF hSF (M55 hwf hi) rfl (by decide +kernel) rfl rfl (by decide) (by decide +kernel) (Nat.le_refl _) (Nat.le_refl _) hK hA hml hts hown (tblG_of (by decide +kernel) rfl) hx hb (by decide +kernel) hl.1 (show ([.int (Int32.ofNat (lS i))] : List Value).length ≤ 8 from by show 1 ≤ 8; decide) (recvS (SFx := SFX ad kx D) hi hSF va_S.rf) hP hD va_S.rf (fun H1 locs1 hP1 hS1 => ?_)
  refine lv_ishr hx hb (by decide +kernel) ?_
  have e : Int32.ofNat (lS i) >>> ((0 : Int32) &&& 31) = Int32.ofNat (lS i) := by
    rcases (by omega : i = 0 ∨ i = 1) with rfl | rfl <;> decide
  rw [e]
  exact retI X (ty := .int) rfl rfl (by decide +kernel) ⟨rfl, rfl⟩ hP1 hD hS1
theorem M56 (hwf : wfW w) {i j : Nat} (hi : i < 2) (hj : j < lS i) : MOR (SFX ad kx D) l ad kx D (rz 4) 56 [.ref (ad (1000 + i)), .int (Int32.ofInt (j : Int))] w (fun v w' => v = some (.inl (Int32.ofInt (chA (1000 + i) (j : Int))).toInt) ∧ w' = w) := by
  obtain ⟨c1, c2, c3, c4, c5⟩ := ch_ok i hi j hj
  refine mor_of (SFX_ok ad kx D) hwf (by decide) (by decide +kernel) (by rw [lg1b rfl]; exact (by decide +kernel : 2 ≤ mlM 56)) (fun p e s m args below meth c A ls X hP hD hl => ?_)
  obtain ⟨⟨hx, hb, hml, hr, hlocks⟩, hts, hown, hK, hA, hF, hSF, hw⟩ := id X
  refine lv_aload_n (k := 0) (i := 0) (x := ad (1000 + i)) hx hb (by decide +kernel) rfl (lv_at hl 0 rfl) ?_
  refine callV_r (own := owM 56) (i := 492) (k := 57) (d := 1) (av := []) (b := ad (1000 + i)) (rest := []) (z := 1) (ty := .boolean) hF hSF (M57 hwf hi) rfl (by decide +kernel) rfl rfl (by decide) (by decide +kernel) (Nat.le_refl _) (Nat.le_refl _) hK hA hml hts hown (tblG_of (by decide +kernel) rfl) hx hb (by decide +kernel) hl.1 (by decide) (recvS (SFx := SFX ad kx D) hi hSF va_S.rf) hP hD va_S.rf (fun H1 locs1 hP1 hS1 => ?_)
  refine lv_if_eq (off := 12) (tgt := 16) hx hb (by decide +kernel) rfl (fun q => absurd q (by decide)) (fun _ => ?_)
  refine lv_aload_n (k := 0) (i := 0) (x := ad (1000 + i)) hx hb (by decide +kernel) rfl (lv_at hl 0 rfl) ?_
  refine vk_getf (own := RN (owM 56)) (ref := "java/lang/String") (index := 9) hx hb (hSF.1 i hi).2.2.1 hS1 hown (hts _ (tblG_of (by decide +kernel) rfl)) (fun _ z => z) (by decide +kernel) ?_
  refine lv_iload_n (k := 1) (i := 1) (x := Int32.ofInt (j : Int)) hx hb (by decide +kernel) rfl (lv_at hl 1 rfl) ?_
  refine callS_r (own := owM 56) (i := 495) (k := 58) (d := 3) (av := [.ref (ad (1002 + i)), .int (Int32.ofInt (j : Int))]) (rest := []) (z := Int32.ofInt (chA (1000 + i) (j : Int))) (ty := .char) hF hSF (M58 hwf hi hj) rfl (by decide +kernel) rfl rfl (by decide) (by decide +kernel) (Nat.le_refl _) (Nat.le_refl _) hK hA hml hts hown (tblG_of (by decide +kernel) rfl) hx hb (by decide +kernel) hl.1 (by decide) hP1 hD hS1 (fun H2 locs2 hP2 hS2 => ?_)
  exact retI X (ty := .char) rfl c5 (by decide +kernel) ⟨rfl, rfl⟩ hP2 hD hS2
theorem zok : ZOK (SFX ad kx D) l ad kx D := by
  intro p e R s m args below meth c cells slots QW A nL k h0 hA hSF hRf hRl hcl hsl
  obtain ⟨hx, hb, hml, hts, hown⟩ := h0
  have hF := SFX_ok ad kx D
  have hK := hSF.2.2.2.2
  refine ⟨?_, ?_, ?_⟩
  · intro pc i ls st w q hd hlk ho hq h hw hst hls hnl H locs lsA hP hD hS hL
    have go : ∀ i0, i0 < 2 → q = 1000 + i0 → (if q = 1000 then (5 : Int) else 4) = ((lS i0 : Nat) : Int) → W p l e R s m args below meth c H locs cells slots QW (F0 m pc lsA (.ref (ad (1000 + i0)) :: st.map (cv ad))) := by
      intro i0 hi0 e0 e1
      refine callV_r (own := owM k) (k := 54) (d := 2) (av := []) (b := ad (1000 + i0)) (rest := st.map (cv ad)) (z := Int32.ofNat (lS i0)) (ty := .int) hF hSF (M54 hw hi0) rfl (by decide +kernel) rfl rfl (by omega) (Nat.le_trans (by decide +kernel) hRl) hcl hsl hK hA hml hts hown hlk hx hb hd hL.1 (okr_ok ho) (recvS (SFx := SFX ad kx D) hi0 hSF hS) hP hD hS (fun H1 locs1 hP1 hS1 => ?_)
      rw [e1] at h
      exact h hw (fa_cons (show okA (.inl ((lS i0 : Nat) : Int)) from ls_in i0) (fa_tail hst)) hls hnl H1 locs1 lsA hP1 hD hS1 hL
    rcases hq with rfl | rfl
    · exact go 0 (by decide) rfl rfl
    · exact go 1 (by decide) rfl rfl
  · intro pc i ls st w q z hd hlk ho hq h hw hst hls hnl H locs lsA hP hD hS hL
    have go : ∀ i0 j : Nat, i0 < 2 → j < lS i0 → q = 1000 + i0 → z = (j : Int) → W p l e R s m args below meth c H locs cells slots QW (F0 m pc lsA (.int (Int32.ofInt (j : Int)) :: .ref (ad (1000 + i0)) :: st.map (cv ad))) := by
      intro i0 j hi0 hj e0 e1
      subst e0 e1
      refine callV_r (own := owM k) (k := 56) (d := 4) (av := [.int (Int32.ofInt (j : Int))]) (b := ad (1000 + i0)) (rest := st.map (cv ad)) (z := Int32.ofInt (chA (1000 + i0) (j : Int))) (ty := .char) hF hSF (M56 hw hi0 hj) rfl (by decide +kernel) rfl rfl (by omega) (Nat.le_trans (by decide +kernel) hRl) hcl hsl hK hA hml hts hown hlk hx hb hd hL.1 (okr_ok ho) (recvS (SFx := SFX ad kx D) hi0 hSF hS) hP hD hS (fun H1 locs1 hP1 hS1 => ?_)
      exact h hw (fa_cons (show okA (.inl (chA (1000 + i0) (j : Int))) from ch_in i0 hi0 j hj) (fa_tail (fa_tail hst))) hls hnl H1 locs1 lsA hP1 hD hS1 hL
    rcases hq with ⟨rfl, z0, z5⟩ | ⟨rfl, z0, z4⟩
    · obtain ⟨j, rfl⟩ : ∃ j : Nat, z = (j : Int) := ⟨z.toNat, by omega⟩
      exact go 0 j (by decide) (show j < 5 by omega) rfl rfl
    · obtain ⟨j, rfl⟩ : ∃ j : Nat, z = (j : Int) := ⟨z.toNat, by omega⟩
      exact go 1 j (by decide) (show j < 4 by omega) rfl rfl
  · intro pc i ls st w q tx hd hlk hq h hw hst hls hnl H locs lsA hP hD hS hL
    have hR := hSF.2.2.2.1 _ _ _ hlk
    rcases hq with ⟨rfl, rfl⟩ | ⟨rfl, rfl⟩
    · exact va_ldcS hx hb hown (hR.1 rfl) hd (h hw (fa_cons trivial hst) hls hnl H locs lsA hP hD hS hL)
    · exact va_ldcS hx hb hown (hR.2 rfl) hd (h hw (fa_cons trivial hst) hls hnl H locs lsA hP hD hS hL)
end
