/-! the JDK's own: max, min, arraycopy; then the whole step -/
theorem jm_max : Cond.code Lib.Math.max.name Lib.Math.max.code 2 (some .int) ∈ tblG := tblG_at (i := 585) (by decide +kernel) rfl
theorem jm_min : Cond.code Lib.Math.min.name Lib.Math.min.code 2 (some .int) ∈ tblG := tblG_at (i := 579) (by decide +kernel) rfl
theorem js_max : Cond.static Lib.Math.max.name ∈ tblG := tblG_at (i := 584) (by decide +kernel) rfl
theorem js_min : Cond.static Lib.Math.min.name ∈ tblG := tblG_at (i := 578) (by decide +kernel) rfl
theorem ji_math : Cond.initialized "java/lang/Math" ∈ tblG := tblG_at (i := 84) (by decide +kernel) rfl
theorem jn_cpy : Cond.native arraycopyName ∈ tblG := tblG_at (i := 751) (by decide +kernel) rfl
theorem js_cpy : Cond.static arraycopyName ∈ tblG := tblG_at (i := 750) (by decide +kernel) rfl
theorem ji_sys : Cond.initialized "java/lang/System" ∈ tblG := tblG_at (i := 90) (by decide +kernel) rfl
theorem chB_ok {own i : Nat} {y : MethodName} (h : chB own i y = true) : Cond.methodLink (RN own) i y ∈ tblG := tblG_at (of_decide_eq_true h) rfl
section SNJ
variable {p : Program} {l : Launch} {e : Env} {R : Room} {s : State} {m : MethodId} {args : Array Value} {below : List Frame} {meth : Method} {c : Code} {cells slots : Nat} {QW : State → Prop} {ad : Nat → Nat} {kx : Nat → ClassId} {D : va_G} {A : Nat → Prop} {nL : Nat} {cc : ByteArray} {pc : Nat} {ls : AL} {st : List AV} {w : Wd}
theorem sn_max {own i : Nat} (hR1 : 1 ≤ R.frames) (hR2 : 64 ≤ R.locals) (hcl : cells ≤ R.cells) (hsl : slots ≤ R.slots) (hml : c.maxLocals = nL) (hts : ∀ w ∈ tblG, w.before args s = true) (hown : s.vm.findClass (RN own) = some m.cls) (hlk : Cond.methodLink (RN own) i ⟨"java/lang/Math", "max", "(II)I"⟩ ∈ tblG) (hx : p.tables.exec = Jvm.exec) (hb : c.code = cc) (hdg : decode cc pc = .ok (.invokestatic i, 3)) (h : pI st fun b st => pI st fun a st => cond (okr st) (SAT p l e R s m args below meth c cells slots QW ad kx D A nL (pc + 3, ls, .inl (max a b) :: st, w)) False) : SAT p l e R s m args below meth c cells slots QW ad kx D A nL (pc, ls, st, w) := by
  intro hw hst hls hnl H locs lsA hP hD hS hL
  have h9 := pI_ok h
  clear h
  obtain ⟨b, st1, rfl, h⟩ := h9
  have h9 := pI_ok h
  clear h
  obtain ⟨a, st2, rfl, h⟩ := h9
  cases hk : okr st2 with
  | false => rw [hk] at h; exact h.elim
  | true =>
    rw [hk] at h
    simp only [cond_true] at h
    have hbb : in32 b := fa_head hst
    have ha : in32 a := fa_head (fa_tail hst)
    have hr := okr_ok (ad := ad) hk
    refine va_mmax hx hb (hml.trans hL.1.symm) hown (hts _ hlk) (hts _ js_max) (hts _ ji_math) (hts _ jm_max) hR1 (by omega) hcl hsl hdg ?_
    have e : (if Int32.ofInt a < Int32.ofInt b then Int32.ofInt b else Int32.ofInt a) = Int32.ofInt (max a b) := by
      by_cases q : a < b
      · rw [if_pos ((oi_lt ha hbb).mpr q), Int.max_eq_right (by omega)]
      · rw [if_neg (fun z => q ((oi_lt ha hbb).mp z)), Int.max_eq_left (by omega)]
    rw [e]
    exact h hw (fa_cons (show okA (.inl (max a b)) by unfold okA; rcases Int.le_total a b with q | q <;> simp only [Int.max_eq_right, Int.max_eq_left, q] <;> assumption) (fa_tail (fa_tail hst))) hls hnl H locs lsA hP hD hS hL
theorem sn_min {own i : Nat} (hR1 : 1 ≤ R.frames) (hR2 : 64 ≤ R.locals) (hcl : cells ≤ R.cells) (hsl : slots ≤ R.slots) (hml : c.maxLocals = nL) (hts : ∀ w ∈ tblG, w.before args s = true) (hown : s.vm.findClass (RN own) = some m.cls) (hlk : Cond.methodLink (RN own) i ⟨"java/lang/Math", "min", "(II)I"⟩ ∈ tblG) (hx : p.tables.exec = Jvm.exec) (hb : c.code = cc) (hdg : decode cc pc = .ok (.invokestatic i, 3)) (h : pI st fun b st => pI st fun a st => cond (okr st) (SAT p l e R s m args below meth c cells slots QW ad kx D A nL (pc + 3, ls, .inl (min a b) :: st, w)) False) : SAT p l e R s m args below meth c cells slots QW ad kx D A nL (pc, ls, st, w) := by
  intro hw hst hls hnl H locs lsA hP hD hS hL
  have h9 := pI_ok h
  clear h
  obtain ⟨b, st1, rfl, h⟩ := h9
  have h9 := pI_ok h
  clear h
  obtain ⟨a, st2, rfl, h⟩ := h9
  cases hk : okr st2 with
  | false => rw [hk] at h; exact h.elim
  | true =>
    rw [hk] at h
    simp only [cond_true] at h
    have hbb : in32 b := fa_head hst
    have ha : in32 a := fa_head (fa_tail hst)
    have hr := okr_ok (ad := ad) hk
    refine va_mmin hx hb (hml.trans hL.1.symm) hown (hts _ hlk) (hts _ js_min) (hts _ ji_math) (hts _ jm_min) hR1 (by omega) hcl hsl hdg ?_
    have e : (if Int32.ofInt b < Int32.ofInt a then Int32.ofInt b else Int32.ofInt a) = Int32.ofInt (min a b) := by
      by_cases q : b < a
      · rw [if_pos ((oi_lt hbb ha).mpr q), Int.min_eq_right (by omega)]
      · rw [if_neg (fun z => q ((oi_lt hbb ha).mp z)), Int.min_eq_left (by omega)]
    rw [e]
    exact h hw (fa_cons (show okA (.inl (min a b)) by unfold okA; rcases Int.le_total a b with q | q <;> simp only [Int.min_eq_right, Int.min_eq_left, q] <;> assumption) (fa_tail (fa_tail hst))) hls hnl H locs lsA hP hD hS hL
theorem wf_wcp {sr d : Nat} {sp dp n : Int} (hw : wfW w) : wfW (wcp w sr sp d dp n) := by
  intro c j
  unfold wcp
  split
  · exact hw _ _
  · exact hw c j
theorem sn_copy {own i : Nat} (hR1 : 1 ≤ R.frames) (hR2 : 64 ≤ R.locals) (hcl : cells ≤ R.cells) (hsl : slots ≤ R.slots) (hK : va_K D vwCl (tys0 kx) s) (hml : c.maxLocals = nL) (hts : ∀ w ∈ tblG, w.before args s = true) (hown : s.vm.findClass (RN own) = some m.cls) (hlk : Cond.methodLink (RN own) i arraycopyName ∈ tblG) (hx : p.tables.exec = Jvm.exec) (hb : c.code = cc) (hdg : decode cc pc = .ok (.invokestatic i, 3)) (h : pI st fun n st => pI st fun dp st => pR st fun d st => pI st fun sp st => pR st fun s1 st =>
        match shq s1, shq d with
        | .inl (t1, n1), .inl (t2, n2) => cond (okr st && (Nat.beq t1 0 && (Nat.beq t2 0 && !Nat.beq s1 d))) ((0 ≤ sp ∧ 0 ≤ dp ∧ 0 ≤ n ∧ sp + n ≤ n1 ∧ dp + n ≤ n2) ∧ SAT p l e R s m args below meth c cells slots QW ad kx D A nL (pc + 3, ls, st, wcp w s1 sp d dp n)) False
        | _, _ => False) : SAT p l e R s m args below meth c cells slots QW ad kx D A nL (pc, ls, st, w) := by
  intro hw hst hls hnl H locs lsA hP hD hS hL
  have h9 := pI_ok h
  clear h
  obtain ⟨n, st1, rfl, h⟩ := h9
  have h9 := pI_ok h
  clear h
  obtain ⟨dp, st2, rfl, h⟩ := h9
  have h9 := pR_ok h
  clear h
  obtain ⟨d, st3, rfl, h⟩ := h9
  have h9 := pI_ok h
  clear h
  obtain ⟨sp, st4, rfl, h⟩ := h9
  have h9 := pR_ok h
  clear h
  obtain ⟨s1, st5, rfl, h⟩ := h9
  have hn : in32 n := fa_head hst
  have hdp : in32 dp := fa_head (fa_tail hst)
  have hsp : in32 sp := fa_head (fa_tail (fa_tail (fa_tail hst)))
  split at h
  · rename_i t1 n1 t2 n2 e1 e2
    cases hk : (okr st5 && (Nat.beq t1 0 && (Nat.beq t2 0 && !Nat.beq s1 d))) with
    | false => rw [hk] at h; exact h.elim
    | true =>
      rw [hk] at h
      simp only [Bool.and_eq_true] at hk
      obtain ⟨k1, k2, k3, k4⟩ := hk
      obtain rfl := nb k2
      obtain rfl := nb k3
      have hne : s1 ≠ d := fun q => by rw [q] at k4; simp at k4
      obtain ⟨⟨h1, h2, h3, h4, h5⟩, h⟩ := h
      have hl1 := sh_lt e1 (by decide) (by decide)
      have hl2 := sh_lt e2 (by decide) (by decide)
      have hr := okr_ok (ad := ad) k1
      have z0 : ∀ {z : Int}, in32 z → 0 ≤ z → ¬ Int32.ofInt z < 0 := fun hz h0 q => by
        rw [show (0 : Int32) = Int32.ofInt 0 from rfl, oi_lt hz in32_0] at q
        omega
      have nf : nativeFrameWords "java/lang/System" "arraycopy" 5 ≤ 40 := by decide +kernel
      refine va_copyi hx hb (hml.trans hL.1.symm) hown (hts _ hlk) (hts _ jn_cpy) (hts _ js_cpy) (hts _ ji_sys) hK hP hD hS s1 d 0 0 (ty := .int) (by rw [cW_at hl1, cE_arr e1]) (by rw [cW_at hl2, cE_arr e2]) rfl rfl rfl (z0 hsp h1) (z0 hdp h2) (z0 hn h3) (by rw [oi_cl hsp, oi_cl hn]; omega) (by rw [oi_cl hdp, oi_cl hn]; omega) (fun _ _ => rfl) hR1 (by omega) hdg fun H1 locs1 hP1 hD1 hS1 => ?_
      have e : (cW ad kx w).set d (ad d, .inl (kx 0, n2.toNat, .inl (va_cpy (fun i => Int32.ofInt (w s1 i)) (fun i => Int32.ofInt (w d i)) (Int32.ofInt sp).toNatClampNeg (Int32.ofInt dp).toNatClampNeg (Int32.ofInt n).toNatClampNeg))) = cW ad kx (wcp w s1 sp d dp n) := by
        rw [← cW_set (w := w) (w' := wcp w s1 sp d dp n) hl2 (fun c hc j => by simp [wcp, hc]), cE_arr e2, oi_cl hsp, oi_cl hdp, oi_cl hn]
        congr 4
        congr 2
        funext j
        unfold va_cpy wcp
        by_cases q : dp.toNat ≤ j ∧ j < dp.toNat + n.toNat
        · rw [if_pos q, if_pos ⟨rfl, by omega, by omega⟩]
          congr 2
          omega
        · rw [if_neg q, if_neg (by omega)]
      rw [e] at hP1 hD1
      exact h (wf_wcp hw) (fa_tail (fa_tail (fa_tail (fa_tail (fa_tail hst))))) hls hnl H1 locs1 lsA hP1 hD1 hS1 hL
  · exact h.elim
end SNJ
