/-! arrays, fields, switches, calls -/
theorem sh_lt {a t : Nat} {n : Int} (h : shq a = .inl (t, n)) (ht : t ≠ 7) (ht9 : t ≠ 9) : a < nC := by
  by_cases hl : a < nC
  · exact hl
  · exfalso
    unfold shq at h
    have : Nat.blt a 206 = false := by
      cases hb : Nat.blt a 206 with
      | false => rfl
      | true => exact absurd (Nat.lt_of_lt_of_le (Nat.lt_succ_self a) (Nat.le_of_ble_eq_true hb)) hl
    rw [this] at h
    simp only [cond_false] at h
    cases hb : Nat.beq a 2000 with
    | true => rw [hb] at h; simp only [cond_true, Sum.inl.injEq, Prod.mk.injEq] at h; exact ht h.1.symm
    | false => rw [hb] at h; simp only [cond_false, Sum.inl.injEq, Prod.mk.injEq] at h; exact ht9 h.1.symm
theorem sh_ltR {a : Nat} {x : (Nat × Int) ⊕ (Nat × List Nat)} (h : shq a = .inr x) : a < nC := by
  by_cases hl : a < nC
  · exact hl
  · exfalso
    unfold shq at h
    have : Nat.blt a 206 = false := by
      cases hb : Nat.blt a 206 with
      | false => rfl
      | true => exact absurd (Nat.lt_of_lt_of_le (Nat.lt_succ_self a) (Nat.le_of_ble_eq_true hb)) hl
    rw [this] at h
    simp only [cond_false] at h
    cases hb : Nat.beq a 2000 with
    | true => rw [hb] at h; cases h
    | false => rw [hb] at h; cases h
noncomputable def no7 (k : Nat) : Bool := match shq k with
  | .inl (t, _) => !Nat.beq t 7
  | _ => true
theorem no7_ok : ∀ k, k < 206 → no7 k = true := by decide +kernel
theorem sh_7 {a : Nat} {n : Int} (h : shq a = .inl (7, n)) : a = 2000 := by
  by_cases hl : a < 206
  · have := no7_ok a hl
    unfold no7 at this
    rw [h] at this
    cases this
  · unfold shq at h
    have : Nat.blt a 206 = false := by
      cases hb : Nat.blt a 206 with
      | false => rfl
      | true => exact absurd (Nat.lt_of_lt_of_le (Nat.lt_succ_self a) (Nat.le_of_ble_eq_true hb)) hl
    rw [this] at h
    simp only [cond_false] at h
    cases hb : Nat.beq a 2000 with
    | true => exact Nat.eq_of_beq_eq_true hb
    | false => rw [hb] at h; simp at h
theorem cE_arr {ad : Nat → Nat} {kx : Nat → ClassId} {w : Wd} {a t : Nat} {n : Int} (h : shq a = .inl (t, n)) : cE ad kx w a = .inl (kx t, n.toNat, .inl fun i => Int32.ofInt (w a i)) := by
  unfold cE
  rw [h]
theorem cE_out {ad : Nat → Nat} {kx : Nat → ClassId} {w : Wd} {a b : Nat} {n : Int} (h : shq a = .inr (.inl (b, n))) : cE ad kx w a = .inl (kx 2, n.toNat, .inr (.inr (.inr (.inr fun i => if i < n.toNat then some (ad (b + i)) else none)))) := by
  unfold cE
  rw [h]
theorem cE_obj {ad : Nat → Nat} {kx : Nat → ClassId} {w : Wd} {a c : Nat} {fs : List Nat} (h : shq a = .inr (.inr (c, fs))) : cE ad kx w a = .inr (c, fv ad w a 0 fs) := by
  unfold cE
  rw [h]
theorem nb {a b : Nat} (h : Nat.beq a b = true) : a = b := Nat.eq_of_beq_eq_true h
theorem nlt {a b : Nat} (h : Nat.blt a b = true) : a < b := Nat.lt_of_lt_of_le (Nat.lt_succ_self a) (Nat.le_of_ble_eq_true h)
theorem aR_ok {w : Wd} {sc : SC} {a : Nat} {i : Int} {k : Int → Prop} (h : aR w sc a i k) : (∃ n, shq a = .inl (0, n) ∧ 0 ≤ i ∧ i < n ∧ k (w a i.toNat)) ∨ (∃ n L xs, shq a = .inl (7, n) ∧ sc = some (L, xs) ∧ 0 ≤ i ∧ i < L ∧ k (xs i.toNat)) := by
  unfold aR at h
  split at h
  · rename_i t n e
    cases h0 : Nat.beq t 0 with
    | true =>
      rw [h0] at h
      rw [nb h0] at e
      exact Or.inl ⟨n, e, h.1.1, h.1.2, h.2⟩
    | false =>
      rw [h0] at h
      simp only [cond_false] at h
      cases h7 : Nat.beq t 7 with
      | true =>
        rw [h7] at h
        simp only [cond_true] at h
        rw [nb h7] at e
        split at h
        · exact Or.inr ⟨n, _, _, e, rfl, h.1.1, h.1.2, h.2⟩
        · exact h.elim
      | false =>
        rw [h7] at h
        exact h.elim
  · exact h.elim
theorem aL_ok {sc : SC} {a : Nat} {k : Int → Prop} (h : aL sc a k) : (∃ n, shq a = .inl (0, n) ∧ k n) ∨ (∃ n L xs, shq a = .inl (7, n) ∧ sc = some (L, xs) ∧ k L) := by
  unfold aL at h
  split at h
  · rename_i t n e
    cases h0 : Nat.beq t 0 with
    | true =>
      rw [h0] at h
      rw [nb h0] at e
      exact Or.inl ⟨n, e, h⟩
    | false =>
      rw [h0] at h
      simp only [cond_false] at h
      cases h7 : Nat.beq t 7 with
      | true =>
        rw [h7] at h
        simp only [cond_true] at h
        rw [nb h7] at e
        split at h
        · exact Or.inr ⟨n, _, _, e, rfl, h⟩
        · exact h.elim
      | false =>
        rw [h7] at h
        exact h.elim
  · exact h.elim
theorem aW_ok {a : Nat} {i : Int} {k : Prop} (h : aW a i k) : ∃ n, shq a = .inl (0, n) ∧ 0 ≤ i ∧ i < n ∧ k := by
  unfold aW at h
  split at h
  · rename_i t n e
    cases h0 : Nat.beq t 0 with
    | true =>
      rw [h0] at h
      rw [nb h0] at e
      exact ⟨n, e, h.1.1, h.1.2, h.2⟩
    | false => rw [h0] at h; exact h.elim
  · exact h.elim
theorem zA_ok {a : Nat} {i : Int} {k : Prop} (h : zA a i k) : ∃ n, shq a = .inl (1, n) ∧ 0 ≤ i ∧ i < n ∧ k := by
  unfold zA at h
  split at h
  · rename_i t n e
    cases h0 : Nat.beq t 1 with
    | true =>
      rw [h0] at h
      rw [nb h0] at e
      exact ⟨n, e, h.1.1, h.1.2, h.2⟩
    | false => rw [h0] at h; exact h.elim
  · exact h.elim
theorem rA_ok {a : Nat} {i : Int} {k : Nat → Prop} (h : rA a i k) : ∃ b n, shq a = .inr (.inl (b, n)) ∧ 0 ≤ i ∧ i < n ∧ k (b + i.toNat) := by
  unfold rA at h
  split at h
  · exact ⟨_, _, by assumption, h.1.1, h.1.2, h.2⟩
  · exact h.elim
theorem pN_ok : ∀ {n : Nat} {st acc : List AV} {k : List AV → List AV → Prop}, pN n st acc k → ∃ as rest, st = as.reverse ++ rest ∧ as.length = n ∧ k (as ++ acc) rest
  | 0, st, acc, k, h => ⟨[], st, rfl, rfl, h⟩
  | _ + 1, [], _, _, h => h.elim
  | n + 1, v :: st, acc, k, h => by
    obtain ⟨as, rest, h1, h2, h3⟩ := pN_ok (n := n) (st := st) (acc := v :: acc) h
    exact ⟨as ++ [v], rest, by rw [h1]; simp, by simp [h2], by simpa using h3⟩
noncomputable def tblG : List Jvm.Cond := lw_tbl.filter goodWord
theorem tblG_at {i : Nat} {w : Jvm.Cond} (h : lw_tbl[i]? = some w) (hg : goodWord w = true) : w ∈ tblG := List.mem_filter.mpr ⟨List.mem_of_getElem? h, hg⟩
theorem tblG_good {w : Jvm.Cond} (h : w ∈ tblG) : (w.onTables && w.keeps) = true ∨ ∃ ty, w = .arrayClass ty := good_of_word (List.mem_filter.mp h).2
theorem cls_at {ci : Nat} (h : ci < 13) : vwCl[ci]? = some (RN ci, TN ci, NN ci) := by
  rcases (by omega : ci = 0 ∨ ci = 1 ∨ ci = 2 ∨ ci = 3 ∨ ci = 4 ∨ ci = 5 ∨ ci = 6 ∨ ci = 7 ∨ ci = 8 ∨ ci = 9 ∨ ci = 10 ∨ ci = 11 ∨ ci = 12) with rfl | rfl | rfl | rfl | rfl | rfl | rfl | rfl | rfl | rfl | rfl | rfl | rfl <;> rfl
theorem inG {ci : Nat} (h : ci < 13) : ∀ w ∈ u_ws (RN ci) (TN ci) (NN ci), w ∈ tblG := by
  have key : ∀ {ws : List Jvm.Cond}, (∀ w ∈ ws, w ∈ lw_tbl) → (∀ w ∈ ws, goodWord w = true) → ∀ w ∈ ws, w ∈ tblG := fun h1 h2 w hw => List.mem_filter.mpr ⟨h1 w hw, h2 w hw⟩
  rcases (by omega : ci = 0 ∨ ci = 1 ∨ ci = 2 ∨ ci = 3 ∨ ci = 4 ∨ ci = 5 ∨ ci = 6 ∨ ci = 7 ∨ ci = 8 ∨ ci = 9 ∨ ci = 10 ∨ ci = 11 ∨ ci = 12) with rfl | rfl | rfl | rfl | rfl | rfl | rfl | rfl | rfl | rfl | rfl | rfl | rfl
  · exact key inX0 (by decide +kernel)
  · exact key inX1 (by decide +kernel)
  · exact key inX2 (by decide +kernel)
  · exact key inX3 (by decide +kernel)
  · exact key inX4 (by decide +kernel)
  · exact key inX5 (by decide +kernel)
  · exact key inX6 (by decide +kernel)
  · exact key inX7 (by decide +kernel)
  · exact key inX8 (by decide +kernel)
  · exact key inX9 (by decide +kernel)
  · exact key inX10 (by decide +kernel)
  · exact key inX11 (by decide +kernel)
  · exact key inX12 (by decide +kernel)
noncomputable def tyN (ci : Nat) : Nat → FieldType := fun k => (parseFieldDescriptor (TN ci k).2.2.1).getD .int
theorem tyN_ok : ∀ ci, ci < 13 → ∀ k, k < NN ci → parseFieldDescriptor (TN ci k).2.2.1 = some (tyN ci k) := by decide +kernel
theorem nmN : ∀ ci, ci < 13 → ∀ a, a < NN ci → ∀ b, b < NN ci → a ≠ b → (TN ci a).2.1 ≠ (TN ci b).2.1 := by decide +kernel
/-- the shapes and the fields' types fit -/
noncomputable def okS (k : Nat) : Bool := match shq k with
  | .inr (.inr (c, fs)) => Nat.blt c 13 && (Nat.beq fs.length (NN c) && (List.range fs.length).all (fun j => match fs[j]? with
    | some 0 => decide (tyN c j = .int)
    | some 1 => decide (tyN c j = .object "java/lang/String")
    | some 2 => decide (tyN c j = .boolean)
    | _ => true))
  | _ => true
theorem okS_ok : ∀ k, k < 206 → okS k = true := by decide +kernel
theorem sh_obj {a c : Nat} {fs : List Nat} (h : shq a = .inr (.inr (c, fs))) : a < nC ∧ c < 13 ∧ fs.length = NN c ∧ (∀ j, fs[j]? = some 0 → tyN c j = .int) ∧ (∀ j, fs[j]? = some 1 → tyN c j = .object "java/lang/String") ∧ (∀ j, fs[j]? = some 2 → tyN c j = .boolean) := by
  have hl : a < nC := sh_ltR h
  have := okS_ok a hl
  unfold okS at this
  rw [h] at this
  simp only [Bool.and_eq_true] at this
  obtain ⟨h1, h2, h3⟩ := this
  have h4 := List.all_eq_true.mp h3
  refine ⟨hl, nlt h1, nb h2, fun j hj => ?_, fun j hj => ?_, fun j hj => ?_⟩
  all_goals
    have hjl : j < fs.length := (List.getElem?_eq_some_iff.mp hj).1
    have h5 := h4 j (List.mem_range.mpr hjl)
    rw [hj] at h5
    exact of_decide_eq_true h5
theorem ofN {n : Int} (h : in32 n) (h0 : 0 ≤ n) : Int32.ofNat n.toNat = Int32.ofInt n := by
  apply Int32.toInt_inj.mp
  rw [ti_oi h]
  have := nI_toInt (n := n.toNat) (by unfold in32 at h; omega)
  unfold nI at this
  rw [this, Int.toNat_of_nonneg h0]
noncomputable def lenS (k : Nat) : Bool := match shq k with
  | .inl (_, n) => decide (0 ≤ n) && decide (n < 2147483648)
  | _ => true
theorem lenS_ok : ∀ k, k < 206 → lenS k = true := by decide +kernel
theorem lenOK {a : Nat} {n : Int} (h : shq a = .inl (0, n)) : in32 n ∧ 0 ≤ n := by
  have := lenS_ok a (sh_lt h (by decide) (by decide))
  unfold lenS at this
  rw [h] at this
  simp only [Bool.and_eq_true, decide_eq_true_eq] at this
  exact ⟨⟨by omega, this.2⟩, this.1⟩
section SNH
variable {p : Program} {l : Launch} {e : Env} {R : Room} {s : State} {m : MethodId} {args : Array Value} {below : List Frame} {meth : Method} {c : Code} {cells slots : Nat} {QW : State → Prop} {ad : Nat → Nat} {kx : Nat → ClassId} {D : va_G} {A : Nat → Prop} {nL : Nat} {cc : ByteArray} {pc : Nat} {ls : AL} {st : List AV} {w : Wd}
/-- the script, if this is the law's frame -/
def scOK (ad : Nat → Nat) (A : Nat → Prop) (s : State) (sc : SC) : Prop := ∀ (L : Int) (xs : Nat → Int), sc = some (L, xs) → va_X (ad 2000) L.toNat (fun i => Int32.ofInt (xs i)) s s.heap ∧ ad 2000 < s.heap.size ∧ ¬ A (ad 2000) ∧ in32 L ∧ 0 ≤ L ∧ ∀ i, in32 (xs i)
theorem sn_iaload {sc : SC} (hK : va_K D vwCl (tys0 kx) s) (hsc : scOK ad A s sc) (hx : p.tables.exec = Jvm.exec) (hb : c.code = cc) (hdg : decode cc pc = .ok (.iaload, 1)) (h : pI st fun i st => pR st fun a st => aR w sc a i fun x => SAT p l e R s m args below meth c cells slots QW ad kx D A nL (pc + 1, ls, .inl x :: st, w)) : SAT p l e R s m args below meth c cells slots QW ad kx D A nL (pc, ls, st, w) := by
  intro hw hst hls hnl H locs lsA hP hD hS hL
  have h9 := pI_ok h
  clear h
  obtain ⟨i, st1, rfl, h⟩ := h9
  have h9 := pR_ok h
  clear h
  obtain ⟨a, st2, rfl, h⟩ := h9
  have hi : in32 i := fa_head hst
  have h9 := aR_ok h
  clear h
  rcases h9 with ⟨n, h1, h2, h3, h⟩ | ⟨n, L, xs, h1, rfl, h2, h3, h⟩
  · have hl := sh_lt h1 (by decide) (by decide)
    refine va_iald hx hb hK hP a 0 (by rw [cW_at hl, cE_arr h1]) rfl (vp_in_oi hi h2 h3) hdg ?_
    rw [oi_cl hi]
    exact h hw (fa_cons (hw _ _) (fa_tail (fa_tail hst))) hls hnl H locs lsA hP hD hS hL
  · have := sh_7 h1
    subst this
    obtain ⟨g1, g2, g3, g4, g6, g5⟩ := hsc L xs rfl
    refine va_sld hx hb g1 g2 g3 hS (vp_in_oi hi h2 h3) hdg ?_
    rw [oi_cl hi]
    exact h hw (fa_cons (g5 _) (fa_tail (fa_tail hst))) hls hnl H locs lsA hP hD hS hL
theorem sn_arraylength {sc : SC} (hK : va_K D vwCl (tys0 kx) s) (hsc : scOK ad A s sc) (hx : p.tables.exec = Jvm.exec) (hb : c.code = cc) (hdg : decode cc pc = .ok (.arraylength, 1)) (h : pR st fun a st => aL sc a fun x => SAT p l e R s m args below meth c cells slots QW ad kx D A nL (pc + 1, ls, .inl x :: st, w)) : SAT p l e R s m args below meth c cells slots QW ad kx D A nL (pc, ls, st, w) := by
  intro hw hst hls hnl H locs lsA hP hD hS hL
  have h9 := pR_ok h
  clear h
  obtain ⟨a, st2, rfl, h⟩ := h9
  have h9 := aL_ok h
  clear h
  rcases h9 with ⟨n, h1, h⟩ | ⟨n, L, xs, h1, rfl, h⟩
  · have hl := sh_lt h1 (by decide) (by decide)
    have hn : in32 n ∧ 0 ≤ n := lenOK h1
    have ha : (cW ad kx w)[a]? = some (ad a, .inl (kx 0, n.toNat, .inl fun i => Int32.ofInt (w a i))) := by rw [cW_at hl, cE_arr h1]
    refine va_alen hx hb hK hP a 0 ha (ty := .int) rfl (v := Int32.ofInt n) ?_ hdg ?_
    · exact ofN hn.1 hn.2
    · exact h hw (fa_cons hn.1 (fa_tail hst)) hls hnl H locs lsA hP hD hS hL
  · have := sh_7 h1
    subst this
    obtain ⟨g1, g2, g3, g4, g6, g5⟩ := hsc L xs rfl
    refine va_slen hx hb g1 g2 g3 hS hdg ?_
    rw [ofN g4 g6]
    exact h hw (fa_cons g4 (fa_tail hst)) hls hnl H locs lsA hP hD hS hL
theorem sn_baload (hK : va_K D vwCl (tys0 kx) s) (hx : p.tables.exec = Jvm.exec) (hb : c.code = cc) (hdg : decode cc pc = .ok (.baload, 1)) (h : pI st fun i st => pR st fun a st => zA a i (SAT p l e R s m args below meth c cells slots QW ad kx D A nL (pc + 1, ls, .inl (w a i.toNat) :: st, w))) : SAT p l e R s m args below meth c cells slots QW ad kx D A nL (pc, ls, st, w) := by
  intro hw hst hls hnl H locs lsA hP hD hS hL
  have h9 := pI_ok h
  clear h
  obtain ⟨i, st1, rfl, h⟩ := h9
  have h9 := pR_ok h
  clear h
  obtain ⟨a, st2, rfl, h⟩ := h9
  have hi : in32 i := fa_head hst
  obtain ⟨n, h1, h2, h3, h⟩ := zA_ok h
  have hl := sh_lt h1 (by decide) (by decide)
  refine va_zald hx hb hK hP a 1 (by rw [cW_at hl, cE_arr h1]) rfl (vp_in_oi hi h2 h3) hdg ?_
  rw [oi_cl hi]
  exact h hw (fa_cons (hw _ _) (fa_tail (fa_tail hst))) hls hnl H locs lsA hP hD hS hL
theorem sn_aaload (hK : va_K D vwCl (tys0 kx) s) (hx : p.tables.exec = Jvm.exec) (hb : c.code = cc) (hdg : decode cc pc = .ok (.aaload, 1)) (h : pI st fun i st => pR st fun a st => rA a i fun r => SAT p l e R s m args below meth c cells slots QW ad kx D A nL (pc + 1, ls, .inr (.inr r) :: st, w)) : SAT p l e R s m args below meth c cells slots QW ad kx D A nL (pc, ls, st, w) := by
  intro hw hst hls hnl H locs lsA hP hD hS hL
  have h9 := pI_ok h
  clear h
  obtain ⟨i, st1, rfl, h⟩ := h9
  have h9 := pR_ok h
  clear h
  obtain ⟨a, st2, rfl, h⟩ := h9
  have hi : in32 i := fa_head hst
  obtain ⟨b, n, h1, h2, h3, h⟩ := rA_ok h
  have hl := sh_ltR h1
  have ha : (cW ad kx w)[a]? = some (ad a, .inl (kx 2, n.toNat, .inr (.inr (.inr (.inr fun i => if i < n.toNat then some (ad (b + i)) else none))))) := by rw [cW_at hl, cE_out h1]
  have hin := vp_in_oi hi h2 h3
  have hlt : (Int32.ofInt i).toNatClampNeg < n.toNat := Nat.not_le.mp fun q => hin (Or.inr q)
  refine W.aald (v := .ref (ad (b + i.toNat))) (ty := .array .int) hx hb (hP a _ ha) ((hK.2 2 _ rfl).1 n.toNat (fun j => va_rf (if j < n.toNat then some (ad (b + j)) else none))) rfl (fun q => by cases q) (by show ¬ (_ ∨ (arrV _ _ _).slots.size ≤ _); rw [arrV_size]; exact hin) (by show (arrV _ _ _).slots[_]? = _; rw [arrV_read _ _ hlt]; show some (va_rf (if _ then _ else _)) = _; rw [if_pos hlt, oi_cl hi]; rfl) rfl rfl hdg ?_
  exact h hw (fa_cons trivial (fa_tail (fa_tail hst))) hls hnl H locs lsA hP hD hS hL
theorem wf_wst {a i : Nat} {x : Int} (hw : wfW w) (hx : in32 x) : wfW (wst w a i x) := by
  intro c j
  unfold wst
  split
  · exact hx
  · exact hw c j
theorem wst_set {t a i : Nat} {n x : Int} (h1 : shq a = .inl (t, n)) (hl : a < nC) : (cW ad kx w).set a (ad a, .inl (kx t, n.toNat, .inl (upd (fun j => Int32.ofInt (w a j)) i (Int32.ofInt x)))) = cW ad kx (wst w a i x) := by
  rw [← cW_set (w := w) (w' := wst w a i x) hl (fun c hc j => by simp [wst, hc]), cE_arr h1]
  congr 4
  congr 2
  funext j
  unfold upd wst
  by_cases e : j = i
  · simp [e]
  · simp [e]
theorem sn_iastore (hK : va_K D vwCl (tys0 kx) s) (hx : p.tables.exec = Jvm.exec) (hb : c.code = cc) (hdg : decode cc pc = .ok (.iastore, 1)) (h : pI st fun x st => pI st fun i st => pR st fun a st => aW a i (SAT p l e R s m args below meth c cells slots QW ad kx D A nL (pc + 1, ls, st, wst w a i.toNat x))) : SAT p l e R s m args below meth c cells slots QW ad kx D A nL (pc, ls, st, w) := by
  intro hw hst hls hnl H locs lsA hP hD hS hL
  have h9 := pI_ok h
  clear h
  obtain ⟨x, st1, rfl, h⟩ := h9
  have h9 := pI_ok h
  clear h
  obtain ⟨i, st2, rfl, h⟩ := h9
  have h9 := pR_ok h
  clear h
  obtain ⟨a, st3, rfl, h⟩ := h9
  have hi : in32 i := fa_head (fa_tail hst)
  obtain ⟨n, h1, h2, h3, h⟩ := aW_ok h
  have hl := sh_lt h1 (by decide) (by decide)
  refine va_iast hx hb hK hP hD hS a 0 (by rw [cW_at hl, cE_arr h1]) rfl (vp_in_oi hi h2 h3) hdg fun H1 locs1 hP1 hD1 hS1 => ?_
  rw [oi_cl hi, wst_set h1 hl] at hP1 hD1
  exact h (wf_wst hw (fa_head hst)) (fa_tail (fa_tail (fa_tail hst))) hls hnl H1 locs1 lsA hP1 hD1 hS1 hL
theorem sn_bastore (hK : va_K D vwCl (tys0 kx) s) (hx : p.tables.exec = Jvm.exec) (hb : c.code = cc) (hdg : decode cc pc = .ok (.bastore, 1)) (h : pI st fun x st => pI st fun i st => pR st fun a st => zA a i ((x = 0 ∨ x = 1) ∧ SAT p l e R s m args below meth c cells slots QW ad kx D A nL (pc + 1, ls, st, wst w a i.toNat x))) : SAT p l e R s m args below meth c cells slots QW ad kx D A nL (pc, ls, st, w) := by
  intro hw hst hls hnl H locs lsA hP hD hS hL
  have h9 := pI_ok h
  clear h
  obtain ⟨x, st1, rfl, h⟩ := h9
  have h9 := pI_ok h
  clear h
  obtain ⟨i, st2, rfl, h⟩ := h9
  have h9 := pR_ok h
  clear h
  obtain ⟨a, st3, rfl, h⟩ := h9
  have hi : in32 i := fa_head (fa_tail hst)
  obtain ⟨n, h1, h2, h3, hx01, h⟩ := zA_ok h
  have hl := sh_lt h1 (by decide) (by decide)
  refine va_zast hx hb hK hP hD hS a 1 (by rw [cW_at hl, cE_arr h1]) rfl (vp_in_oi hi h2 h3) hdg fun H1 locs1 hP1 hD1 hS1 => ?_
  have e : vp_nar .boolean (Int32.ofInt x) = Int32.ofInt x := by rcases hx01 with rfl | rfl <;> decide
  rw [oi_cl hi, e, wst_set h1 hl] at hP1 hD1
  exact h (wf_wst hw (fa_head hst)) (fa_tail (fa_tail (fa_tail hst))) hls hnl H1 locs1 lsA hP1 hD1 hS1 hL
theorem fG_ok {r ci j : Nat} {k : AV → Prop} (h : fG w r ci j k) : ∃ fs q v, shq r = .inr (.inr (ci, fs)) ∧ fs[j]? = some q ∧ cv ad v = f1 ad w r j q ∧ (okA (.inl (w r j)) → okA v) ∧ k v := by
  unfold fG at h
  split at h
  · rename_i c1 fs e1
    cases h0 : Nat.beq c1 ci with
    | false => rw [h0] at h; exact h.elim
    | true =>
      rw [h0] at h
      rw [nb h0] at e1
      simp only [cond_true] at h
      split at h
      · exact ⟨fs, 0, _, e1, by assumption, rfl, fun z => z, h⟩
      · exact ⟨fs, 1, .inr (.inr (1000 + (w r j).toNat)), e1, by assumption, rfl, fun _ => trivial, h⟩
      · exact ⟨fs, 2, _, e1, by assumption, rfl, fun z => z, h⟩
      · rename_i q e2
        exact ⟨fs, q + 3, .inr (.inr q), e1, e2, rfl, fun _ => trivial, h⟩
      · exact h.elim
  · exact h.elim
theorem chF_ok {own i ci j : Nat} (h : chF own i ci j = true) : Cond.fieldLink (RN own) i (TN ci j).1 (TN ci j).2.1 (TN ci j).2.2.1 ∈ tblG ∧ ci < 13 ∧ j < NN ci := by
  unfold chF at h
  simp only [Bool.and_eq_true] at h
  exact ⟨tblG_at (of_decide_eq_true h.1.1) rfl, nlt h.1.2, nlt h.2⟩
theorem sn_getfield {own i x y : Nat} (hK : va_K D vwCl (tys0 kx) s) (hts : ∀ w ∈ tblG, w.before args s = true) (hown : s.vm.findClass (RN own) = some m.cls) (hch : chF own i x y = true) (hx : p.tables.exec = Jvm.exec) (hb : c.code = cc) (hdg : decode cc pc = .ok (.getfield i, 3)) (h : pR st fun r st => fG w r x y fun v => SAT p l e R s m args below meth c cells slots QW ad kx D A nL (pc + 3, ls, v :: st, w)) : SAT p l e R s m args below meth c cells slots QW ad kx D A nL (pc, ls, st, w) := by
  intro hw hst hls hnl H locs lsA hP hD hS hL
  have h9 := pR_ok h
  clear h
  obtain ⟨r, st1, rfl, h⟩ := h9
  obtain ⟨fs, q, v, h1, h2, h3, h4, h⟩ := fG_ok (ad := ad) h
  obtain ⟨g1, g2, g3⟩ := chF_ok hch
  have hl := sh_ltR h1
  refine va_get hx hb hts (inG g2) hown hK hP r (by rw [cW_at hl, cE_obj h1]) (cls_at g2) y g3 (hts _ g1) (fun _ z => z) (v := cv ad v) (by rw [fv_at fs 0 y q h2, Nat.zero_add, h3]) hdg ?_
  exact h hw (fa_cons (h4 (hw r y)) (fa_tail hst)) hls hnl H locs lsA hP hD hS hL
theorem fP_ok {r ci j : Nat} {v : AV} {k : Wd → Prop} (hv : okA v) (h : fP w r ci j v k) : ∃ fs q x, shq r = .inr (.inr (ci, fs)) ∧ fs[j]? = some q ∧ cv ad v = f1 ad (wst w r j x) r j q ∧ in32 x ∧ (∀ ty, tyN ci j = ty → narrow ty (cv ad v) = cv ad v ∧ fits ty (cv ad v) = true) ∧ k (wst w r j x) := by
  unfold fP at h
  split at h
  · rename_i c1 fs e1
    cases h0 : Nat.beq c1 ci with
    | false => rw [h0] at h; exact h.elim
    | true =>
      rw [h0] at h
      rw [nb h0] at e1
      obtain ⟨-, -, -, t0, t1, t2⟩ := sh_obj e1
      simp only [cond_true] at h
      split at h
      · rename_i e2
        split at h
        · rename_i x
          exact ⟨fs, 0, x, e1, e2, by simp [cv, f1, wst], hv, fun ty ht => by rw [t0 j e2] at ht; subst ht; exact ⟨rfl, rfl⟩, h⟩
        · exact h.elim
      · rename_i e2
        split at h
        · rename_i q
          cases h5 : Nat.beq q 1000 with
          | true =>
            rw [h5] at h
            exact ⟨fs, 1, 0, e1, e2, by rw [nb h5]; simp [cv, f1, wst], in32_0, fun ty ht => by rw [t1 j e2] at ht; subst ht; exact ⟨rfl, rfl⟩, h⟩
          | false =>
            rw [h5] at h
            simp only [cond_false] at h
            cases h6 : Nat.beq q 1001 with
            | true =>
              rw [h6] at h
              exact ⟨fs, 1, 1, e1, e2, by rw [nb h6]; simp [cv, f1, wst], by unfold in32; omega, fun ty ht => by rw [t1 j e2] at ht; subst ht; exact ⟨rfl, rfl⟩, h⟩
            | false => rw [h6] at h; exact h.elim
        · exact h.elim
      · rename_i e2
        split at h
        · rename_i x
          refine ⟨fs, 2, x, e1, e2, by simp [cv, f1, wst], hv, fun ty ht => ?_, h.2⟩
          rw [t2 j e2] at ht
          subst ht
          rcases h.1 with rfl | rfl
          · exact ⟨by show narrow .boolean (.int (Int32.ofInt 0)) = .int (Int32.ofInt 0); decide, by show fits .boolean (.int (Int32.ofInt 0)) = true; decide⟩
          · exact ⟨by show narrow .boolean (.int (Int32.ofInt 1)) = .int (Int32.ofInt 1); decide, by show fits .boolean (.int (Int32.ofInt 1)) = true; decide⟩
        · exact h.elim
      · exact h.elim
  · exact h.elim
theorem sn_putfield {own i x y : Nat} (hK : va_K D vwCl (tys0 kx) s) (hts : ∀ w ∈ tblG, w.before args s = true) (hown : s.vm.findClass (RN own) = some m.cls) (hch : chF own i x y = true) (hfin : (TN x y).2.2.2 = false) (hx : p.tables.exec = Jvm.exec) (hb : c.code = cc) (hdg : decode cc pc = .ok (.putfield i, 3)) (h : pV st fun v st => pR st fun r st => fP w r x y v fun w => SAT p l e R s m args below meth c cells slots QW ad kx D A nL (pc + 3, ls, st, w)) : SAT p l e R s m args below meth c cells slots QW ad kx D A nL (pc, ls, st, w) := by
  intro hw hst hls hnl H locs lsA hP hD hS hL
  have h9 := pV_ok h
  clear h
  obtain ⟨v, st1, rfl, hv1, h⟩ := h9
  have h9 := pR_ok h
  clear h
  obtain ⟨r, st2, rfl, h⟩ := h9
  obtain ⟨fs, q, z, h1, h2, h3, h4, h5, h⟩ := fP_ok (ad := ad) (fa_head hst) h
  obtain ⟨g1, g2, g3⟩ := chF_ok hch
  have hl := sh_ltR h1
  obtain ⟨h6, h7⟩ := h5 _ rfl
  refine va_put (v := cv ad v) hx hb hts (inG g2) (tyN x) (tyN_ok x g2) (nmN x g2) hown hK hP hD hS r (by rw [cW_at hl, cE_obj h1]) (cls_at g2) y g3 (hts _ g1) (fun _ z => z) hfin (tyN_ok x g2 y g3) h6 h7 (by rw [fv_len]; exact (List.getElem?_eq_some_iff.mp h2).1) hdg fun H1 locs1 hP1 hD1 hS1 => ?_
  have e : (cW ad kx w).set r (ad r, .inr (x, (fv ad w r 0 fs).set y (cv ad v))) = cW ad kx (wst w r y z) := by
    rw [← cW_set (w := w) (w' := wst w r y z) hl (fun c hc j => by simp [wst, hc]), cE_obj h1, fv_set (w := w) (w' := wst w r y z) fs 0 y q h2 (fun j hj => by simp [wst, show j ≠ y by omega]), Nat.zero_add, h3]
  rw [e] at hP1 hD1
  exact h (wf_wst hw h4) (fa_tail (fa_tail hst)) hls hnl H1 locs1 lsA hP1 hD1 hS1 hL
end SNH
