/-! constructors of many arrays: one row for each array, by recursion over them -/
/-- push form (0 iconst, 1 bipush, 2 sipush), type (0 int, 1 boolean), length, link of the field, place of the field -/
abbrev It : Type := Nat × Nat × Nat × Nat × Nat
def pLn (p : Nat) : Nat := if p = 0 then 1 else if p = 1 then 2 else 3
def setF : List It → Nat → (Nat → Nat) → List Value → List Value
  | [], _, _, fs => fs
  | it :: r, t, q, fs => setF r (t + 1) q (fs.set it.2.2.2.2 (.ref (q t)))
def arrF (kx : Nat → ClassId) : List It → Nat → (Nat → Nat) → va_W → va_W
  | [], _, _, w => w
  | it :: r, t, q, w => arrF kx r (t + 1) q ((q t, .inl (kx it.2.1, it.2.2.1, .inl fun _ => 0)) :: w)
def cntI : List It → Nat → Nat
  | [], n => n
  | _ :: r, n => cntI r (n + 1)
def sumI : List It → Nat → Nat
  | [], n => n
  | it :: r, n => sumI r (n + it.2.2.1)
def endI : List It → Nat → Nat
  | [], pc => pc
  | it :: r, pc => endI r (pc + 1 + pLn it.1 + 2 + 3)
theorem setF_cg : ∀ (r : List It) (t : Nat) (q q' : Nat → Nat) (fs : List Value), (∀ j, t ≤ j → q j = q' j) → setF r t q fs = setF r t q' fs
  | [], _, _, _, _, _ => rfl
  | it :: r, t, q, q', fs, h => by
    show setF r (t + 1) q (fs.set it.2.2.2.2 (.ref (q t))) = setF r (t + 1) q' (fs.set it.2.2.2.2 (.ref (q' t)))
    rw [h t (Nat.le_refl t)]
    exact setF_cg r (t + 1) q q' _ (fun j hj => h j (by omega))
theorem arrF_cg (kx : Nat → ClassId) : ∀ (r : List It) (t : Nat) (q q' : Nat → Nat) (w : va_W), (∀ j, t ≤ j → q j = q' j) → arrF kx r t q w = arrF kx r t q' w
  | [], _, _, _, _, _ => rfl
  | it :: r, t, q, q', w, h => by
    show arrF kx r (t + 1) q ((q t, .inl (kx it.2.1, it.2.2.1, .inl fun _ => 0)) :: w) = arrF kx r (t + 1) q' ((q' t, .inl (kx it.2.1, it.2.2.1, .inl fun _ => 0)) :: w)
    rw [h t (Nat.le_refl t)]
    exact arrF_cg kx r (t + 1) q q' _ (fun j hj => h j (by omega))
theorem setF_len : ∀ (r : List It) (t : Nat) (q : Nat → Nat) (fs : List Value), (setF r t q fs).length = fs.length
  | [], _, _, _ => rfl
  | it :: r, t, q, fs => by
    show (setF r (t + 1) q (fs.set it.2.2.2.2 (.ref (q t)))).length = _
    rw [setF_len r (t + 1) q, List.length_set]
theorem cntI_le : ∀ (r : List It) (n : Nat), n ≤ cntI r n
  | [], n => Nat.le_refl n
  | _ :: r, n => Nat.le_trans (Nat.le_succ n) (cntI_le r (n + 1))
theorem sumI_le : ∀ (r : List It) (n : Nat), n ≤ sumI r n
  | [], n => Nat.le_refl n
  | it :: r, n => Nat.le_trans (Nat.le_add_right n it.2.2.1) (sumI_le r (n + it.2.2.1))
def atI (t : Nat) : ArrayType := if t = 0 then .int else .boolean
def tyI (t : Nat) : FieldType := if t = 0 then .int else .boolean
/-- the push of a length -/
noncomputable def pushB (x pc p N : Nat) : Bool := (decide (p = 0) && (decide (decode (bM x) pc = .ok (.iconst (N : Int), 1)) && decide (Int32.ofInt (N : Int) = Int32.ofNat N))) || ((decide (p = 1) && (decide (decode (bM x) pc = .ok (.bipush (N : Int), 2)) && decide ((Int8.ofInt (N : Int)).toInt32 = Int32.ofNat N))) || (decide (p = 2) && (decide (decode (bM x) pc = .ok (.sipush (N : Int), 3)) && decide ((Int16.ofInt (N : Int)).toInt32 = Int32.ofNat N))))
noncomputable def itB (x ci nf pc : Nat) (it : It) : Bool :=
  decide (decode (bM x) pc = .ok (.aload_n 0, 1)) && (pushB x (pc + 1) it.1 it.2.2.1 && (decide (it.2.1 = 0 ∨ it.2.1 = 1) && (decide (¬ Int32.ofNat it.2.2.1 < 0) && (decide ((Int32.ofNat it.2.2.1).toNatClampNeg = it.2.2.1) && (decide (it.2.2.1 ≤ 4096) && (decide (decode (bM x) (pc + 1 + pLn it.1) = .ok (.newarray (atI it.2.1), 2)) && (decide (decode (bM x) (pc + 1 + pLn it.1 + 2) = .ok (.putfield it.2.2.2.1, 3)) && (chF (owM x) it.2.2.2.1 ci it.2.2.2.2 && (decide ((TN ci it.2.2.2.2).1 = RN (owM x)) && (decide (tyN ci it.2.2.2.2 = .array (tyI it.2.1)) && decide (it.2.2.2.2 < nf)))))))))))
noncomputable def itsB (x ci nf : Nat) : Nat → List It → Bool
  | _, [] => true
  | pc, it :: r => itB x ci nf pc it && itsB x ci nf (pc + 1 + pLn it.1 + 2 + 3) r
theorem itB_ok {x ci nf pc : Nat} {it : It} (h : itB x ci nf pc it = true) : decode (bM x) pc = .ok (.aload_n 0, 1) ∧ pushB x (pc + 1) it.1 it.2.2.1 = true ∧ (it.2.1 = 0 ∨ it.2.1 = 1) ∧ ¬ Int32.ofNat it.2.2.1 < 0 ∧ (Int32.ofNat it.2.2.1).toNatClampNeg = it.2.2.1 ∧ it.2.2.1 ≤ 4096 ∧ decode (bM x) (pc + 1 + pLn it.1) = .ok (.newarray (atI it.2.1), 2) ∧ decode (bM x) (pc + 1 + pLn it.1 + 2) = .ok (.putfield it.2.2.2.1, 3) ∧ chF (owM x) it.2.2.2.1 ci it.2.2.2.2 = true ∧ (TN ci it.2.2.2.2).1 = RN (owM x) ∧ tyN ci it.2.2.2.2 = .array (tyI it.2.1) ∧ it.2.2.2.2 < nf := by
  unfold itB at h
  simp only [Bool.and_eq_true] at h
  obtain ⟨h1, h2, h3, h4, h5, h6, h7, h8, h9, h10, h11, h12⟩ := h
  exact ⟨of_decide_eq_true h1, h2, of_decide_eq_true h3, of_decide_eq_true h4, of_decide_eq_true h5, of_decide_eq_true h6, of_decide_eq_true h7, of_decide_eq_true h8, h9, of_decide_eq_true h10, of_decide_eq_true h11, of_decide_eq_true h12⟩
theorem pushB_ok {x pc p N : Nat} (h : pushB x pc p N = true) : (p = 0 ∧ decode (bM x) pc = .ok (.iconst (N : Int), 1) ∧ Int32.ofInt (N : Int) = Int32.ofNat N) ∨ (p = 1 ∧ decode (bM x) pc = .ok (.bipush (N : Int), 2) ∧ (Int8.ofInt (N : Int)).toInt32 = Int32.ofNat N) ∨ (p = 2 ∧ decode (bM x) pc = .ok (.sipush (N : Int), 3) ∧ (Int16.ofInt (N : Int)).toInt32 = Int32.ofNat N) := by
  unfold pushB at h
  simp only [Bool.or_eq_true, Bool.and_eq_true] at h
  rcases h with ⟨h1, h2, h3⟩ | ⟨h1, h2, h3⟩ | ⟨h1, h2, h3⟩
  · exact Or.inl ⟨of_decide_eq_true h1, of_decide_eq_true h2, of_decide_eq_true h3⟩
  · exact Or.inr (Or.inl ⟨of_decide_eq_true h1, of_decide_eq_true h2, of_decide_eq_true h3⟩)
  · exact Or.inr (Or.inr ⟨of_decide_eq_true h1, of_decide_eq_true h2, of_decide_eq_true h3⟩)
section
variable {l : Launch} {kx : Nat → ClassId} {D : va_G} {s5 : Nat} {p : Program} {e : Env} {R : Room} {s : State} {m : MethodId} {args : Array Value} {below : List Frame} {meth : Method} {c : Code} {Q : State → Prop} {A : Nat → Prop} {ls : Array Slot} {x a ci nf : Nat}
theorem pushI {cells slots pc P N : Nat} {H : Heap} {locs : List Loc} {rest : List Value} (hx : p.tables.exec = Jvm.exec) (hb : c.code = bM x) (h : pushB x pc P N = true) (kk : W p l e R s m args below meth c H locs cells slots Q (F0 m (pc + pLn P) ls (.int (Int32.ofNat N) :: rest))) : W p l e R s m args below meth c H locs cells slots Q (F0 m pc ls rest) := by
  rcases pushB_ok h with ⟨rfl, h1, h2⟩ | ⟨rfl, h1, h2⟩ | ⟨rfl, h1, h2⟩
  · exact lv_iconst hx hb h1 h2 kk
  · exact lv_bipush hx hb h1 h2 kk
  · exact lv_sipush hx hb h1 h2 kk
theorem runI (X : CB p s m args c x kx D A) (hname : meth.name = "<init>") (hl : lv_has ls (mlM x) [(0, .ref a)]) : ∀ (its : List It) (pc t cells slots : Nat) (fs : List Value) (tail : va_W) (H : Heap) (locs : List Loc), itsB x ci nf pc its = true → fs.length = nf → cntI its cells ≤ R.cells → sumI its slots ≤ R.slots → va_P D vwCl ((a, .inr (ci, fs)) :: tail) H → va_D A ((a, .inr (ci, fs)) :: tail) → va_S A s.heap H locs → (∀ (q : Nat → Nat) (H1 : Heap) (locs1 : List Loc), va_P D vwCl ((a, .inr (ci, setF its t q fs)) :: arrF kx its t q tail) H1 → va_D A ((a, .inr (ci, setF its t q fs)) :: arrF kx its t q tail) → va_S A s.heap H1 locs1 → W p l e R s m args below meth c H1 locs1 (cntI its cells) (sumI its slots) Q (F0 m (endI its pc) ls [])) → W p l e R s m args below meth c H locs cells slots Q (F0 m pc ls [])
  | [], pc, t, cells, slots, fs, tail, H, locs, hok, hfs, hc, hs, hP, hD, hS, kk => kk (fun _ => 0) H locs hP hD hS
  | it :: r, pc, t, cells, slots, fs, tail, H, locs, hok, hfs, hc, hs, hP, hD, hS, kk => by
    have hok2 : itB x ci nf pc it = true ∧ itsB x ci nf (pc + 1 + pLn it.1 + 2 + 3) r = true := Bool.and_eq_true_iff.mp hok
    obtain ⟨h1, h2⟩ := hok2
    obtain ⟨g1, g2, g3, g4, g5, g6, g7, g8, g9, g10, g11, g12⟩ := itB_ok h1
    obtain ⟨⟨hx, hb, hml⟩, -⟩ := id X
    have hc1 : cells + 1 ≤ R.cells := Nat.le_trans (cntI_le r (cells + 1)) hc
    have hs1 : slots + it.2.2.1 ≤ R.slots := Nat.le_trans (sumI_le r _) hs
    have hk : (it.2.1 = 0 ∧ atI it.2.1 = .int ∧ tyI it.2.1 = .int) ∨ (it.2.1 = 1 ∧ atI it.2.1 = .boolean ∧ tyI it.2.1 = .boolean) := by
      rcases g3 with h | h
      · exact Or.inl ⟨h, by rw [h]; rfl, by rw [h]; rfl⟩
      · exact Or.inr ⟨h, by rw [h]; rfl, by rw [h]; rfl⟩
    refine lv_aload_n (k := 0) (i := 0) (x := a) hx hb g1 rfl (lv_at hl 0 rfl) ?_
    refine pushI hx hb g2 ?_
    refine nwA (t := it.2.1) (N := it.2.2.1) hk X g4 g5 g6 hc1 hs1 hP hD hS g7 (fun q1 H1 hP hD hS => ?_)
    refine ptF (k := it.2.2.2.2) (i := it.2.2.2.1) (ci := ci) (v := .ref q1) (ty := .array (tyI it.2.1)) X hname g9 g10 g11 rfl rfl (by rw [hfs]; exact g12) hP hD hS g8 (fun G locs1 hP hD hS => ?_)
    refine runI X hname hl r (pc + 1 + pLn it.1 + 2 + 3) (t + 1) (cells + 1) (slots + it.2.2.1) (fs.set it.2.2.2.2 (.ref q1)) ((q1, .inl (kx it.2.1, it.2.2.1, .inl fun _ => 0)) :: tail) G locs1 h2 (by rw [List.length_set]; exact hfs) hc hs hP hD hS (fun q H2 locs2 hP hD hS => ?_)
    have hq : ∀ j, t + 1 ≤ j → q j = (fun j => if j = t then q1 else q j) j := fun j hj => (if_neg (by omega)).symm
    have e0 : (fun j => if j = t then q1 else q j) t = q1 := if_pos rfl
    have e1 : setF (it :: r) t (fun j => if j = t then q1 else q j) fs = setF r (t + 1) q (fs.set it.2.2.2.2 (.ref q1)) := by
      rw [setF_cg r (t + 1) q (fun j => if j = t then q1 else q j) _ hq]
      show setF r (t + 1) (fun j => if j = t then q1 else q j) (fs.set it.2.2.2.2 (.ref ((fun j => if j = t then q1 else q j) t))) = _
      rw [e0]
    have e2 : arrF kx (it :: r) t (fun j => if j = t then q1 else q j) tail = arrF kx r (t + 1) q ((q1, .inl (kx it.2.1, it.2.2.1, .inl fun _ => 0)) :: tail) := by
      rw [arrF_cg kx r (t + 1) q (fun j => if j = t then q1 else q j) _ hq]
      show arrF kx r (t + 1) (fun j => if j = t then q1 else q j) (((fun j => if j = t then q1 else q j) t, .inl (kx it.2.1, it.2.2.1, .inl fun _ => 0)) :: tail) = _
      rw [e0]
    exact kk (fun j => if j = t then q1 else q j) H2 locs2 (by rw [e1, e2]; exact hP) (by rw [e1, e2]; exact hD) hS
end
section
variable {l : Launch} {kx : Nat → ClassId} {D : va_G} {s5 : Nat}
def IM0 : List It := [(1, 0, 16, 7, 2), (1, 0, 16, 13, 3), (1, 0, 16, 16, 4), (1, 0, 120, 19, 6), (1, 0, 120, 22, 7), (1, 0, 120, 25, 8), (1, 0, 120, 28, 9), (1, 0, 120, 31, 10), (1, 0, 120, 34, 11)]
def IM1 : List It := [(1, 0, 40, 40, 14), (1, 0, 40, 43, 15), (1, 0, 40, 46, 16), (1, 0, 40, 49, 17), (1, 1, 40, 52, 18), (1, 0, 80, 56, 20), (1, 0, 80, 59, 21), (1, 0, 80, 62, 22), (1, 0, 80, 65, 23), (1, 0, 80, 68, 24), (1, 0, 80, 71, 25)]
def IM2 : List It := [(1, 0, 7, 77, 27), (0, 0, 5, 80, 28), (1, 0, 40, 83, 29), (2, 0, 1200, 86, 33), (1, 0, 30, 89, 34), (1, 1, 60, 92, 42), (1, 0, 60, 95, 44), (1, 0, 40, 98, 47), (1, 0, 40, 101, 48), (1, 0, 40, 104, 49), (1, 0, 30, 107, 51), (1, 0, 30, 110, 52), (1, 0, 30, 113, 53), (1, 0, 40, 116, 54), (1, 0, 40, 119, 58), (1, 0, 40, 122, 59), (1, 1, 40, 125, 60), (1, 0, 9, 128, 62), (1, 0, 9, 131, 63), (1, 0, 9, 134, 64), (1, 0, 9, 137, 65), (1, 0, 16, 140, 66), (1, 0, 16, 143, 67), (1, 0, 16, 146, 68), (1, 0, 16, 149, 69), (1, 0, 16, 152, 70), (1, 1, 40, 155, 71), (1, 0, 72, 158, 72), (1, 0, 8, 161, 73), (1, 0, 8, 164, 74), (1, 0, 40, 167, 75), (1, 0, 40, 170, 76), (1, 1, 45, 173, 77), (1, 0, 9, 176, 78), (1, 0, 9, 179, 79), (1, 0, 10, 182, 80), (1, 0, 6, 185, 81), (1, 0, 10, 188, 82), (0, 0, 4, 191, 83), (1, 0, 20, 194, 86)]
def FM0 : List Value := [.int 0, .int 0, .null, .null, .null, .int 0, .null, .null, .null, .null, .null, .null, .null, .int 0, .null, .null, .null, .null, .null, .int 0, .null, .null, .null, .null, .null, .null, .null, .null, .null, .null, .int 0, .int 0, .int 0, .null, .null, .int 0, .int 0, .int 0, .int 0, .int 0, .int 0, .int 0, .null, .int 0, .null, .int 0, .int 0, .null, .null, .null, .int 0, .null, .null, .null, .null, .int 0, .int 0, .int 0, .null, .null, .null, .int 0, .null, .null, .null, .null, .null, .null, .null, .null, .null, .null, .null, .null, .null, .null, .null, .null, .null, .null, .null, .null, .null, .null, .int 0, .int 0, .null, .int 0]
def shp156 (kx : Nat → ClassId) (s5 a : Nat) (q : Nat → Nat → Nat) : va_W := (a, .inr (12, setF IM2 0 (q 4) ((setF IM1 0 (q 2) ((setF IM0 0 (q 0) FM0).set 12 (.ref (q 1 0)))).set 26 (.ref (q 3 0))))) :: (arrF kx IM2 0 (q 4) ((q 3 0, .inl (kx 0, 6, .inl (upd (upd (upd (upd (upd (upd (fun _ => 0) (0 : Int32).toNatClampNeg 0) (1 : Int32).toNatClampNeg 1) (2 : Int32).toNatClampNeg 2) (3 : Int32).toNatClampNeg 3) (4 : Int32).toNatClampNeg 0) (5 : Int32).toNatClampNeg 1))) :: (arrF kx IM1 0 (q 2) ((q 1 0, .inl (kx 0, 2, .inl (upd (upd (fun _ => 0) (0 : Int32).toNatClampNeg 1) (1 : Int32).toNatClampNeg 1))) :: (arrF kx IM0 0 (q 0) ([]))))))
set_option maxHeartbeats 4000000 in
set_option maxRecDepth 20000 in
theorem ct156 : MCT l kx D s5 156 12 { frames := 1, cells := 62, slots := 3665, locals := 64 } FM0 (shp156 kx s5) := by
  refine mct_of (by decide +kernel) (by decide +kernel) (fun a p e s m args below meth c A ls X hN hname hr hlocks hP hD hl => ?_)
  obtain ⟨⟨hx, hb, hml⟩, hts, hown, hK, hA⟩ := id X
  have hS : va_S A s.heap s.heap [] := va_S.rf
  refine lv_aload_n (k := 0) (i := 0) (x := a) hx hb (by decide +kernel) rfl (lv_at hl 0 rfl) ?_
  refine obI (i := 1) X (tblG_of (by decide +kernel) rfl) hl.1 (by decide) (by decide) (by decide +kernel) ?_
  refine runI (ci := 12) (nf := 88) X hname hl IM0 4 0 0 0 (FM0) ([]) _ _ (by decide +kernel) rfl (by decide +kernel) (by decide +kernel) hP hD hS (fun q0 G0 locs0 hP hD hS => ?_)
  refine W.eq (g2 := F0 m 76 ls []) rfl ?_
  refine W.widen (k := 9) (n := 768) (by decide +kernel) (by decide +kernel) ?_
  refine lv_aload_n (k := 0) (i := 0) (x := a) hx hb (by decide +kernel) rfl (lv_at hl 0 rfl) ?_
  refine lv_iconst (n := 2) (v := 2) hx hb (by decide +kernel) (by decide) ?_
  refine nwA (t := 0) (N := 2) (Or.inl ⟨rfl, rfl, rfl⟩) X (by decide) (by decide) (by decide) (by decide) (by decide) hP hD hS (by decide +kernel) (fun q1 H0 hP hD hS => ?_)
  refine lv_dup hx hb (by decide +kernel) rfl ?_
  refine lv_iconst (n := 0) (v := 0) hx hb (by decide +kernel) (by decide) ?_
  refine lv_iconst (n := 1) (v := 1) hx hb (by decide +kernel) (by decide) ?_
  refine ias X (vp_in_nI (n := 0) (by decide) (by decide)) hP hD hS (by decide +kernel) (fun H0_0 locs0_0 hP hD hS => ?_)
  refine lv_dup hx hb (by decide +kernel) rfl ?_
  refine lv_iconst (n := 1) (v := 1) hx hb (by decide +kernel) (by decide) ?_
  refine lv_iconst (n := 1) (v := 1) hx hb (by decide +kernel) (by decide) ?_
  refine ias X (vp_in_nI (n := 1) (by decide) (by decide)) hP hD hS (by decide +kernel) (fun H0_1 locs0_1 hP hD hS => ?_)
  refine ptF (k := 12) (i := 37) (ci := 12) (v := .ref q1) (ty := .array .int) X hname (by decide +kernel) (by decide +kernel) (by decide +kernel) rfl rfl (by simp only [setF_len, List.length_set]; exact (show 12 < 88 from by decide)) hP hD hS (by decide +kernel) (fun K0 locsK0 hP hD hS => ?_)
  refine runI (ci := 12) (nf := 88) X hname hl IM1 91 0 10 770 ((setF IM0 0 q0 (FM0)).set 12 (.ref q1)) ((q1, .inl (kx 0, 2, .inl (upd (upd (fun _ => 0) (0 : Int32).toNatClampNeg 1) (1 : Int32).toNatClampNeg 1))) :: (arrF kx IM0 0 q0 ([]))) _ _ (by decide +kernel) (by simp only [setF_len, List.length_set]; rfl) (by decide +kernel) (by decide +kernel) hP hD hS (fun q2 G1 locs1 hP hD hS => ?_)
  refine W.eq (g2 := F0 m 179 ls []) rfl ?_
  refine W.widen (k := 21) (n := 1450) (by decide +kernel) (by decide +kernel) ?_
  refine lv_aload_n (k := 0) (i := 0) (x := a) hx hb (by decide +kernel) rfl (lv_at hl 0 rfl) ?_
  refine lv_bipush (n := 6) (v := 6) hx hb (by decide +kernel) (by decide) ?_
  refine nwA (t := 0) (N := 6) (Or.inl ⟨rfl, rfl, rfl⟩) X (by decide) (by decide) (by decide) (by decide) (by decide) hP hD hS (by decide +kernel) (fun q3 H1 hP hD hS => ?_)
  refine lv_dup hx hb (by decide +kernel) rfl ?_
  refine lv_iconst (n := 0) (v := 0) hx hb (by decide +kernel) (by decide) ?_
  refine lv_iconst (n := 0) (v := 0) hx hb (by decide +kernel) (by decide) ?_
  refine ias X (vp_in_nI (n := 0) (by decide) (by decide)) hP hD hS (by decide +kernel) (fun H1_0 locs1_0 hP hD hS => ?_)
  refine lv_dup hx hb (by decide +kernel) rfl ?_
  refine lv_iconst (n := 1) (v := 1) hx hb (by decide +kernel) (by decide) ?_
  refine lv_iconst (n := 1) (v := 1) hx hb (by decide +kernel) (by decide) ?_
  refine ias X (vp_in_nI (n := 1) (by decide) (by decide)) hP hD hS (by decide +kernel) (fun H1_1 locs1_1 hP hD hS => ?_)
  refine lv_dup hx hb (by decide +kernel) rfl ?_
  refine lv_iconst (n := 2) (v := 2) hx hb (by decide +kernel) (by decide) ?_
  refine lv_iconst (n := 2) (v := 2) hx hb (by decide +kernel) (by decide) ?_
  refine ias X (vp_in_nI (n := 2) (by decide) (by decide)) hP hD hS (by decide +kernel) (fun H1_2 locs1_2 hP hD hS => ?_)
  refine lv_dup hx hb (by decide +kernel) rfl ?_
  refine lv_iconst (n := 3) (v := 3) hx hb (by decide +kernel) (by decide) ?_
  refine lv_iconst (n := 3) (v := 3) hx hb (by decide +kernel) (by decide) ?_
  refine ias X (vp_in_nI (n := 3) (by decide) (by decide)) hP hD hS (by decide +kernel) (fun H1_3 locs1_3 hP hD hS => ?_)
  refine lv_dup hx hb (by decide +kernel) rfl ?_
  refine lv_iconst (n := 4) (v := 4) hx hb (by decide +kernel) (by decide) ?_
  refine lv_iconst (n := 0) (v := 0) hx hb (by decide +kernel) (by decide) ?_
  refine ias X (vp_in_nI (n := 4) (by decide) (by decide)) hP hD hS (by decide +kernel) (fun H1_4 locs1_4 hP hD hS => ?_)
  refine lv_dup hx hb (by decide +kernel) rfl ?_
  refine lv_iconst (n := 5) (v := 5) hx hb (by decide +kernel) (by decide) ?_
  refine lv_iconst (n := 1) (v := 1) hx hb (by decide +kernel) (by decide) ?_
  refine ias X (vp_in_nI (n := 5) (by decide) (by decide)) hP hD hS (by decide +kernel) (fun H1_5 locs1_5 hP hD hS => ?_)
  refine ptF (k := 26) (i := 74) (ci := 12) (v := .ref q3) (ty := .array .int) X hname (by decide +kernel) (by decide +kernel) (by decide +kernel) rfl rfl (by simp only [setF_len, List.length_set]; exact (show 26 < 88 from by decide)) hP hD hS (by decide +kernel) (fun K1 locsK1 hP hD hS => ?_)
  refine runI (ci := 12) (nf := 88) X hname hl IM2 211 0 22 1456 ((setF IM1 0 q2 ((setF IM0 0 q0 (FM0)).set 12 (.ref q1))).set 26 (.ref q3)) ((q3, .inl (kx 0, 6, .inl (upd (upd (upd (upd (upd (upd (fun _ => 0) (0 : Int32).toNatClampNeg 0) (1 : Int32).toNatClampNeg 1) (2 : Int32).toNatClampNeg 2) (3 : Int32).toNatClampNeg 3) (4 : Int32).toNatClampNeg 0) (5 : Int32).toNatClampNeg 1))) :: (arrF kx IM1 0 q2 ((q1, .inl (kx 0, 2, .inl (upd (upd (fun _ => 0) (0 : Int32).toNatClampNeg 1) (1 : Int32).toNatClampNeg 1))) :: (arrF kx IM0 0 q0 ([]))))) _ _ (by decide +kernel) (by simp only [setF_len, List.length_set]; rfl) (by decide +kernel) (by decide +kernel) hP hD hS (fun q4 G2 locs2 hP hD hS => ?_)
  refine W.eq (g2 := F0 m 530 ls []) rfl ?_
  refine W.widen (k := 62) (n := 3665) (by decide +kernel) (by decide +kernel) ?_
  exact retC (q := fun t => ([q0, fun _ => q1, q2, fun _ => q3, q4] : List (Nat → Nat)).getD t (fun _ => 0)) X hr hlocks (by decide +kernel) hP hD hS (fun z hz => hz) (fun h => h) (by decide) (by decide)
end
