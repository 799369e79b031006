/-! switches, calls, returns; the whole step; a method's contract out of its abstract run -/
noncomputable def wsM (x : Nat) : List Jvm.Cond := Cond.code (yM x) (bM x) (mlM x) (rM x) :: tblG
theorem chM_ok {x : Nat} (h : chM x = true) : Cond.code (yM x) (bM x) (mlM x) (rM x) ∈ tblG ∧ Cond.initialized (RN (owM x)) ∈ tblG ∧ (yM x).cls = RN (owM x) ∧ ((yM x).cls ≠ "java/lang/invoke/MethodHandle" ∧ (yM x).cls ≠ "java/lang/invoke/VarHandle") ∧ (parseMethodDescriptor (yM x).desc).map (fun d => d.parameters.length) = some (npM x) ∧ plainName (yM x).cls = true ∧ (stM x = true → Cond.static (yM x) ∈ tblG) ∧ (stM x = false → Cond.instanceMethod (yM x) ∈ tblG ∧ Cond.selects (yM x).cls (yM x) (yM x) ∈ tblG) := by
  unfold chM at h
  simp only [Bool.and_eq_true] at h
  obtain ⟨h1, h2, h3, h4, h5, h6, h7⟩ := h
  refine ⟨tblG_at (of_decide_eq_true h1) rfl, tblG_at (of_decide_eq_true h2) rfl, of_decide_eq_true h3, of_decide_eq_true h4, of_decide_eq_true h5, h6, fun q => ?_, fun q => ?_⟩
  · rw [q] at h7
    exact tblG_at (of_decide_eq_true h7) rfl
  · rw [q] at h7
    simp only [cond_false, Bool.and_eq_true] at h7
    exact ⟨tblG_at (of_decide_eq_true h7.1) rfl, tblG_at (of_decide_eq_true h7.2) rfl⟩
theorem caM_ch {x : Nat} (hx : x < 248) (h : caM x = true) : chM x = true := by
  have := ok_a x hx
  rw [h] at this
  exact this
theorem okr_ok {ad : Nat → Nat} {st : List AV} (h : okr st = true) : ((st.map (cv ad)).map fun v => v.category).sum ≤ 8 := by
  unfold okr at h
  simp only [Bool.and_eq_true] at h
  have h1 := Nat.le_of_ble_eq_true h.1
  have h2 := List.all_eq_true.mp h.2
  have : ∀ l : List AV, (∀ v ∈ l, (cv ad v).category = 1) → ((l.map (cv ad)).map fun v => v.category).sum = l.length := by
    intro l
    induction l with
    | nil => intro _; rfl
    | cons a l ih =>
      intro hl
      simp only [List.map_cons, List.sum_cons, List.length_cons]
      rw [ih (fun v hv => hl v (List.mem_cons_of_mem _ hv)), hl a List.mem_cons_self]
      omega
  rw [this st (fun v hv => cv_cat1 (fun z hz => by
    have := h2 v hv
    rw [hz] at this
    cases this))]
  exact h1
section SNC
variable {p : Program} {l : Launch} {e : Env} {R : Room} {s : State} {m : MethodId} {args : Array Value} {below : List Frame} {meth : Method} {c : Code} {cells slots : Nat} {QW : State → Prop} {ad : Nat → Nat} {kx : Nat → ClassId} {D : va_G} {A : Nat → Prop} {nL : Nat} {cc : ByteArray} {pc : Nat} {ls : AL} {st : List AV} {w : Wd}
theorem swT_ok {d : Int} {k : Nat → Prop} : ∀ {l : List (Int × Int)} {v : Int}, swT pc d k l v → k ((pc : Int) + Op.lookupswitch.offset l d v).toNat
  | [], v, h => h
  | (a, o) :: l, v, h => by
    rw [Op.lookupswitch.offset_cons]
    unfold swT at h
    by_cases e : v = a
    · rw [if_pos e] at h
      rw [if_pos e.symm]
      exact h
    · rw [if_neg e] at h
      rw [if_neg (fun q => e q.symm)]
      exact swT_ok h
theorem off_mem {d v : Int} : ∀ {l : List (Int × Int)}, Op.lookupswitch.offset l d v = d ∨ ∃ q ∈ l, Op.lookupswitch.offset l d v = q.2
  | [] => Or.inl rfl
  | (a, o) :: l => by
    rw [Op.lookupswitch.offset_cons]
    by_cases e : a = v
    · rw [if_pos e]
      exact Or.inr ⟨(a, o), List.mem_cons_self, rfl⟩
    · rw [if_neg e]
      rcases off_mem (d := d) (v := v) (l := l) with h | ⟨q, h1, h2⟩
      · exact Or.inl h
      · exact Or.inr ⟨q, List.mem_cons_of_mem _ h1, h2⟩
theorem tsl_off {d v : Int} : ∀ {l : List Int} {lo : Int}, (v < lo ∨ lo + l.length ≤ v → Op.lookupswitch.offset (tsl lo l) d v = d) ∧ (∀ o, lo ≤ v → l[(v - lo).toNat]? = some o → Op.lookupswitch.offset (tsl lo l) d v = o)
  | [], lo => ⟨fun _ => rfl, fun o _ h => by simp at h⟩
  | a :: l, lo => by
    obtain ⟨h1, h2⟩ := tsl_off (d := d) (v := v) (l := l) (lo := lo + 1)
    refine ⟨fun h => ?_, fun o hlo ho => ?_⟩
    · show Op.lookupswitch.offset ((lo, a) :: tsl (lo + 1) l) d v = d
      rw [Op.lookupswitch.offset_cons, if_neg (by simp only [List.length_cons] at h; omega)]
      exact h1 (by simp only [List.length_cons] at h; omega)
    · show Op.lookupswitch.offset ((lo, a) :: tsl (lo + 1) l) d v = o
      rw [Op.lookupswitch.offset_cons]
      by_cases e : lo = v
      · rw [if_pos e]
        subst e
        rw [show (lo - lo).toNat = 0 by omega] at ho
        simpa using ho
      · rw [if_neg e]
        refine h2 o (by omega) ?_
        rw [show (v - lo).toNat = (v - (lo + 1)).toNat + 1 by omega] at ho
        simpa using ho
theorem sn_lookup {d : Int} {ps : Array (Int × Int)} {len : Nat} (hp : (ps.toList.zip (ps.toList.drop 1)).all (fun (a, next) => a.1 < next.1) = true) (h0 : 0 ≤ (pc : Int) + d) (h1 : ∀ q ∈ ps.toList, 0 ≤ (pc : Int) + q.2) (hx : p.tables.exec = Jvm.exec) (hb : c.code = cc) (hdg : decode cc pc = .ok (.lookupswitch d ps, len)) (h : pI st fun v st => swT pc d (fun t => SAT p l e R s m args below meth c cells slots QW ad kx D A nL (t, ls, st, w)) ps.toList v) : SAT p l e R s m args below meth c cells slots QW ad kx D A nL (pc, ls, st, w) := by
  intro hw hst hls hnl H locs lsA hP hD hS hL
  have h9 := pI_ok h
  clear h
  obtain ⟨v, st1, rfl, h⟩ := h9
  have hv : in32 v := fa_head hst
  have h := swT_ok h
  refine lv_lookup hx hb hdg hp (off := Op.lookupswitch.offset ps.toList d v) (by rw [ti_oi hv]) (tgt := ((pc : Int) + Op.lookupswitch.offset ps.toList d v).toNat) ?_ (h hw (fa_tail hst) hls hnl H locs lsA hP hD hS hL)
  rw [Int.toNat_of_nonneg]
  rcases off_mem (d := d) (v := v) (l := ps.toList) with q | ⟨q, q1, q2⟩
  · rw [q]; exact h0
  · rw [q2]; exact h1 q q1
theorem sn_table {d lo hi : Int} {offs : Array Int} {len : Nat} (hsz : (offs.size : Int) = hi - lo + 1) (h0 : 0 ≤ (pc : Int) + d) (h1 : ∀ q ∈ offs.toList, 0 ≤ (pc : Int) + q) (hx : p.tables.exec = Jvm.exec) (hb : c.code = cc) (hdg : decode cc pc = .ok (.tableswitch d lo hi offs, len)) (h : pI st fun v st => swT pc d (fun t => SAT p l e R s m args below meth c cells slots QW ad kx D A nL (t, ls, st, w)) (tsl lo offs.toList) v) : SAT p l e R s m args below meth c cells slots QW ad kx D A nL (pc, ls, st, w) := by
  intro hw hst hls hnl H locs lsA hP hD hS hL
  have h9 := pI_ok h
  clear h
  obtain ⟨v, st1, rfl, h⟩ := h9
  have hv : in32 v := fa_head hst
  have h := swT_ok h
  obtain ⟨t1, t2⟩ := tsl_off (d := d) (v := v) (l := offs.toList) (lo := lo)
  by_cases hout : v < lo ∨ hi < v
  · rw [t1 (by simp only [Array.length_toList]; omega)] at h
    exact lv_tableOut hx hb hdg (by rw [ti_oi hv]; exact hout) (tgt := ((pc : Int) + d).toNat) (by rw [Int.toNat_of_nonneg h0]) (h hw (fa_tail hst) hls hnl H locs lsA hP hD hS hL)
  · have hlt : (v - lo).toNat < offs.size := by omega
    have hg : offs.toList[(v - lo).toNat]? = some offs[(v - lo).toNat] := by rw [Array.getElem?_toList, Array.getElem?_eq_getElem hlt]
    rw [t2 _ (by omega) hg] at h
    refine lv_tableIn hx hb hdg (by rw [ti_oi hv]; omega) (by rw [ti_oi hv]; omega) (off := offs[(v - lo).toNat]) (by rw [ti_oi hv, Array.getElem?_eq_getElem hlt]) (tgt := ((pc : Int) + offs[(v - lo).toNat]).toNat) ?_ (h hw (fa_tail hst) hls hnl H locs lsA hP hD hS hL)
    rw [Int.toNat_of_nonneg (h1 _ (List.mem_of_getElem? hg))]
/-- the contract of method x at these arguments, in this world -/
def Bw (ad : Nat → Nat) (kx : Nat → ClassId) (D : va_G) (A : Nat → Prop) (w : Wd) (t : State) : Prop := va_P D vwCl (cW ad kx w) t.heap ∧ va_K D vwCl (tys0 kx) t ∧ va_D A (cW ad kx w)
def Qx (ad : Nat → Nat) (kx : Nat → ClassId) (D : va_G) (A : Nat → Prop) (K : Option AV → Wd → Prop) : Option FieldType → Array Value → State → Outcome → State → Prop
  | none => va_Qv (fun w' : Wd => K none w' ∧ wfW w') (Bw ad kx D A) A
  | some _ => va_Qi (fun (r : Int32) (w' : Wd) => K (some (.inl r.toInt)) w' ∧ wfW w') (Bw ad kx D A) A
/-- what is said of the text constants, closed under what a walk does -/
abbrev SFT : Type := (Nat → Prop) → State → Heap → Prop
def SFok (SF : SFT) : Prop := (∀ A U H H1, SF A U H → (∀ q : Nat, q < H.size → ¬ A q → H1[q]? = H[q]?) → SF A U H1) ∧ (∀ A (u U : State) H, U.vm = u.vm → SF A u H → SF A U H) ∧ (∀ A (u U : State) H, u.WarmedH U.vm → SF A u H → SF A U H) ∧ (∀ A B U H, SF A U H → (∀ q, B q → A q) → SF B U H)
def MOK (SF : SFT) (l : Launch) (ad : Nat → Nat) (kx : Nat → ClassId) (D : va_G) (rm : Room) (x : Nat) (as : List AV) (w : Wd) (K : Option AV → Wd → Prop) : Prop := ∀ sz : Nat, Met l (yM x) (wsM x) rm (va_Pc (as.map (cv ad)) (fun U => U.heap.size = sz ∧ va_P D vwCl (cW ad kx w) U.heap ∧ va_K D vwCl (tys0 kx) U ∧ va_D (fun _ => True) (cW ad kx w) ∧ SF (va_A (cW ad kx w) sz) U U.heap)) (Qx ad kx D (va_A (cW ad kx w) sz) K (rM x)) 0 0 (va_A (cW ad kx w) sz)
theorem goodG {x i own : Nat} (h1 : Cond.methodLink (RN own) i (yM x) ∈ tblG) (hx : x < 248) (hc : caM x = true) : GoodIn tblG (wsM x) := by
  obtain ⟨g1, -⟩ := chM_ok (caM_ch hx hc)
  intro w hw
  rcases List.mem_cons.mp hw with rfl | hw
  · exact ⟨g1, tblG_good g1⟩
  · exact ⟨hw, tblG_good hw⟩
theorem pcBlind {SF : SFT} (hF : SFok SF) {as : List AV} {sz : Nat} : FrameBlind (va_Pc (as.map (cv ad)) (fun U => U.heap.size = sz ∧ va_P D vwCl (cW ad kx w) U.heap ∧ va_K D vwCl (tys0 kx) U ∧ va_D (fun _ => True) (cW ad kx w) ∧ SF (va_A (cW ad kx w) sz) U U.heap)) := fun a U g mk q => by
  obtain ⟨q0, q1, q2, q3, q4, q5⟩ := q
  exact ⟨q0, q1, q2, va_K.moved (u := U) (U := U.calling g mk a) (Vm.Alike.refl U.vm) q3, q4, hF.2.1 _ U (U.calling g mk a) U.heap rfl q5⟩
theorem vaA {H : Heap} {locs : List Loc} (hD : va_D A (cW ad kx w)) (hS : va_S A s.heap H locs) (hA : ∀ q, s.heap.size ≤ q → A q) : ∀ q, va_A (cW ad kx w) H.size q → A q := by
  intro q h
  rcases h with ⟨k, e, h⟩ | h
  · exact hD.2 k (q, e) h
  · exact hA q (Nat.le_trans hS.1 h)
/-- what runs of a call give, whatever kind of call it is -/
theorem cal_ok {rm : Room} {x : Nat} {as : List AV} {rest : List AV} {K : Option AV → Wd → Prop} {H : Heap} {locs : List Loc} {lsA : Array Slot} {sA : List Value}
    (hr : va_Run p l e R s m args below meth c H locs cells slots 0 0 (F0 m pc lsA sA) (rest.map (cv ad)) (Qx ad kx D (va_A (cW ad kx w) H.size) K (rM x) (as.map (cv ad)).toArray) (va_A (cW ad kx w) H.size))
    (hA : ∀ q, s.heap.size ≤ q → A q) (hrest : ∀ v ∈ rest, okA v) (hls : ∀ (j : Nat) (v : AV), ls[j]? = some (some v) → okA v) (hnl : ls.length = nL) (hD : va_D A (cW ad kx w)) (hS : va_S A s.heap H locs) (hL : lv_has lsA nL (prs ad ls 0))
    (hk : match rM x with
      | none => ∀ w1, K none w1 → SAT p l e R s m args below meth c cells slots QW ad kx D A nL (pc + 3, ls, rest, w1)
      | some _ => ∀ v w1, K (some (.inl v)) w1 → SAT p l e R s m args below meth c cells slots QW ad kx D A nL (pc + 3, ls, .inl v :: rest, w1)) :
    W p l e R s m args below meth c H locs cells slots QW (F0 m pc lsA sA) := by
  have hF := vaA hD hS hA
  cases hrx : rM x with
  | none =>
    rw [hrx] at hr hk
    refine va_callv (a := (as.map (cv ad)).toArray) hr hS (fun q _ h => hF q h) hF (fun w1 t H1 locs1 ht hvm hw hB hz hk1 hS1 => ?_)
    obtain ⟨b1, b2, b3⟩ := hB
    rw [ht] at b1
    exact hk w1 hw.1 hw.2 hrest hls hnl H1 locs1 lsA b1 (b3.weaken (fun _ q _ h => hF q.1 h)) hS1 hL
  | some ty =>
    rw [hrx] at hr hk
    refine va_calli (a := (as.map (cv ad)).toArray) hr hS (fun q _ h => hF q h) hF (fun r w1 t H1 locs1 ht hvm hw hB hz hk1 hS1 => ?_)
    obtain ⟨b1, b2, b3⟩ := hB
    rw [ht] at b1
    have := hk r.toInt w1 hw.1 hw.2 (fa_cons (show okA (.inl r.toInt) from in32_ti r) hrest) hls hnl H1 locs1 lsA b1 (b3.weaken (fun _ q _ h => hF q.1 h)) hS1 hL
    rw [List.map_cons, show cv ad (.inl r.toInt) = .int (Int32.ofInt r.toInt) from rfl, oi_ti] at this
    exact this
/-- what is known of callees -/
def HC (SF : SFT) (l : Launch) (ad : Nat → Nat) (kx : Nat → ClassId) (D : va_G) (C : CT) (rm : Room) : Prop := ∀ x as w K, caM x = true → x < 248 → C x as w K → (∀ v ∈ as, okA v) → wfW w → MOK SF l ad kx D rm x as w K
theorem cal_split {C : CT} {x : Nat} {as : List AV} {P : AS → Prop} {rest : List AV} (h : cal C x as P pc ls rest w) : okr rest = true ∧ ∃ K, C x as w K ∧ (match rM x with
      | none => ∀ w1, K none w1 → P (pc + 3, ls, rest, w1)
      | some _ => ∀ v w1, K (some (.inl v)) w1 → P (pc + 3, ls, .inl v :: rest, w1)) := by
  unfold cal at h
  split at h
  · rename_i e
    refine ⟨e, ?_⟩
    cases hr : rM x with
    | none =>
      rw [hr] at h
      exact ⟨_, h, fun w1 q => q⟩
    | some ty =>
      rw [hr] at h
      exact ⟨_, h, fun v w1 q => q⟩
  · exact h.elim
theorem sn_callS {C : CT} {rm : Room} {own i x y : Nat} {K : Option AV → Wd → Prop} {SF : SFT} (hF : SFok SF) (hSF : SF A s s.heap) (hC : HC SF l ad kx D C rm) (hrc : rm.cells = 0) (hrs : rm.slots = 0) (hrf : rm.frames + 1 ≤ R.frames) (hrl : 8 + (mlM x + 11) + rm.locals ≤ R.locals) (hcl : cells ≤ R.cells) (hsl : slots ≤ R.slots) (hK : va_K D vwCl (tys0 kx) s) (hA : ∀ q, s.heap.size ≤ q → A q) (hml : c.maxLocals = nL) (hts : ∀ w ∈ tblG, w.before args s = true) (hown : s.vm.findClass (RN own) = some m.cls) (hlk : Cond.methodLink (RN own) i (yM x) ∈ tblG) (hy : y = npM x) (hst : stM x = true) (hca : caM x = true) (hx48 : x < 248) (hx : p.tables.exec = Jvm.exec) (hb : c.code = cc) (hdg : decode cc pc = .ok (.invokestatic i, 3)) (h : pN y st [] fun as st => cal C x as (SAT p l e R s m args below meth c cells slots QW ad kx D A nL) pc ls st w) : SAT p l e R s m args below meth c cells slots QW ad kx D A nL (pc, ls, st, w) := by
  intro hw hst0 hls hnl H locs lsA hP hD hS hL
  have h9 := pN_ok h
  clear h
  obtain ⟨as, rest, rfl, h2, h⟩ := h9
  rw [List.append_nil] at h
  obtain ⟨h3, K, h4, h5⟩ := cal_split h
  obtain ⟨g1, g2, g3, g4, g5, g6, g7, g8⟩ := chM_ok (caM_ch hx48 hca)
  have hM := hC x as w K hca hx48 h4 (fun v hv => hst0 v (List.mem_append_left _ (List.mem_reverse.mpr hv))) hw H.size
  have hG := goodG hlk hx48 hca
  have cw : CallB R s args (RN own) i (yM x) (bM x) (mlM x) (rM x) (wsM x) rm 0 0 y ∧ (Cond.static (yM x)).before args s = true :=
    ⟨callB_of y hts hG rfl hrc hrs (by rw [g3]; exact hts _ g2) (hts _ hlk) ⟨g4.1, g4.2, by rw [g5, hy]⟩ ⟨hrf, hrl⟩, hts _ (g7 hst)⟩
  have hr := va_runS (e := e) (below := below) (meth := meth) (As := as.map (cv ad)) (rest := rest.map (cv ad)) (g := F0 m pc lsA (((as.reverse ++ rest).map (cv ad)))) (cells := cells) (slots := slots) (H := H) (locs := locs) ⟨hx, hb, hml, hown, hts⟩ hM cw ⟨pcBlind hF, fun U hU hW => ⟨rfl, by rw [hU], by rw [hU]; exact hP, va_K.moved hW.alike hK, hD.weaken (fun _ _ _ _ => trivial), by rw [hU]; exact hF.2.2.2 _ _ _ _ (hF.2.2.1 _ s U H hW (hF.1 _ _ _ _ hSF hS.2.1)) (vaA hD hS hA)⟩⟩ rfl (by simp [h2]) hL.1 (by simp) (lv_room (okr_ok h3)) hdg ⟨hcl, hsl⟩
  exact cal_ok (rm := rm) hr hA (fun v hv => hst0 v (List.mem_append_right _ hv)) hls hnl hD hS hL h5
theorem sn_callV {C : CT} {rm : Room} {own i x y : Nat} {SF : SFT} (hF : SFok SF) (hSF : SF A s s.heap) (hC : HC SF l ad kx D C rm) (hrc : rm.cells = 0) (hrs : rm.slots = 0) (hrf : rm.frames + 1 ≤ R.frames) (hrl : 8 + (mlM x + 11) + rm.locals ≤ R.locals) (hcl : cells ≤ R.cells) (hsl : slots ≤ R.slots) (hK : va_K D vwCl (tys0 kx) s) (hA : ∀ q, s.heap.size ≤ q → A q) (hml : c.maxLocals = nL) (hts : ∀ w ∈ tblG, w.before args s = true) (hown : s.vm.findClass (RN own) = some m.cls) (hlk : Cond.methodLink (RN own) i (yM x) ∈ tblG) (hy : y = npM x) (hst : stM x = false) (hca : caM x = true) (hx48 : x < 248) (hx : p.tables.exec = Jvm.exec) (hb : c.code = cc) (hdg : decode cc pc = .ok (.invokevirtual i, 3)) (h : pN y st [] fun as st => pR st fun r st => match shq r with
        | .inr (.inr (c1, _)) => cond (Nat.beq c1 (owM x)) (cal C x (.inr (.inr r) :: as) (SAT p l e R s m args below meth c cells slots QW ad kx D A nL) pc ls st w) False
        | _ => False) : SAT p l e R s m args below meth c cells slots QW ad kx D A nL (pc, ls, st, w) := by
  intro hw hst0 hls hnl H locs lsA hP hD hS hL
  have h9 := pN_ok h
  clear h
  obtain ⟨as, rest0, rfl, h2, h⟩ := h9
  rw [List.append_nil] at h
  have h9 := pR_ok h
  clear h
  obtain ⟨r, rest, rfl, h⟩ := h9
  split at h
  · rename_i c1 fs e1
    cases hb1 : Nat.beq c1 (owM x) with
    | false => rw [hb1] at h; exact h.elim
    | true =>
      rw [hb1] at h
      simp only [cond_true] at h
      have hc1 := nb hb1
      subst hc1
      obtain ⟨s1, s2, -⟩ := sh_obj e1
      obtain ⟨h3, K, h4, h5⟩ := cal_split h
      obtain ⟨g1, g2, g3, g4, g5, g6, g7, g8⟩ := chM_ok (caM_ch hx48 hca)
      have hM := hC x (.inr (.inr r) :: as) w K hca hx48 h4 (fa_cons trivial (fun v hv => hst0 v (List.mem_append_left _ (List.mem_reverse.mpr hv)))) hw H.size
      have hG := goodG hlk hx48 hca
      have cw : CallW R s args (RN own) (RN (owM x)) i (yM x) (bM x) (mlM x) (rM x) (wsM x) rm 0 0 y :=
        ⟨callB_of y hts hG rfl hrc hrs (by rw [g3]; exact hts _ g2) (hts _ hlk) ⟨g4.1, g4.2, by rw [g5, hy]⟩ ⟨hrf, hrl⟩, hts _ (g8 hst).1, by rw [← g3]; exact hts _ (g8 hst).2⟩
      have hr := va_runV (e := e) (below := below) (meth := meth) (As := as.map (cv ad)) (rest := rest.map (cv ad)) (b := ad r) (g := F0 m pc lsA (((as.reverse ++ .inr (.inr r) :: rest).map (cv ad)))) (cells := cells) (slots := slots) (H := H) (locs := locs) ⟨hx, hb, hml, hown, hts⟩ hM cw ⟨pcBlind hF, va_recv hK hP (cls_at s2) (by rw [cW_at s1, cE_obj e1]), fun U hU hW => ⟨rfl, by rw [hU], by rw [hU]; exact hP, va_K.moved hW.alike hK, hD.weaken (fun _ _ _ _ => trivial), by rw [hU]; exact hF.2.2.2 _ _ _ _ (hF.2.2.1 _ s U H hW (hF.1 _ _ _ _ hSF hS.2.1)) (vaA hD hS hA)⟩⟩ rfl (by simp [h2]) hL.1 (by simp; rfl) (lv_room (okr_ok h3)) hdg ⟨hcl, hsl⟩
      exact cal_ok (rm := rm) (as := .inr (.inr r) :: as) hr hA (fun v hv => hst0 v (List.mem_append_right _ (List.mem_cons_of_mem _ hv))) hls hnl hD hS hL h5
  · exact h.elim
end SNC
