/-! the text constants: what is said of them; their methods' contracts -/
def rz (d : Nat) : Room := { frames := d, cells := 0, slots := 0, locals := 64 * d }
def lS (i : Nat) : Nat := if i = 0 then 5 else 4
def SFX (ad : Nat → Nat) (kx : Nat → ClassId) (D : va_G) : SFT := fun A U H =>
  (∀ i, i < 2 → va_O "java/lang/String" (ad (1000 + i)) A U H ∧ va_OF "java/lang/String" "coder" "B" (.int 0) (ad (1000 + i)) A U H ∧ va_OF "java/lang/String" "value" "[B" (.ref (ad (1002 + i))) (ad (1000 + i)) A U H ∧ va_T .byte (ad (1002 + i)) (lS i) (fun j => .int (Int32.ofInt (chA (1000 + i) (j : Int)))) A U H) ∧
  va_Z "java/lang/String" "COMPACT_STRINGS" "Z" (.int 1) A U H ∧
  va_Zq "jdk/internal/util/Preconditions" "SIOOBE_FORMATTER" "Ljava/util/function/BiFunction;" A U H ∧
  (∀ own i tx, Cond.stringRef own i tx ∈ lw_tbl → (tx = "hpgdy" → vk_R own i tx (ad 1000) U) ∧ (tx = "abcd" → vk_R own i tx (ad 1001) U)) ∧ va_K D vwCl (tys0 kx) U
theorem SFX_ok (ad : Nat → Nat) (kx : Nat → ClassId) (D : va_G) : SFok (SFX ad kx D) := by
  refine ⟨?_, ?_, ?_, ?_⟩
  · rintro A U H H1 ⟨h1, h2, h3, h4, h5⟩ hq
    exact ⟨fun i hi => ⟨(h1 i hi).1.kept hq, (h1 i hi).2.1.kept hq, (h1 i hi).2.2.1.kept hq, (h1 i hi).2.2.2.kept hq⟩, h2.kept hq, h3.kept hq, h4, h5⟩
  · rintro A u U H e ⟨h1, h2, h3, h4, h5⟩
    have hv : u.vm.Alike U.vm := by rw [e]; exact Vm.Alike.refl _
    exact ⟨fun i hi => ⟨va_O.moved hv (h1 i hi).1, va_OF.moved hv (h1 i hi).2.1, va_OF.moved hv (h1 i hi).2.2.1, va_T.moved hv (h1 i hi).2.2.2⟩, va_Z.moved hv h2, va_Zq.moved hv h3, fun own i tx h => ⟨fun q => vk_R.same e ((h4 own i tx h).1 q), fun q => vk_R.same e ((h4 own i tx h).2 q)⟩, va_K.moved hv h5⟩
  · rintro A u U H hW ⟨h1, h2, h3, h4, h5⟩
    have hv := hW.alike
    exact ⟨fun i hi => ⟨va_O.moved hv (h1 i hi).1, va_OF.moved hv (h1 i hi).2.1, va_OF.moved hv (h1 i hi).2.2.1, va_T.moved hv (h1 i hi).2.2.2⟩, va_Z.moved hv h2, va_Zq.moved hv h3, fun own i tx h => ⟨fun q => vk_R.warm hW ((h4 own i tx h).1 q), fun q => vk_R.warm hW ((h4 own i tx h).2 q)⟩, va_K.moved hv h5⟩
  · rintro A B U H ⟨h1, h2, h3, h4, h5⟩ hAB
    exact ⟨fun i hi => ⟨(h1 i hi).1.narrow hAB, (h1 i hi).2.1.narrow hAB, (h1 i hi).2.2.1.narrow hAB, (h1 i hi).2.2.2.narrow hAB⟩, h2.narrow hAB, h3.narrow hAB, h4, h5⟩
theorem tblG_of {w : Jvm.Cond} (h : w ∈ lw_tbl) (hg : goodWord w = true) : w ∈ tblG := List.mem_filter.mpr ⟨h, hg⟩
def MOR (SF : SFT) (l : Launch) (ad : Nat → Nat) (kx : Nat → ClassId) (D : va_G) (rm : Room) (x : Nat) (av : List Value) (w : Wd) (K : Option AV → Wd → Prop) : Prop := ∀ sz : Nat, Met l (yM x) (wsM x) rm (va_Pc av (fun U => U.heap.size = sz ∧ va_P D vwCl (cW ad kx w) U.heap ∧ va_K D vwCl (tys0 kx) U ∧ va_D (fun _ => True) (cW ad kx w) ∧ SF (va_A (cW ad kx w) sz) U U.heap)) (Qx ad kx D (va_A (cW ad kx w) sz) K (rM x)) 0 0 (va_A (cW ad kx w) sz)
section
variable {SF : SFT} {l : Launch} {ad : Nat → Nat} {kx : Nat → ClassId} {D : va_G} {w : Wd}
theorem pcBlindR (hF : SFok SF) {av : List Value} {sz : Nat} : FrameBlind (va_Pc av (fun U => U.heap.size = sz ∧ va_P D vwCl (cW ad kx w) U.heap ∧ va_K D vwCl (tys0 kx) U ∧ va_D (fun _ => True) (cW ad kx w) ∧ SF (va_A (cW ad kx w) sz) U U.heap)) := fun a U g mk q => by
  obtain ⟨q0, q1, q2, q3, q4, q5⟩ := q
  exact ⟨q0, q1, q2, va_K.moved (u := U) (U := U.calling g mk a) (Vm.Alike.refl U.vm) q3, q4, hF.2.1 _ U (U.calling g mk a) U.heap rfl q5⟩
/-- what holds in a method's body -/
def CZ (p : Program) (s : State) (m : MethodId) (args : Array Value) (meth : Method) (c : Code) (x : Nat) (SF : SFT) (kx : Nat → ClassId) (D : va_G) (A : Nat → Prop) (w : Wd) : Prop :=
  (p.tables.exec = Jvm.exec ∧ c.code = bM x ∧ c.maxLocals = mlM x ∧ meth.sig.returnType = rM x ∧ meth.locks = false) ∧ (∀ w ∈ tblG, w.before args s = true) ∧ s.vm.findClass (RN (owM x)) = some m.cls ∧ va_K D vwCl (tys0 kx) s ∧ (∀ q, s.heap.size ≤ q → A q) ∧ SFok SF ∧ SF A s s.heap ∧ wfW w
theorem mor_of {d x : Nat} {av : List Value} {K : Option AV → Wd → Prop} (hF : SFok SF) (hwf : wfW w) (hx48 : x < 248) (hch : chM x = true) (hle : (lg_sl av).length ≤ mlM x) (h : ∀ (p : Program) (e : Env) (s : State) (m : MethodId) (args : Array Value) (below : List Frame) (meth : Method) (c : Code) (A : Nat → Prop) (ls : Array Slot), CZ p s m args meth c x SF kx D A w → va_P D vwCl (cW ad kx w) s.heap → va_D A (cW ad kx w) → lv_has ls (mlM x) (lv_args 0 av) → W p l e (rz d) s m args below meth c s.heap [] 0 0 (MQ below (Qx ad kx D A K (rM x)) args s 0 0 A) (F0 m 0 ls [])) : MOR SF l ad kx D (rz d) x av w K := by
  intro sz
  obtain ⟨g1, g2, g3, g4, g5, g6, g7, g8⟩ := chM_ok hch
  refine Met.ofW (cc := bM x) (maxL := mlM x) (ret := rM x) g6 rfl ?_
  intro p e s m args below meth c s₁ B hml hv
  obtain ⟨rfl, hsz, hP, hK, hD0, hSF⟩ := hv
  subst hsz
  have hts0 := atoms_spec (ws := wsM x) B.pre
  have hts : ∀ w ∈ tblG, w.before av.toArray s = true := fun w hw => hts0 w (List.mem_cons_of_mem _ hw)
  have hown : s.vm.findClass (RN (owM x)) = some m.cls := by rw [← g3]; exact findClass_of_methodNamed B.named
  have hD := hD0.self (sz := s.heap.size)
  have hl := lv_entry av (n := mlM x) hle
  rw [lg_entry_eq]
  generalize (lg_sl av ++ List.replicate (mlM x - (lg_sl av).length) Slot.unset).toArray = ls at hl ⊢
  exact h p e s m _ below meth c _ ls ⟨⟨B.exec, B.bytes, hml, B.returns, B.notSynchronized⟩, hts, hown, hK, fun q h => Or.inr h, hF, hSF, hwf⟩ hP hD hl
variable {p : Program} {e : Env} {R : Room} {s : State} {m : MethodId} {args : Array Value} {below : List Frame} {meth : Method} {c : Code} {cells slots : Nat} {QW : State → Prop} {A : Nat → Prop} {nL : Nat} {H : Heap} {locs : List Loc} {ls : Array Slot} {pc x : Nat} {K : Option AV → Wd → Prop}
theorem retI (X : CZ p s m args meth c x SF kx D A w) {ty : FieldType} {v : Int32} (hty : rM x = some ty) (hn : narrow ty (.int v) = .int v) (hd : decode (bM x) pc = .ok (.ireturn, 1)) (hK : K (some (.inl v.toInt)) w) (hP : va_P D vwCl (cW ad kx w) H) (hD : va_D A (cW ad kx w)) (hS : va_S A s.heap H locs) : W p l e R s m args below meth c H locs 0 0 (MQ below (Qx ad kx D A K (rM x)) args s 0 0 A) (F0 m pc ls [.int v]) := by
  obtain ⟨⟨hx, hb, hml, hr, hlocks⟩, hts, hown, hKK, hA, hF, hSF, hw⟩ := X
  rw [hty] at hr ⊢
  refine W.zret hx hb hr hn (fun t ht hW => ?_) hS.2.2 hd hlocks
  exact ⟨⟨v, w, rfl, ⟨hK, hw⟩, by rw [ht]; exact hP, va_K.moved hW.alike hKK, hD⟩, hS.F ht⟩
theorem retV (X : CZ p s m args meth c x SF kx D A w) (hty : rM x = none) (hd : decode (bM x) pc = .ok (.return_, 1)) (hK : K none w) (hP : va_P D vwCl (cW ad kx w) H) (hD : va_D A (cW ad kx w)) (hS : va_S A s.heap H locs) : W p l e R s m args below meth c H locs 0 0 (MQ below (Qx ad kx D A K (rM x)) args s 0 0 A) (F0 m pc ls []) := by
  obtain ⟨⟨hx, hb, hml, hr, hlocks⟩, hts, hown, hKK, hA, hF, hSF, hw⟩ := X
  rw [hty] at hr ⊢
  refine W.vret hx hb hr (fun t ht hW => ?_) hS.2.2 hd hlocks
  exact ⟨⟨w, rfl, ⟨hK, hw⟩, by rw [ht]; exact hP, va_K.moved hW.alike hKK, hD⟩, hS.F ht⟩
theorem goodC {k : Nat} (hch : chM k = true) : GoodIn tblG (wsM k) := by
  obtain ⟨g1, -⟩ := chM_ok hch
  intro w hw
  rcases List.mem_cons.mp hw with rfl | hw
  · exact ⟨g1, tblG_good g1⟩
  · exact ⟨hw, tblG_good hw⟩
/-- a call that gives z and leaves the world -/
theorem callV_r {own i k d : Nat} {av rest : List Value} {b : Nat} {z : Int32} {ty : FieldType} {cc : ByteArray} (hF : SFok SF) (hSF : SF A s s.heap) (hM : MOR SF l ad kx D (rz d) k (.ref b :: av) w (fun v w' => v = some (.inl z.toInt) ∧ w' = w)) (hk : rM k = some ty) (hch : chM k = true) (hst : stM k = false) (hnp : av.length = npM k) (hrf : d + 1 ≤ R.frames) (hrl : 8 + (mlM k + 11) + 64 * d ≤ R.locals) (hcl : cells ≤ R.cells) (hsl : slots ≤ R.slots) (hK : va_K D vwCl (tys0 kx) s) (hA : ∀ q, s.heap.size ≤ q → A q) (hml : c.maxLocals = nL) (hts : ∀ w ∈ tblG, w.before args s = true) (hown : s.vm.findClass (RN own) = some m.cls) (hlk : Cond.methodLink (RN own) i (yM k) ∈ tblG) (hx : p.tables.exec = Jvm.exec) (hb : c.code = cc) (hdg : decode cc pc = .ok (.invokevirtual i, 3)) (hls : ls.size = nL) (hcat : (rest.map fun v => v.category).sum ≤ 8) (hrecv : ∃ cell : Cell, H[b]? = some cell ∧ cell.vm.isStatics = false ∧ s.vm.findClass (RN (owM k)) = some cell.cls) (hP : va_P D vwCl (cW ad kx w) H) (hD : va_D A (cW ad kx w)) (hS : va_S A s.heap H locs) (kk : ∀ (H1 : Heap) (locs1 : List Loc), va_P D vwCl (cW ad kx w) H1 → va_S A s.heap H1 locs1 → W p l e R s m args below meth c H1 locs1 cells slots QW (F0 m (pc + 3) ls (.int z :: rest))) : W p l e R s m args below meth c H locs cells slots QW (F0 m pc ls (av.reverse ++ .ref b :: rest)) := by
  obtain ⟨g1, g2, g3, g4, g5, g6, g7, g8⟩ := chM_ok hch
  have hG := goodC hch
  have cw : CallW R s args (RN own) (RN (owM k)) i (yM k) (bM k) (mlM k) (rM k) (wsM k) (rz d) 0 0 av.length :=
    ⟨callB_of av.length hts hG rfl rfl rfl (by rw [g3]; exact hts _ g2) (hts _ hlk) ⟨g4.1, g4.2, by rw [g5, hnp]⟩ ⟨hrf, hrl⟩, hts _ (g8 hst).1, by rw [← g3]; exact hts _ (g8 hst).2⟩
  have hr := va_runV (e := e) (below := below) (meth := meth) (As := av) (rest := rest) (b := b) (g := F0 m pc ls (av.reverse ++ .ref b :: rest)) (cells := cells) (slots := slots) (H := H) (locs := locs) ⟨hx, hb, hml, hown, hts⟩ (hM H.size) cw ⟨pcBlindR hF, hrecv, fun U hU hW => ⟨rfl, by rw [hU], by rw [hU]; exact hP, va_K.moved hW.alike hK, hD.weaken (fun _ _ _ _ => trivial), by rw [hU]; exact hF.2.2.2 _ _ _ _ (hF.2.2.1 _ s U H hW (hF.1 _ _ _ _ hSF hS.2.1)) (vaA hD hS hA)⟩⟩ rfl rfl hls rfl (lv_room hcat) hdg ⟨hcl, hsl⟩
  have hFa := vaA hD hS hA
  rw [hk] at hr
  refine va_calli (a := (Value.ref b :: av).toArray) hr hS (fun q _ h => hFa q h) hFa (fun r w1 t H1 locs1 ht hvm hw hB hz hk1 hS1 => ?_)
  obtain ⟨⟨h1, h2⟩, -⟩ := hw
  subst h2
  have h3 : r.toInt = z.toInt := by injection h1 with h1; injection h1
  rw [Int32.toInt_inj.mp h3]
  exact kk H1 locs1 (by rw [← ht]; exact hB.1) hS1
theorem callS_r {own i k d : Nat} {av rest : List Value} {z : Int32} {ty : FieldType} {cc : ByteArray} (hF : SFok SF) (hSF : SF A s s.heap) (hM : MOR SF l ad kx D (rz d) k av w (fun v w' => v = some (.inl z.toInt) ∧ w' = w)) (hk : rM k = some ty) (hch : chM k = true) (hst : stM k = true) (hnp : av.length = npM k) (hrf : d + 1 ≤ R.frames) (hrl : 8 + (mlM k + 11) + 64 * d ≤ R.locals) (hcl : cells ≤ R.cells) (hsl : slots ≤ R.slots) (hK : va_K D vwCl (tys0 kx) s) (hA : ∀ q, s.heap.size ≤ q → A q) (hml : c.maxLocals = nL) (hts : ∀ w ∈ tblG, w.before args s = true) (hown : s.vm.findClass (RN own) = some m.cls) (hlk : Cond.methodLink (RN own) i (yM k) ∈ tblG) (hx : p.tables.exec = Jvm.exec) (hb : c.code = cc) (hdg : decode cc pc = .ok (.invokestatic i, 3)) (hls : ls.size = nL) (hcat : (rest.map fun v => v.category).sum ≤ 8) (hP : va_P D vwCl (cW ad kx w) H) (hD : va_D A (cW ad kx w)) (hS : va_S A s.heap H locs) (kk : ∀ (H1 : Heap) (locs1 : List Loc), va_P D vwCl (cW ad kx w) H1 → va_S A s.heap H1 locs1 → W p l e R s m args below meth c H1 locs1 cells slots QW (F0 m (pc + 3) ls (.int z :: rest))) : W p l e R s m args below meth c H locs cells slots QW (F0 m pc ls (av.reverse ++ rest)) := by
  obtain ⟨g1, g2, g3, g4, g5, g6, g7, g8⟩ := chM_ok hch
  have hG := goodC hch
  have cw : CallB R s args (RN own) i (yM k) (bM k) (mlM k) (rM k) (wsM k) (rz d) 0 0 av.length ∧ (Cond.static (yM k)).before args s = true :=
    ⟨callB_of av.length hts hG rfl rfl rfl (by rw [g3]; exact hts _ g2) (hts _ hlk) ⟨g4.1, g4.2, by rw [g5, hnp]⟩ ⟨hrf, hrl⟩, hts _ (g7 hst)⟩
  have hr := va_runS (e := e) (below := below) (meth := meth) (As := av) (rest := rest) (g := F0 m pc ls (av.reverse ++ rest)) (cells := cells) (slots := slots) (H := H) (locs := locs) ⟨hx, hb, hml, hown, hts⟩ (hM H.size) cw ⟨pcBlindR hF, fun U hU hW => ⟨rfl, by rw [hU], by rw [hU]; exact hP, va_K.moved hW.alike hK, hD.weaken (fun _ _ _ _ => trivial), by rw [hU]; exact hF.2.2.2 _ _ _ _ (hF.2.2.1 _ s U H hW (hF.1 _ _ _ _ hSF hS.2.1)) (vaA hD hS hA)⟩⟩ rfl rfl hls rfl (lv_room hcat) hdg ⟨hcl, hsl⟩
  have hFa := vaA hD hS hA
  rw [hk] at hr
  refine va_calli (a := av.toArray) hr hS (fun q _ h => hFa q h) hFa (fun r w1 t H1 locs1 ht hvm hw hB hz hk1 hS1 => ?_)
  obtain ⟨⟨h1, h2⟩, -⟩ := hw
  subst h2
  have h3 : r.toInt = z.toInt := by injection h1 with h1; injection h1
  rw [Int32.toInt_inj.mp h3]
  exact kk H1 locs1 (by rw [← ht]; exact hB.1) hS1
theorem callS_v {own i k d : Nat} {av rest : List Value} {cc : ByteArray} (hF : SFok SF) (hSF : SF A s s.heap) (hM : MOR SF l ad kx D (rz d) k av w (fun v w' => v = none ∧ w' = w)) (hk : rM k = none) (hch : chM k = true) (hst : stM k = true) (hnp : av.length = npM k) (hrf : d + 1 ≤ R.frames) (hrl : 8 + (mlM k + 11) + 64 * d ≤ R.locals) (hcl : cells ≤ R.cells) (hsl : slots ≤ R.slots) (hK : va_K D vwCl (tys0 kx) s) (hA : ∀ q, s.heap.size ≤ q → A q) (hml : c.maxLocals = nL) (hts : ∀ w ∈ tblG, w.before args s = true) (hown : s.vm.findClass (RN own) = some m.cls) (hlk : Cond.methodLink (RN own) i (yM k) ∈ tblG) (hx : p.tables.exec = Jvm.exec) (hb : c.code = cc) (hdg : decode cc pc = .ok (.invokestatic i, 3)) (hls : ls.size = nL) (hcat : (rest.map fun v => v.category).sum ≤ 8) (hP : va_P D vwCl (cW ad kx w) H) (hD : va_D A (cW ad kx w)) (hS : va_S A s.heap H locs) (kk : ∀ (H1 : Heap) (locs1 : List Loc), va_P D vwCl (cW ad kx w) H1 → va_S A s.heap H1 locs1 → W p l e R s m args below meth c H1 locs1 cells slots QW (F0 m (pc + 3) ls rest)) : W p l e R s m args below meth c H locs cells slots QW (F0 m pc ls (av.reverse ++ rest)) := by
  obtain ⟨g1, g2, g3, g4, g5, g6, g7, g8⟩ := chM_ok hch
  have hG := goodC hch
  have cw : CallB R s args (RN own) i (yM k) (bM k) (mlM k) (rM k) (wsM k) (rz d) 0 0 av.length ∧ (Cond.static (yM k)).before args s = true :=
    ⟨callB_of av.length hts hG rfl rfl rfl (by rw [g3]; exact hts _ g2) (hts _ hlk) ⟨g4.1, g4.2, by rw [g5, hnp]⟩ ⟨hrf, hrl⟩, hts _ (g7 hst)⟩
  have hr := va_runS (e := e) (below := below) (meth := meth) (As := av) (rest := rest) (g := F0 m pc ls (av.reverse ++ rest)) (cells := cells) (slots := slots) (H := H) (locs := locs) ⟨hx, hb, hml, hown, hts⟩ (hM H.size) cw ⟨pcBlindR hF, fun U hU hW => ⟨rfl, by rw [hU], by rw [hU]; exact hP, va_K.moved hW.alike hK, hD.weaken (fun _ _ _ _ => trivial), by rw [hU]; exact hF.2.2.2 _ _ _ _ (hF.2.2.1 _ s U H hW (hF.1 _ _ _ _ hSF hS.2.1)) (vaA hD hS hA)⟩⟩ rfl rfl hls rfl (lv_room hcat) hdg ⟨hcl, hsl⟩
  have hFa := vaA hD hS hA
  rw [hk] at hr
  refine va_callv (a := av.toArray) hr hS (fun q _ h => hFa q h) hFa (fun w1 t H1 locs1 ht hvm hw hB hz hk1 hS1 => ?_)
  obtain ⟨⟨-, h2⟩, -⟩ := hw
  subst h2
  exact kk H1 locs1 (by rw [← ht]; exact hB.1) hS1
theorem sz_alen {t N : Nat} {f : Nat → Value} {rest : List Value} {cc : ByteArray} (hx : p.tables.exec = Jvm.exec) (hb : c.code = cc) (hT : va_T .byte t N f A s s.heap) (hS : va_S A s.heap H locs) (hdg : decode cc pc = .ok (.arraylength, 1)) (kk : W p l e R s m args below meth c H locs cells slots QW (F0 m (pc + 1) ls (.int (Int32.ofNat N) :: rest))) : W p l e R s m args below meth c H locs cells slots QW (F0 m pc ls (.ref t :: rest)) := by
  obtain ⟨cell, h1, h2, h3, h4, h5, h6, h7⟩ := hT
  exact W.alen (n := Int32.ofNat N) hx hb (by rw [hS.2.1 t (Array.getElem?_eq_some_iff.mp h1).1 h7]; exact h1) h2 h5 rfl rfl hdg kk
theorem sz_bald {t N : Nat} {f : Nat → Value} {rest : List Value} {j : Int32} {cc : ByteArray} (hx : p.tables.exec = Jvm.exec) (hb : c.code = cc) (hT : va_T .byte t N f A s s.heap) (hS : va_S A s.heap H locs) (hj : ¬ (j < 0 ∨ N ≤ j.toNatClampNeg)) (hdg : decode cc pc = .ok (.baload, 1)) (kk : W p l e R s m args below meth c H locs cells slots QW (F0 m (pc + 1) ls (f j.toNatClampNeg :: rest))) : W p l e R s m args below meth c H locs cells slots QW (F0 m pc ls (.int j :: .ref t :: rest)) := by
  obtain ⟨cell, h1, h2, h3, h4, h5, h6, h7⟩ := hT
  have hlt : j.toNatClampNeg < N := Nat.not_le.mp fun q => hj (Or.inr q)
  exact W.bald (v := f j.toNatClampNeg) hx hb (by rw [hS.2.1 t (Array.getElem?_eq_some_iff.mp h1).1 h7]; exact h1) h2 h3 (fun q => hj (q.imp id (fun z => Nat.le_trans h4 z))) (h6 _ hlt) rfl rfl hdg kk
end
