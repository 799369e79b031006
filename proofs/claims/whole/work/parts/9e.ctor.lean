/-! making the objects: arrays of arrays, contracts of constructors -/
def va_AOA (ty : FieldType) (U : State) : Prop := (Cond.arrayOver (.array ty)).before #[] U = true
theorem va_AOA.use {ty : FieldType} {A : Array Value} {U : State} (h : va_AOA ty U) : (Cond.arrayOver (.array ty)).before A U = true := h
theorem va_AOA.moved {ty : FieldType} {u U : State} (hvm : u.vm.Alike U.vm) (h : va_AOA ty u) : va_AOA ty U := over_moved (a := #[]) (a' := #[]) hvm h
/-- what a constructor is told of the tables, beyond tblG -/
def NF (s5 : Nat) (U : State) : Prop := va_AOA .int U ∧ (∀ own i y h, Cond.methodLinkNest own i y h ∈ lw_tbl → va_Nw (.methodLinkNest own i y h) U) ∧ ∀ own i tx, Cond.stringRef own i tx ∈ lw_tbl → tx = "hpgdy" → vk_R own i tx s5 U
theorem NF.same {s5 : Nat} {u U : State} (e : U.vm = u.vm) (h : NF s5 u) : NF s5 U := ⟨va_AOA.moved (by rw [e]; exact Vm.Alike.refl _) h.1, fun own i y hh q => va_Nw.same rfl e.symm (h.2.1 own i y hh q), fun own i tx q t => vk_R.same e (h.2.2 own i tx q t)⟩
theorem NF.warm {s5 : Nat} {u U : State} (hW : u.WarmedH U.vm) (h : NF s5 u) : NF s5 U := ⟨va_AOA.moved hW.alike h.1, fun own i y hh q => va_Nw.warmM hW (h.2.1 own i y hh q), fun own i tx q t => vk_R.warm hW (h.2.2 own i tx q t)⟩
noncomputable def chI (k : Nat) : Bool := decide (lw_tbl[poM k]? = some (Cond.code (yM k) (bM k) (mlM k) (rM k))) && (decide (lw_tbl[poI (owM k)]? = some (Cond.initialized (RN (owM k)))) && (decide ((yM k).cls = RN (owM k)) && (decide ((yM k).cls ≠ "java/lang/invoke/MethodHandle" ∧ (yM k).cls ≠ "java/lang/invoke/VarHandle") && (decide ((parseMethodDescriptor (yM k).desc).map (fun d => d.parameters.length) = some 0) && (plainName (yM k).cls && (decide (lw_tbl[poS k]? = some (Cond.instanceMethod (yM k))) && (decide ((yM k).name = "<init>") && decide (rM k = none))))))))
theorem chI_ok {x : Nat} (h : chI x = true) : Cond.code (yM x) (bM x) (mlM x) (rM x) ∈ tblG ∧ Cond.initialized (RN (owM x)) ∈ tblG ∧ (yM x).cls = RN (owM x) ∧ ((yM x).cls ≠ "java/lang/invoke/MethodHandle" ∧ (yM x).cls ≠ "java/lang/invoke/VarHandle") ∧ (parseMethodDescriptor (yM x).desc).map (fun d => d.parameters.length) = some 0 ∧ plainName (yM x).cls = true ∧ Cond.instanceMethod (yM x) ∈ tblG ∧ (yM x).name = "<init>" ∧ rM x = none := by
  unfold chI at h
  simp only [Bool.and_eq_true] at h
  obtain ⟨h1, h2, h3, h4, h5, h6, h7, h8, h9⟩ := h
  exact ⟨tblG_at (of_decide_eq_true h1) rfl, tblG_at (of_decide_eq_true h2) rfl, of_decide_eq_true h3, of_decide_eq_true h4, of_decide_eq_true h5, h6, tblG_at (of_decide_eq_true h7) rfl, of_decide_eq_true h8, of_decide_eq_true h9⟩
section
variable {l : Launch} {kx : Nat → ClassId} {D : va_G} {s5 : Nat}
def PcC (kx : Nat → ClassId) (D : va_G) (s5 a ci sz : Nat) (fs0 : List Value) : Array Value → State → Prop := va_Pc [.ref a] (fun U => U.heap.size = sz ∧ va_P D vwCl [(a, .inr (ci, fs0))] U.heap ∧ va_K D vwCl (tys0 kx) U ∧ va_D (fun _ => True) [(a, .inr (ci, fs0))] ∧ NF s5 U)
def QcC (D : va_G) (a : Nat) (A : Nat → Prop) (shape : Nat → (Nat → Nat → Nat) → va_W) : Array Value → State → Outcome → State → Prop := va_Qv (fun _ : Nat → Nat → Nat => True) (fun q t => va_P D vwCl (shape a q) t.heap ∧ va_D A (shape a q)) A
/-- the contract of a constructor -/
def MCT (l : Launch) (kx : Nat → ClassId) (D : va_G) (s5 k ci : Nat) (rm : Room) (fs0 : List Value) (shape : Nat → (Nat → Nat → Nat) → va_W) : Prop := ∀ a sz : Nat, Met l (yM k) (wsM k) rm (PcC kx D s5 a ci sz fs0) (QcC D a (va_A [(a, .inr (ci, fs0))] sz) shape) rm.cells rm.slots (va_A [(a, .inr (ci, fs0))] sz)
theorem mct_of {k ci : Nat} {rm : Room} {fs0 : List Value} {shape : Nat → (Nat → Nat → Nat) → va_W} (hch : chI k = true) (hle : 1 ≤ mlM k) (h : ∀ (a : Nat) (p : Program) (e : Env) (s : State) (m : MethodId) (args : Array Value) (below : List Frame) (meth : Method) (c : Code) (A : Nat → Prop) (ls : Array Slot), CB p s m args c k kx D A → NF s5 s → meth.name = "<init>" → meth.sig.returnType = none → meth.locks = false → va_P D vwCl [(a, .inr (ci, fs0))] s.heap → va_D A [(a, .inr (ci, fs0))] → lv_has ls (mlM k) [(0, .ref a)] → W p l e rm s m args below meth c s.heap [] 0 0 (MQ below (QcC D a A shape) args s rm.cells rm.slots A) (F0 m 0 ls [])) : MCT l kx D s5 k ci rm fs0 shape := by
  intro a sz
  obtain ⟨g1, g2, g3, g4, g5, g6, g7, g8, g9⟩ := chI_ok hch
  refine Met.ofW (cc := bM k) (maxL := mlM k) (ret := rM k) g6 rfl ?_
  intro p e s m args below meth c s₁ B hml hv
  obtain ⟨rfl, hsz, hP, hK, hD0, hN⟩ := hv
  subst hsz
  have hts0 := atoms_spec (ws := wsM k) B.pre
  have hts : ∀ w ∈ tblG, w.before ([.ref a] : List Value).toArray s = true := fun w hw => hts0 w (List.mem_cons_of_mem _ hw)
  have hown : s.vm.findClass (RN (owM k)) = some m.cls := by rw [← g3]; exact findClass_of_methodNamed B.named
  have hin : meth.name = "<init>" := by rw [← g8]; exact (name_of_methodNamed B.named B.method).1
  have hD := hD0.self (sz := s.heap.size)
  have hl := lv_entry ([.ref a] : List Value) (n := mlM k) hle
  rw [lg_entry_eq]
  generalize (lg_sl ([.ref a] : List Value) ++ List.replicate (mlM k - (lg_sl ([.ref a] : List Value)).length) Slot.unset).toArray = ls at hl ⊢
  exact h a p e s m _ below meth c _ ls ⟨⟨B.exec, B.bytes, hml⟩, hts, hown, hK, fun q h => Or.inr h⟩ hN hin (by rw [← g9]; exact B.returns) B.notSynchronized hP hD hl
variable {p : Program} {e : Env} {R : Room} {s : State} {m : MethodId} {args : Array Value} {below : List Frame} {meth : Method} {c : Code} {cells slots : Nat} {Q : State → Prop} {A : Nat → Prop} {H : Heap} {locs : List Loc} {ls : Array Slot} {pc x : Nat} {rest : List Value}
theorem retC {a : Nat} {shape : Nat → (Nat → Nat → Nat) → va_W} {ws : va_W} {q : Nat → Nat → Nat} {mc ms : Nat} (X : CB p s m args c x kx D A) (hr : meth.sig.returnType = none) (hlocks : meth.locks = false) (hd : decode (bM x) pc = .ok (.return_, 1)) (hP : va_P D vwCl ws H) (hD : va_D A ws) (hS : va_S A s.heap H locs) (hw : ∀ z, z ∈ shape a q → z ∈ ws) (hD2 : va_D A ws → va_D A (shape a q)) (hc1 : cells ≤ mc) (hc2 : slots ≤ ms) : W p l e R s m args below meth c H locs cells slots (MQ below (QcC D a A shape) args s mc ms A) (F0 m pc ls []) := by
  obtain ⟨⟨hx, hb, hml⟩, hts, hown, hK, hA⟩ := X
  refine W.widen (k := mc) (n := ms) hc1 hc2 ?_
  refine W.vret hx hb hr (fun t ht hW => ?_) hS.2.2 hd hlocks
  exact ⟨⟨q, rfl, trivial, by rw [ht]; exact P_mem hP hw, hD2 hD⟩, hS.F ht⟩
theorem pcBlindC {a ci sz : Nat} {fs0 : List Value} : FrameBlind (PcC kx D s5 a ci sz fs0) := fun a U g mk q => by
  obtain ⟨q0, q1, q2, q3, q4, q5⟩ := q
  exact ⟨q0, q1, q2, va_K.moved (u := U) (U := U.calling g mk a) (Vm.Alike.refl U.vm) q3, q4, NF.same (u := U) (U := U.calling g mk a) rfl q5⟩
theorem goodI {k : Nat} (hch : chI k = true) : GoodIn tblG (wsM k) := by
  obtain ⟨g1, -⟩ := chI_ok hch
  intro w hw
  rcases List.mem_cons.mp hw with rfl | hw
  · exact ⟨g1, tblG_good g1⟩
  · exact ⟨hw, tblG_good hw⟩
/-- after a constructor: its world beside the caller's -/
theorem join {ws : va_W} {a ci : Nat} {fs0 : List Value} {w1 : va_W} {H1 : Heap} (hP : va_P D vwCl (ws ++ [(a, .inr (ci, fs0))]) H) (hD : va_D A (ws ++ [(a, .inr (ci, fs0))])) (hk : ∀ q : Nat, q < H.size → ¬ va_A [(a, .inr (ci, fs0))] H.size q → H1[q]? = H[q]?) (hF : ∀ q, va_A [(a, .inr (ci, fs0))] H.size q → A q) (hP1 : va_P D vwCl w1 H1) (hD1 : va_D (va_A [(a, .inr (ci, fs0))] H.size) w1) : va_P D vwCl (ws ++ w1) H1 ∧ va_D A (ws ++ w1) := by
  have hat : ∀ (k : Nat) (q : Nat × va_E), ws[k]? = some q → (ws ++ [(a, .inr (ci, fs0))])[k]? = some q := fun k q h => by
    rw [List.getElem?_append_left (List.getElem?_eq_some_iff.mp h).1]; exact h
  have hlast : (ws ++ [(a, .inr (ci, fs0))])[ws.length]? = some (a, .inr (ci, fs0)) := by simp
  have hap : ∀ (k : Nat) (q : Nat × va_E), ws[k]? = some q → q.1 < H.size ∧ ¬ va_A [(a, .inr (ci, fs0))] H.size q.1 := by
    intro k q hq
    have hl := (hP k q (hat k q hq)).lt
    refine ⟨hl, fun z => ?_⟩
    rcases z with ⟨k2, e2, h2⟩ | h2
    · have h0 : k2 < 1 := (List.getElem?_eq_some_iff.mp h2).1
      rw [show k2 = 0 by omega] at h2
      have h3 : q.1 = a := by simpa using congrArg (fun o => (o.map Prod.fst).getD 0) h2.symm
      have := hD.1 k ws.length q _ (hat k q hq) hlast h3
      have := (List.getElem?_eq_some_iff.mp hq).1
      omega
    · omega
  refine ⟨va_P.app (fun k q hq => ?_) hP1, va_D.app ⟨fun i j p q hi hj e => hD.1 i j p q (hat i p hi) (hat j q hj) e, fun k q hq => hD.2 k q (hat k q hq)⟩ (hD1.weaken (fun k q _ h => hF q.1 h)) (fun i j p q hp hq e => ?_)⟩
  · obtain ⟨g1, g2⟩ := hap k q hq
    exact (hP k q (hat k q hq)).kept (hk q.1 g1 g2)
  · exact (hap i p hp).2 (by rw [e]; exact hD1.2 j q hq)
/-- the end of a call of a constructor, however it is linked -/
theorem ctE {k ci a : Nat} {rm : Room} {fs0 : List Value} {shape : Nat → (Nat → Nat → Nat) → va_W} {ws : va_W} {st0 : List Value} (hr : va_Run p l e R s m args below meth c H locs cells slots rm.cells rm.slots (F0 m pc ls st0) rest (QcC D a (va_A [(a, .inr (ci, fs0))] H.size) shape [Value.ref a].toArray) (va_A [(a, .inr (ci, fs0))] H.size)) (hA : ∀ q, s.heap.size ≤ q → A q) (hP : va_P D vwCl (ws ++ [(a, .inr (ci, fs0))]) H) (hD : va_D A (ws ++ [(a, .inr (ci, fs0))])) (hS : va_S A s.heap H locs) (kk : ∀ (q : Nat → Nat → Nat) (H1 : Heap) (locs1 : List Loc), va_P D vwCl (ws ++ shape a q) H1 → va_D A (ws ++ shape a q) → va_S A s.heap H1 locs1 → W p l e R s m args below meth c H1 locs1 (cells + rm.cells) (slots + rm.slots) Q (F0 m (pc + 3) ls rest)) : W p l e R s m args below meth c H locs cells slots Q (F0 m pc ls st0) := by
  have hlast : (ws ++ [(a, .inr (ci, fs0))])[ws.length]? = some (a, .inr (ci, fs0)) := by simp
  have hFa : ∀ q, va_A [(a, .inr (ci, fs0))] H.size q → A q := by
    intro q h
    rcases h with ⟨k2, e2, h2⟩ | h2
    · have h0 : k2 < 1 := (List.getElem?_eq_some_iff.mp h2).1
      rw [show k2 = 0 by omega] at h2
      have h3 : q = a := by simpa using congrArg (fun o => (o.map Prod.fst).getD 0) h2.symm
      rw [h3]
      exact hD.2 ws.length _ hlast
    · exact hA q (Nat.le_trans hS.1 h2)
  refine va_callv (a := [Value.ref a].toArray) hr hS (fun q _ h => hFa q h) hFa (fun q t H1 locs1 ht hvm hw hB hz hk1 hS1 => ?_)
  obtain ⟨b1, b2⟩ := hB
  rw [ht] at b1
  obtain ⟨j1, j2⟩ := join hP hD hk1 hFa b1 b2
  exact kk q H1 locs1 j1 j2 hS1
theorem ctP {i k ci a : Nat} {rm : Room} {fs0 : List Value} {ws : va_W} (X : CB p s m args c x kx D A) (hN : NF s5 s) (hP : va_P D vwCl (ws ++ [(a, .inr (ci, fs0))]) H) (hD : va_D A (ws ++ [(a, .inr (ci, fs0))])) (hS : va_S A s.heap H locs) : PreS s H (PcC kx D s5 a ci H.size fs0) [.ref a] := by
  obtain ⟨⟨hx, hb, hml⟩, hts, hown, hK, hA⟩ := X
  have hlast : (ws ++ [(a, .inr (ci, fs0))])[ws.length]? = some (a, .inr (ci, fs0)) := by simp
  refine ⟨pcBlindC, fun U hU hW => ⟨rfl, by rw [hU], by rw [hU]; exact P_mem hP (fun z hz => List.mem_append_right _ hz), va_K.moved hW.alike hK, ?_, NF.warm hW hN⟩⟩
  refine ⟨fun i j p q hi hj _ => ?_, fun _ _ _ => trivial⟩
  have h1 : i < 1 := (List.getElem?_eq_some_iff.mp hi).1
  have h2 : j < 1 := (List.getElem?_eq_some_iff.mp hj).1
  omega
/-- a nested class's constructor is called -/
theorem ctN {i k ci a : Nat} {host : String} {rm : Room} {fs0 : List Value} {shape : Nat → (Nat → Nat → Nat) → va_W} {ws : va_W} (X : CB p s m args c x kx D A) (hN : NF s5 s) (hM : MCT l kx D s5 k ci rm fs0 shape) (hch : chI k = true) (hlk : Cond.methodLinkNest (RN (owM x)) i (yM k) host ∈ lw_tbl) (hls : ls.size = mlM x) (hcat : (rest.map fun v => v.category).sum ≤ 8) (hrf : rm.frames + 1 ≤ R.frames) (hrl : 8 + (mlM k + 11) + rm.locals ≤ R.locals) (hrc : cells + rm.cells ≤ R.cells) (hrs : slots + rm.slots ≤ R.slots) (hd : decode (bM x) pc = .ok (.invokespecial i, 3)) (hP : va_P D vwCl (ws ++ [(a, .inr (ci, fs0))]) H) (hD : va_D A (ws ++ [(a, .inr (ci, fs0))])) (hS : va_S A s.heap H locs) (kk : ∀ (q : Nat → Nat → Nat) (H1 : Heap) (locs1 : List Loc), va_P D vwCl (ws ++ shape a q) H1 → va_D A (ws ++ shape a q) → va_S A s.heap H1 locs1 → W p l e R s m args below meth c H1 locs1 (cells + rm.cells) (slots + rm.slots) Q (F0 m (pc + 3) ls rest)) : W p l e R s m args below meth c H locs cells slots Q (F0 m pc ls (.ref a :: rest)) := by
  have hpre := ctP (i := i) (k := k) (rm := rm) X hN hP hD hS
  obtain ⟨⟨hx, hb, hml⟩, hts, hown, hK, hA⟩ := X
  obtain ⟨g1, g2, g3, g4, g5, g6, g7, g8, g9⟩ := chI_ok hch
  have hM2 := hM a H.size
  unfold wsM at hM2
  rw [g9] at hM2
  have hG := goodI hch
  unfold wsM at hG
  rw [g9] at hG
  have cw := va_cnB (R := R) (own := RN (owM x)) (host := host) (index := i) (y := yM k) (bytes := bM k) (maxL := mlM k) (mc := rm.cells) (ms := rm.slots) (ret := none) (rm := rm) 0 hts hG rfl rfl rfl (hN.2.1 _ _ _ _ hlk) (by rw [g3]; exact hts _ g2) ⟨g4.1, g4.2, g5⟩ ⟨hrf, hrl⟩
  have hr := va_runIN (e := e) (below := below) (meth := meth) (As := []) (rest := rest) (b := a) (g := F0 m pc ls (.ref a :: rest)) (cells := cells) (slots := slots) (H := H) (locs := locs) ⟨hx, hb, hml, hown, hts⟩ hM2 ⟨cw, g8, hts _ g7⟩ hpre rfl rfl hls rfl (lv_room hcat) hd ⟨hrc, hrs⟩
  exact ctE (k := k) hr hA hP hD hS kk
/-- an outermost class's constructor is called -/
theorem ctO {i k ci a : Nat} {rm : Room} {fs0 : List Value} {shape : Nat → (Nat → Nat → Nat) → va_W} {ws : va_W} (X : CB p s m args c x kx D A) (hN : NF s5 s) (hM : MCT l kx D s5 k ci rm fs0 shape) (hch : chI k = true) (hlk : Cond.methodLink (RN (owM x)) i (yM k) ∈ tblG) (hls : ls.size = mlM x) (hcat : (rest.map fun v => v.category).sum ≤ 8) (hrf : rm.frames + 1 ≤ R.frames) (hrl : 8 + (mlM k + 11) + rm.locals ≤ R.locals) (hrc : cells + rm.cells ≤ R.cells) (hrs : slots + rm.slots ≤ R.slots) (hd : decode (bM x) pc = .ok (.invokespecial i, 3)) (hP : va_P D vwCl (ws ++ [(a, .inr (ci, fs0))]) H) (hD : va_D A (ws ++ [(a, .inr (ci, fs0))])) (hS : va_S A s.heap H locs) (kk : ∀ (q : Nat → Nat → Nat) (H1 : Heap) (locs1 : List Loc), va_P D vwCl (ws ++ shape a q) H1 → va_D A (ws ++ shape a q) → va_S A s.heap H1 locs1 → W p l e R s m args below meth c H1 locs1 (cells + rm.cells) (slots + rm.slots) Q (F0 m (pc + 3) ls rest)) : W p l e R s m args below meth c H locs cells slots Q (F0 m pc ls (.ref a :: rest)) := by
  have hpre := ctP (i := i) (k := k) (rm := rm) X hN hP hD hS
  obtain ⟨⟨hx, hb, hml⟩, hts, hown, hK, hA⟩ := X
  obtain ⟨g1, g2, g3, g4, g5, g6, g7, g8, g9⟩ := chI_ok hch
  have hM2 := hM a H.size
  unfold wsM at hM2
  rw [g9] at hM2
  have hG := goodI hch
  unfold wsM at hG
  rw [g9] at hG
  have cw := callB_of (R := R) (own := RN (owM x)) (index := i) (y := yM k) (bytes := bM k) (maxL := mlM k) (mc := rm.cells) (ms := rm.slots) (ret := none) (rm := rm) 0 hts hG rfl rfl rfl (by rw [g3]; exact hts _ g2) (hts _ hlk) ⟨g4.1, g4.2, g5⟩ ⟨hrf, hrl⟩
  have hr := va_runI (e := e) (below := below) (meth := meth) (As := []) (rest := rest) (b := a) (g := F0 m pc ls (.ref a :: rest)) (cells := cells) (slots := slots) (H := H) (locs := locs) ⟨hx, hb, hml, hown, hts⟩ hM2 ⟨cw, g8, hts _ g7⟩ hpre rfl rfl hls rfl (lv_room hcat) hd ⟨hrc, hrs⟩
  exact ctE (k := k) hr hA hP hD hS kk
end
