/-! one instruction: what holds of the states behind it holds of the state ahead of it -/
theorem lv_mono {ls : Array Slot} {n : Nat} {l l' : List (Nat × Value)} (h : lv_has ls n l) (hs : ∀ q ∈ l', q ∈ l) : lv_has ls n l' := ⟨h.1, h.2.1, fun q hq => h.2.2 q (hs q hq)⟩
theorem cv_cat1 {ad : Nat → Nat} {x : AV} (h : ∀ z, x ≠ .inr (.inl z)) : (cv ad x).category = 1 := by
  match x with
  | .inl _ => rfl
  | .inr (.inl z) => exact absurd rfl (h z)
  | .inr (.inr _) => rfl
theorem prs_set {ad : Nat → Nat} {ls : AL} {i : Nat} {v : AV} (hn : noL ls i = true) : ∀ q ∈ prs ad (ls.set i (some v)) 0, q ∈ (i, cv ad v) :: (prs ad ls 0).filter (fun q => !(q.1 == i) && !(q.1 + 1 == i && q.2.category == 2)) := by
  intro q hq
  obtain ⟨j, u, h, rfl⟩ := mem_prs.mp hq
  rw [Nat.zero_add]
  by_cases e : j = i
  · subst e
    rw [List.getElem?_set] at h
    simp only [if_true] at h
    split at h
    · simp only [Option.some.injEq] at h
      subst h
      exact List.mem_cons_self
    · cases h
  · rw [List.getElem?_set_ne (Ne.symm e)] at h
    refine List.mem_cons_of_mem _ (List.mem_filter.mpr ⟨mem_prs.mpr ⟨j, u, h, by rw [Nat.zero_add]⟩, ?_⟩)
    have hc : j + 1 = i → (cv ad u).category = 1 := by
      intro hj
      subst hj
      refine cv_cat1 fun z hz => ?_
      subst hz
      simp [noL, h] at hn
    by_cases h2 : j + 1 = i
    · simp [e, hc h2]
    · simp [e, h2]
theorem lsOK_set {ls : AL} {i nL : Nat} {v : AV} (hl : ls.length = nL) (h : ∀ (j : Nat) (v : AV), ls[j]? = some (some v) → okA v) (hv : okA v) : (ls.set i (some v)).length = nL ∧ ∀ (j : Nat) (u : AV), (ls.set i (some v))[j]? = some (some u) → okA u := by
  refine ⟨by simp [hl], fun j u hj => ?_⟩
  by_cases e : j = i
  · subst e
    rw [List.getElem?_set] at hj
    simp only [if_true] at hj
    split at hj
    · simp only [Option.some.injEq] at hj
      subst hj
      exact hv
    · cases hj
  · rw [List.getElem?_set_ne (Ne.symm e)] at hj
    exact h j u hj
theorem fa_cons {v : AV} {st : List AV} (hv : okA v) (h : ∀ u ∈ st, okA u) : ∀ u ∈ v :: st, okA u := fun u hu => (List.mem_cons.mp hu).elim (fun e => e ▸ hv) (h u)
theorem fa_tail {v : AV} {st : List AV} (h : ∀ u ∈ v :: st, okA u) : ∀ u ∈ st, okA u := fun u hu => h u (List.mem_cons_of_mem _ hu)
theorem fa_head {v : AV} {st : List AV} (h : ∀ u ∈ v :: st, okA u) : okA v := h v List.mem_cons_self
def tys0 (kx : Nat → ClassId) : List (ClassId × FieldType) := [(kx 0, .int), (kx 1, .boolean), (kx 2, .array .int)]
/-- what an abstract state stands for: every machine state that it pictures comes to QW -/
def SAT (p : Program) (l : Launch) (e : Env) (R : Room) (s : State) (m : MethodId) (args : Array Value) (below : List Frame) (meth : Method) (c : Code) (cells slots : Nat) (QW : State → Prop) (ad : Nat → Nat) (kx : Nat → ClassId) (D : va_G) (A : Nat → Prop) (nL : Nat) : AS → Prop
  | (pc, ls, st, w) => wfW w → (∀ v ∈ st, okA v) → (∀ (j : Nat) (v : AV), ls[j]? = some (some v) → okA v) → ls.length = nL → ∀ (H : Heap) (locs : List Loc) (lsA : Array Slot), va_P D vwCl (cW ad kx w) H → va_D A (cW ad kx w) → va_S A s.heap H locs → lv_has lsA nL (prs ad ls 0) → W p l e R s m args below meth c H locs cells slots QW (F0 m pc lsA (st.map (cv ad)))
theorem pI_ok {st : List AV} {k : Int → List AV → Prop} (h : pI st k) : ∃ x st', st = .inl x :: st' ∧ k x st' := by
  match st, h with
  | .inl x :: st', h => exact ⟨x, st', rfl, h⟩
  | .inr (.inl _) :: _, h => exact h.elim
  | .inr (.inr _) :: _, h => exact h.elim
  | [], h => exact h.elim
theorem pL_ok {st : List AV} {k : Int → List AV → Prop} (h : pL st k) : ∃ x st', st = .inr (.inl x) :: st' ∧ k x st' := by
  match st, h with
  | .inr (.inl x) :: st', h => exact ⟨x, st', rfl, h⟩
  | .inl _ :: _, h => exact h.elim
  | .inr (.inr _) :: _, h => exact h.elim
  | [], h => exact h.elim
theorem pR_ok {st : List AV} {k : Nat → List AV → Prop} (h : pR st k) : ∃ x st', st = .inr (.inr x) :: st' ∧ k x st' := by
  match st, h with
  | .inr (.inr x) :: st', h => exact ⟨x, st', rfl, h⟩
  | .inl _ :: _, h => exact h.elim
  | .inr (.inl _) :: _, h => exact h.elim
  | [], h => exact h.elim
theorem pV_ok {st : List AV} {k : AV → List AV → Prop} (h : pV st k) : ∃ x st', st = x :: st' ∧ (∀ z, x ≠ .inr (.inl z)) ∧ k x st' := by
  match st, h with
  | .inl x :: st', h => exact ⟨_, st', rfl, (fun z q => by cases q), h⟩
  | .inr (.inr x) :: st', h => exact ⟨_, st', rfl, (fun z q => by cases q), h⟩
  | .inr (.inl _) :: _, h => exact h.elim
  | [], h => exact h.elim
theorem gI_ok {ls : AL} {i : Nat} {k : Int → Prop} (h : gI ls i k) : ∃ x, ls[i]? = some (some (.inl x)) ∧ k x := by
  unfold gI at h
  split at h
  · exact ⟨_, by assumption, h⟩
  · exact h.elim
theorem gL_ok {ls : AL} {i : Nat} {k : Int → Prop} (h : gL ls i k) : ∃ x, ls[i]? = some (some (.inr (.inl x))) ∧ k x := by
  unfold gL at h
  split at h
  · exact ⟨_, by assumption, h⟩
  · exact h.elim
theorem gR_ok {ls : AL} {i : Nat} {k : Nat → Prop} (h : gR ls i k) : ∃ x, ls[i]? = some (some (.inr (.inr x))) ∧ k x := by
  unfold gR at h
  split at h
  · exact ⟨_, by assumption, h⟩
  · exact h.elim
theorem sL_ok {ls : AL} {i : Nat} {v : AV} {k : AL → Prop} (h : sL ls i v k) : i < ls.length ∧ noL ls i = true ∧ k (ls.set i (some v)) := by
  unfold sL at h
  split at h
  · rename_i e
    rw [Bool.and_eq_true] at e
    exact ⟨Nat.lt_of_lt_of_le (Nat.lt_succ_self i) (Nat.le_of_ble_eq_true e.1), e.2, h⟩
  · exact h.elim
theorem ls_mem {ad : Nat → Nat} {lsA : Array Slot} {nL i : Nat} {ls : AL} {v : AV} (h : lv_has lsA nL (prs ad ls 0)) (hi : ls[i]? = some (some v)) : lsA[i]? = some (.val (cv ad v)) := h.2.2 (i, cv ad v) (mem_prs.mpr ⟨i, v, hi, by rw [Nat.zero_add]⟩)
section SN
variable {p : Program} {l : Launch} {e : Env} {R : Room} {s : State} {m : MethodId} {args : Array Value} {below : List Frame} {meth : Method} {c : Code} {cells slots : Nat} {QW : State → Prop} {ad : Nat → Nat} {kx : Nat → ClassId} {D : va_G} {A : Nat → Prop} {nL : Nat} {cc : ByteArray} {pc : Nat} {ls : AL} {st : List AV} {w : Wd}
theorem sn_iconst (hx : p.tables.exec = Jvm.exec) (hb : c.code = cc) {n : Int} (h1 : -1 ≤ n) (h2 : n ≤ 5) (hdg : decode cc pc = .ok (.iconst n, 1)) (h : SAT p l e R s m args below meth c cells slots QW ad kx D A nL (pc + 1, ls, .inl n :: st, w)) : SAT p l e R s m args below meth c cells slots QW ad kx D A nL (pc, ls, st, w) := by
  intro hw hst hls hnl H locs lsA hP hD hS hL
  refine lv_iconst (v := Int32.ofInt n) hx hb hdg rfl ?_
  exact h hw (fa_cons (by unfold okA in32; omega) hst) hls hnl H locs lsA hP hD hS hL
theorem sn_bipush (hx : p.tables.exec = Jvm.exec) (hb : c.code = cc) {n : Int} (h0 : (Int8.ofInt n).toInt32 = Int32.ofInt n) (h1 : -128 ≤ n) (h2 : n < 128) (hdg : decode cc pc = .ok (.bipush n, 2)) (h : SAT p l e R s m args below meth c cells slots QW ad kx D A nL (pc + 2, ls, .inl n :: st, w)) : SAT p l e R s m args below meth c cells slots QW ad kx D A nL (pc, ls, st, w) := by
  intro hw hst hls hnl H locs lsA hP hD hS hL
  refine lv_bipush (v := Int32.ofInt n) hx hb hdg h0 ?_
  exact h hw (fa_cons (by unfold okA in32; omega) hst) hls hnl H locs lsA hP hD hS hL
theorem sn_sipush (hx : p.tables.exec = Jvm.exec) (hb : c.code = cc) {n : Int} (h0 : (Int16.ofInt n).toInt32 = Int32.ofInt n) (h1 : -32768 ≤ n) (h2 : n < 32768) (hdg : decode cc pc = .ok (.sipush n, 3)) (h : SAT p l e R s m args below meth c cells slots QW ad kx D A nL (pc + 3, ls, .inl n :: st, w)) : SAT p l e R s m args below meth c cells slots QW ad kx D A nL (pc, ls, st, w) := by
  intro hw hst hls hnl H locs lsA hP hD hS hL
  refine lv_sipush (v := Int32.ofInt n) hx hb hdg h0 ?_
  exact h hw (fa_cons (by unfold okA in32; omega) hst) hls hnl H locs lsA hP hD hS hL
theorem sn_iload (hx : p.tables.exec = Jvm.exec) (hb : c.code = cc) {i : Nat} (hdg : decode cc pc = .ok (.iload i, 2)) (h : gI ls i fun x => SAT p l e R s m args below meth c cells slots QW ad kx D A nL (pc + 2, ls, .inl x :: st, w)) : SAT p l e R s m args below meth c cells slots QW ad kx D A nL (pc, ls, st, w) := by
  intro hw hst hls hnl H locs lsA hP hD hS hL
  obtain ⟨x, hi, h⟩ := gI_ok h
  refine lv_iload hx hb hdg (ls_mem hL hi) ?_
  exact h hw (fa_cons (hls _ _ hi) hst) hls hnl H locs lsA hP hD hS hL
theorem sn_iload_n (hx : p.tables.exec = Jvm.exec) (hb : c.code = cc) {i : Fin 4} (hdg : decode cc pc = .ok (.iload_n i, 1)) (h : gI ls i fun x => SAT p l e R s m args below meth c cells slots QW ad kx D A nL (pc + 1, ls, .inl x :: st, w)) : SAT p l e R s m args below meth c cells slots QW ad kx D A nL (pc, ls, st, w) := by
  intro hw hst hls hnl H locs lsA hP hD hS hL
  obtain ⟨x, hi, h⟩ := gI_ok h
  refine lv_iload_n hx hb hdg rfl (ls_mem hL hi) ?_
  exact h hw (fa_cons (hls _ _ hi) hst) hls hnl H locs lsA hP hD hS hL
theorem sn_lload_n (hx : p.tables.exec = Jvm.exec) (hb : c.code = cc) {i : Fin 4} (hdg : decode cc pc = .ok (.lload_n i, 1)) (h : gL ls i fun x => SAT p l e R s m args below meth c cells slots QW ad kx D A nL (pc + 1, ls, .inr (.inl x) :: st, w)) : SAT p l e R s m args below meth c cells slots QW ad kx D A nL (pc, ls, st, w) := by
  intro hw hst hls hnl H locs lsA hP hD hS hL
  obtain ⟨x, hi, h⟩ := gL_ok h
  refine lv_lload_n hx hb hdg rfl (ls_mem hL hi) ?_
  exact h hw (fa_cons (hls _ _ hi) hst) hls hnl H locs lsA hP hD hS hL
theorem sn_aload (hx : p.tables.exec = Jvm.exec) (hb : c.code = cc) {i : Nat} (hdg : decode cc pc = .ok (.aload i, 2)) (h : gR ls i fun x => SAT p l e R s m args below meth c cells slots QW ad kx D A nL (pc + 2, ls, .inr (.inr x) :: st, w)) : SAT p l e R s m args below meth c cells slots QW ad kx D A nL (pc, ls, st, w) := by
  intro hw hst hls hnl H locs lsA hP hD hS hL
  obtain ⟨x, hi, h⟩ := gR_ok h
  refine lv_aload hx hb hdg (ls_mem hL hi) ?_
  exact h hw (fa_cons (hls _ _ hi) hst) hls hnl H locs lsA hP hD hS hL
theorem sn_aload_n (hx : p.tables.exec = Jvm.exec) (hb : c.code = cc) {i : Fin 4} (hdg : decode cc pc = .ok (.aload_n i, 1)) (h : gR ls i fun x => SAT p l e R s m args below meth c cells slots QW ad kx D A nL (pc + 1, ls, .inr (.inr x) :: st, w)) : SAT p l e R s m args below meth c cells slots QW ad kx D A nL (pc, ls, st, w) := by
  intro hw hst hls hnl H locs lsA hP hD hS hL
  obtain ⟨x, hi, h⟩ := gR_ok h
  refine lv_aload_n hx hb hdg rfl (ls_mem hL hi) ?_
  exact h hw (fa_cons (hls _ _ hi) hst) hls hnl H locs lsA hP hD hS hL
theorem sn_istore (hx : p.tables.exec = Jvm.exec) (hb : c.code = cc) {i : Nat} (hdg : decode cc pc = .ok (.istore i, 2)) (h : pI st fun x st => sL ls i (.inl x) fun ls => SAT p l e R s m args below meth c cells slots QW ad kx D A nL (pc + 2, ls, st, w)) : SAT p l e R s m args below meth c cells slots QW ad kx D A nL (pc, ls, st, w) := by
  intro hw hst hls hnl H locs lsA hP hD hS hL
  have h9 := pI_ok h
  clear h
  obtain ⟨x, st', rfl, h⟩ := h9
  obtain ⟨h1, h2, h⟩ := sL_ok h
  refine lv_istore hx hb hdg hL (by omega) rfl fun ls' hL' => ?_
  obtain ⟨a1, a2⟩ := lsOK_set (i := i) hnl hls (fa_head hst)
  exact h hw (fa_tail hst) a2 a1 H locs ls' hP hD hS (lv_mono hL' (prs_set h2))
theorem sn_istore_n (hx : p.tables.exec = Jvm.exec) (hb : c.code = cc) {i : Fin 4} (hdg : decode cc pc = .ok (.istore_n i, 1)) (h : pI st fun x st => sL ls i (.inl x) fun ls => SAT p l e R s m args below meth c cells slots QW ad kx D A nL (pc + 1, ls, st, w)) : SAT p l e R s m args below meth c cells slots QW ad kx D A nL (pc, ls, st, w) := by
  intro hw hst hls hnl H locs lsA hP hD hS hL
  have h9 := pI_ok h
  clear h
  obtain ⟨x, st', rfl, h⟩ := h9
  obtain ⟨h1, h2, h⟩ := sL_ok h
  refine lv_istore_n hx hb hdg rfl hL (by omega) rfl fun ls' hL' => ?_
  obtain ⟨a1, a2⟩ := lsOK_set (i := i) hnl hls (fa_head hst)
  exact h hw (fa_tail hst) a2 a1 H locs ls' hP hD hS (lv_mono hL' (prs_set h2))
theorem sn_iinc (hx : p.tables.exec = Jvm.exec) (hb : c.code = cc) {i : Nat} {n : Int} (h1 : -128 ≤ n) (h2 : n < 128) (hdg : decode cc pc = .ok (.iinc i n, 3)) (h : gI ls i fun x => sL ls i (.inl (wr (x + n))) fun ls => SAT p l e R s m args below meth c cells slots QW ad kx D A nL (pc + 3, ls, st, w)) : SAT p l e R s m args below meth c cells slots QW ad kx D A nL (pc, ls, st, w) := by
  intro hw hst hls hnl H locs lsA hP hD hS hL
  obtain ⟨x, hi, h⟩ := gI_ok h
  obtain ⟨h3, h4, h⟩ := sL_ok h
  obtain ⟨k, hk⟩ := List.getElem?_of_mem (mem_prs.mpr ⟨i, _, hi, rfl⟩ : ((0 + i, cv ad (.inl x)) ∈ prs ad ls 0))
  rw [Nat.zero_add] at hk
  refine lv_iinc (v := Int32.ofInt (wr (x + n))) hx hb hdg hL hk (by rw [oi_wr, Int32.ofInt_add]) (by omega) rfl fun ls' hL' => ?_
  obtain ⟨a1, a2⟩ := lsOK_set (i := i) (v := .inl (wr (x + n))) hnl hls (in32_wr _)
  exact h hw hst a2 a1 H locs ls' hP hD hS (lv_mono hL' (prs_set h4))
theorem sn_iadd (hx : p.tables.exec = Jvm.exec) (hb : c.code = cc) (hdg : decode cc pc = .ok (.iadd, 1)) (h : pI st fun b st => pI st fun a st => SAT p l e R s m args below meth c cells slots QW ad kx D A nL (pc + 1, ls, .inl (wr (a + b)) :: st, w)) : SAT p l e R s m args below meth c cells slots QW ad kx D A nL (pc, ls, st, w) := by
  intro hw hst hls hnl H locs lsA hP hD hS hL
  have h9 := pI_ok h
  clear h
  obtain ⟨b, st1, rfl, h⟩ := h9
  have h9 := pI_ok h
  clear h
  obtain ⟨a, st2, rfl, h⟩ := h9
  refine lv_iadd hx hb hdg ?_
  have e : Int32.ofInt (wr (a + b)) = _ := (oi_wr _).trans (Int32.ofInt_add _ _)
  have h := h hw (fa_cons (show okA (.inl (wr (a + b))) from in32_ti _) (fa_tail (fa_tail hst))) hls hnl H locs lsA hP hD hS hL
  rw [List.map_cons, show cv ad (.inl (wr (a + b))) = .int (Int32.ofInt (wr (a + b))) from rfl, e] at h
  exact h
theorem sn_isub (hx : p.tables.exec = Jvm.exec) (hb : c.code = cc) (hdg : decode cc pc = .ok (.isub, 1)) (h : pI st fun b st => pI st fun a st => SAT p l e R s m args below meth c cells slots QW ad kx D A nL (pc + 1, ls, .inl (wr (a - b)) :: st, w)) : SAT p l e R s m args below meth c cells slots QW ad kx D A nL (pc, ls, st, w) := by
  intro hw hst hls hnl H locs lsA hP hD hS hL
  have h9 := pI_ok h
  clear h
  obtain ⟨b, st1, rfl, h⟩ := h9
  have h9 := pI_ok h
  clear h
  obtain ⟨a, st2, rfl, h⟩ := h9
  refine lv_isub hx hb hdg ?_
  have e : Int32.ofInt (wr (a - b)) = _ := (oi_wr _).trans (Int32.ofInt_sub _ _)
  have h := h hw (fa_cons (show okA (.inl (wr (a - b))) from in32_ti _) (fa_tail (fa_tail hst))) hls hnl H locs lsA hP hD hS hL
  rw [List.map_cons, show cv ad (.inl (wr (a - b))) = .int (Int32.ofInt (wr (a - b))) from rfl, e] at h
  exact h
theorem sn_imul (hx : p.tables.exec = Jvm.exec) (hb : c.code = cc) (hdg : decode cc pc = .ok (.imul, 1)) (h : pI st fun b st => pI st fun a st => SAT p l e R s m args below meth c cells slots QW ad kx D A nL (pc + 1, ls, .inl (wr (a * b)) :: st, w)) : SAT p l e R s m args below meth c cells slots QW ad kx D A nL (pc, ls, st, w) := by
  intro hw hst hls hnl H locs lsA hP hD hS hL
  have h9 := pI_ok h
  clear h
  obtain ⟨b, st1, rfl, h⟩ := h9
  have h9 := pI_ok h
  clear h
  obtain ⟨a, st2, rfl, h⟩ := h9
  refine lv_imul hx hb hdg ?_
  have e : Int32.ofInt (wr (a * b)) = _ := (oi_wr _).trans (Int32.ofInt_mul _ _)
  have h := h hw (fa_cons (show okA (.inl (wr (a * b))) from in32_ti _) (fa_tail (fa_tail hst))) hls hnl H locs lsA hP hD hS hL
  rw [List.map_cons, show cv ad (.inl (wr (a * b))) = .int (Int32.ofInt (wr (a * b))) from rfl, e] at h
  exact h
theorem sn_iand (hx : p.tables.exec = Jvm.exec) (hb : c.code = cc) (hdg : decode cc pc = .ok (.iand, 1)) (h : pI st fun b st => pI st fun a st => SAT p l e R s m args below meth c cells slots QW ad kx D A nL (pc + 1, ls, .inl (iand a b) :: st, w)) : SAT p l e R s m args below meth c cells slots QW ad kx D A nL (pc, ls, st, w) := by
  intro hw hst hls hnl H locs lsA hP hD hS hL
  have h9 := pI_ok h
  clear h
  obtain ⟨b, st1, rfl, h⟩ := h9
  have h9 := pI_ok h
  clear h
  obtain ⟨a, st2, rfl, h⟩ := h9
  refine lv_iand hx hb hdg ?_
  have e : Int32.ofInt (iand a b) = _ := oi_iop _ _ _
  have h := h hw (fa_cons (show okA (.inl (iand a b)) from in32_ti _) (fa_tail (fa_tail hst))) hls hnl H locs lsA hP hD hS hL
  rw [List.map_cons, show cv ad (.inl (iand a b)) = .int (Int32.ofInt (iand a b)) from rfl, e] at h
  exact h
theorem sn_ior (hx : p.tables.exec = Jvm.exec) (hb : c.code = cc) (hdg : decode cc pc = .ok (.ior, 1)) (h : pI st fun b st => pI st fun a st => SAT p l e R s m args below meth c cells slots QW ad kx D A nL (pc + 1, ls, .inl (ior a b) :: st, w)) : SAT p l e R s m args below meth c cells slots QW ad kx D A nL (pc, ls, st, w) := by
  intro hw hst hls hnl H locs lsA hP hD hS hL
  have h9 := pI_ok h
  clear h
  obtain ⟨b, st1, rfl, h⟩ := h9
  have h9 := pI_ok h
  clear h
  obtain ⟨a, st2, rfl, h⟩ := h9
  refine lv_ior hx hb hdg ?_
  have e : Int32.ofInt (ior a b) = _ := oi_iop _ _ _
  have h := h hw (fa_cons (show okA (.inl (ior a b)) from in32_ti _) (fa_tail (fa_tail hst))) hls hnl H locs lsA hP hD hS hL
  rw [List.map_cons, show cv ad (.inl (ior a b)) = .int (Int32.ofInt (ior a b)) from rfl, e] at h
  exact h
theorem sn_ixor (hx : p.tables.exec = Jvm.exec) (hb : c.code = cc) (hdg : decode cc pc = .ok (.ixor, 1)) (h : pI st fun b st => pI st fun a st => SAT p l e R s m args below meth c cells slots QW ad kx D A nL (pc + 1, ls, .inl (ixor a b) :: st, w)) : SAT p l e R s m args below meth c cells slots QW ad kx D A nL (pc, ls, st, w) := by
  intro hw hst hls hnl H locs lsA hP hD hS hL
  have h9 := pI_ok h
  clear h
  obtain ⟨b, st1, rfl, h⟩ := h9
  have h9 := pI_ok h
  clear h
  obtain ⟨a, st2, rfl, h⟩ := h9
  refine lv_ixor hx hb hdg ?_
  have e : Int32.ofInt (ixor a b) = _ := oi_iop _ _ _
  have h := h hw (fa_cons (show okA (.inl (ixor a b)) from in32_ti _) (fa_tail (fa_tail hst))) hls hnl H locs lsA hP hD hS hL
  rw [List.map_cons, show cv ad (.inl (ixor a b)) = .int (Int32.ofInt (ixor a b)) from rfl, e] at h
  exact h
theorem sn_ishl (hx : p.tables.exec = Jvm.exec) (hb : c.code = cc) (hdg : decode cc pc = .ok (.ishl, 1)) (h : pI st fun b st => pI st fun a st => SAT p l e R s m args below meth c cells slots QW ad kx D A nL (pc + 1, ls, .inl (ishl a b) :: st, w)) : SAT p l e R s m args below meth c cells slots QW ad kx D A nL (pc, ls, st, w) := by
  intro hw hst hls hnl H locs lsA hP hD hS hL
  have h9 := pI_ok h
  clear h
  obtain ⟨b, st1, rfl, h⟩ := h9
  have h9 := pI_ok h
  clear h
  obtain ⟨a, st2, rfl, h⟩ := h9
  refine lv_ishl hx hb hdg ?_
  have e : Int32.ofInt (ishl a b) = _ := oi_iop _ _ _
  have h := h hw (fa_cons (show okA (.inl (ishl a b)) from in32_ti _) (fa_tail (fa_tail hst))) hls hnl H locs lsA hP hD hS hL
  rw [List.map_cons, show cv ad (.inl (ishl a b)) = .int (Int32.ofInt (ishl a b)) from rfl, e] at h
  exact h
theorem sn_ishr (hx : p.tables.exec = Jvm.exec) (hb : c.code = cc) (hdg : decode cc pc = .ok (.ishr, 1)) (h : pI st fun b st => pI st fun a st => SAT p l e R s m args below meth c cells slots QW ad kx D A nL (pc + 1, ls, .inl (ishr a b) :: st, w)) : SAT p l e R s m args below meth c cells slots QW ad kx D A nL (pc, ls, st, w) := by
  intro hw hst hls hnl H locs lsA hP hD hS hL
  have h9 := pI_ok h
  clear h
  obtain ⟨b, st1, rfl, h⟩ := h9
  have h9 := pI_ok h
  clear h
  obtain ⟨a, st2, rfl, h⟩ := h9
  refine lv_ishr hx hb hdg ?_
  have e : Int32.ofInt (ishr a b) = _ := oi_iop _ _ _
  have h := h hw (fa_cons (show okA (.inl (ishr a b)) from in32_ti _) (fa_tail (fa_tail hst))) hls hnl H locs lsA hP hD hS hL
  rw [List.map_cons, show cv ad (.inl (ishr a b)) = .int (Int32.ofInt (ishr a b)) from rfl, e] at h
  exact h
theorem sn_idiv (hx : p.tables.exec = Jvm.exec) (hb : c.code = cc) (hdg : decode cc pc = .ok (.idiv, 1)) (h : pI st fun b st => pI st fun a st => ¬ b = 0 ∧ SAT p l e R s m args below meth c cells slots QW ad kx D A nL (pc + 1, ls, .inl (idv a b) :: st, w)) : SAT p l e R s m args below meth c cells slots QW ad kx D A nL (pc, ls, st, w) := by
  intro hw hst hls hnl H locs lsA hP hD hS hL
  have h9 := pI_ok h
  clear h
  obtain ⟨b, st1, rfl, h⟩ := h9
  have h9 := pI_ok h
  clear h
  obtain ⟨a, st2, rfl, h⟩ := h9
  obtain ⟨h0, h⟩ := h
  refine lv_idiv hx hb hdg (fun q => h0 ((oi_inj (fa_head hst) in32_0).mp (q.trans oi_0.symm))) ?_
  have e : Int32.ofInt (idv a b) = _ := oi_iop _ _ _
  have h := h hw (fa_cons (show okA (.inl (idv a b)) from in32_ti _) (fa_tail (fa_tail hst))) hls hnl H locs lsA hP hD hS hL
  rw [List.map_cons, show cv ad (.inl (idv a b)) = .int (Int32.ofInt (idv a b)) from rfl, e] at h
  exact h
theorem sn_irem (hx : p.tables.exec = Jvm.exec) (hb : c.code = cc) (hdg : decode cc pc = .ok (.irem, 1)) (h : pI st fun b st => pI st fun a st => ¬ b = 0 ∧ SAT p l e R s m args below meth c cells slots QW ad kx D A nL (pc + 1, ls, .inl (imd a b) :: st, w)) : SAT p l e R s m args below meth c cells slots QW ad kx D A nL (pc, ls, st, w) := by
  intro hw hst hls hnl H locs lsA hP hD hS hL
  have h9 := pI_ok h
  clear h
  obtain ⟨b, st1, rfl, h⟩ := h9
  have h9 := pI_ok h
  clear h
  obtain ⟨a, st2, rfl, h⟩ := h9
  obtain ⟨h0, h⟩ := h
  refine lv_irem hx hb hdg (fun q => h0 ((oi_inj (fa_head hst) in32_0).mp (q.trans oi_0.symm))) ?_
  have e : Int32.ofInt (imd a b) = _ := oi_iop _ _ _
  have h := h hw (fa_cons (show okA (.inl (imd a b)) from in32_ti _) (fa_tail (fa_tail hst))) hls hnl H locs lsA hP hD hS hL
  rw [List.map_cons, show cv ad (.inl (imd a b)) = .int (Int32.ofInt (imd a b)) from rfl, e] at h
  exact h
theorem sn_ineg (hx : p.tables.exec = Jvm.exec) (hb : c.code = cc) (hdg : decode cc pc = .ok (.ineg, 1)) (h : pI st fun a st => SAT p l e R s m args below meth c cells slots QW ad kx D A nL (pc + 1, ls, .inl (wr (-a)) :: st, w)) : SAT p l e R s m args below meth c cells slots QW ad kx D A nL (pc, ls, st, w) := by
  intro hw hst hls hnl H locs lsA hP hD hS hL
  have h9 := pI_ok h
  clear h
  obtain ⟨a, st1, rfl, h⟩ := h9
  refine lv_ineg hx hb hdg ?_
  have e : Int32.ofInt (wr (-a)) = -Int32.ofInt a := by rw [oi_wr, Int32.ofInt_neg]
  have h := h hw (fa_cons (show okA (.inl (wr (-a))) from in32_ti _) (fa_tail hst)) hls hnl H locs lsA hP hD hS hL
  rw [List.map_cons, show cv ad (.inl (wr (-a))) = .int (Int32.ofInt (wr (-a))) from rfl, e] at h
  exact h
theorem sn_iushr (hx : p.tables.exec = Jvm.exec) (hb : c.code = cc) (hdg : decode cc pc = .ok (.iushr, 1)) (h : pI st fun b st => pI st fun a st => SAT p l e R s m args below meth c cells slots QW ad kx D A nL (pc + 1, ls, .inl (iushr a b) :: st, w)) : SAT p l e R s m args below meth c cells slots QW ad kx D A nL (pc, ls, st, w) := by
  intro hw hst hls hnl H locs lsA hP hD hS hL
  have h9 := pI_ok h
  clear h
  obtain ⟨b, st1, rfl, h⟩ := h9
  have h9 := pI_ok h
  clear h
  obtain ⟨a, st2, rfl, h⟩ := h9
  refine lv_iushr (v := Int32.ofInt (iushr a b)) hx hb hdg (by rw [iushr, oi_iop]) ?_
  exact h hw (fa_cons (show okA (.inl (iushr a b)) from in32_ti _) (fa_tail (fa_tail hst))) hls hnl H locs lsA hP hD hS hL
theorem sn_i2l (hx : p.tables.exec = Jvm.exec) (hb : c.code = cc) (hdg : decode cc pc = .ok (.i2l, 1)) (h : pI st fun a st => SAT p l e R s m args below meth c cells slots QW ad kx D A nL (pc + 1, ls, .inr (.inl a) :: st, w)) : SAT p l e R s m args below meth c cells slots QW ad kx D A nL (pc, ls, st, w) := by
  intro hw hst hls hnl H locs lsA hP hD hS hL
  have h9 := pI_ok h
  clear h
  obtain ⟨a, st1, rfl, h⟩ := h9
  have ha : in32 a := fa_head hst
  have ha6 : in64 a := by unfold in32 at ha; unfold in64; omega
  refine lv_i2l (v := Int64.ofInt a) hx hb hdg (Int64.toInt_inj.mp (by rw [Int32.toInt_toInt64, ti_oi ha, ti64_oi ha6])) ?_
  exact h hw (fa_cons (show okA (.inr (.inl a)) from ha6) (fa_tail hst)) hls hnl H locs lsA hP hD hS hL
theorem sn_l2i (hx : p.tables.exec = Jvm.exec) (hb : c.code = cc) (hdg : decode cc pc = .ok (.l2i, 1)) (h : pL st fun a st => SAT p l e R s m args below meth c cells slots QW ad kx D A nL (pc + 1, ls, .inl (l2i a) :: st, w)) : SAT p l e R s m args below meth c cells slots QW ad kx D A nL (pc, ls, st, w) := by
  intro hw hst hls hnl H locs lsA hP hD hS hL
  have h9 := pL_ok h
  clear h
  obtain ⟨a, st1, rfl, h⟩ := h9
  refine lv_l2i (v := Int32.ofInt (l2i a)) hx hb hdg (oi_ti _).symm ?_
  exact h hw (fa_cons (show okA (.inl (l2i a)) from in32_ti _) (fa_tail hst)) hls hnl H locs lsA hP hD hS hL
theorem sn_land (hx : p.tables.exec = Jvm.exec) (hb : c.code = cc) (hdg : decode cc pc = .ok (.land, 1)) (h : pL st fun b st => pL st fun a st => SAT p l e R s m args below meth c cells slots QW ad kx D A nL (pc + 1, ls, .inr (.inl (land a b)) :: st, w)) : SAT p l e R s m args below meth c cells slots QW ad kx D A nL (pc, ls, st, w) := by
  intro hw hst hls hnl H locs lsA hP hD hS hL
  have h9 := pL_ok h
  clear h
  obtain ⟨b, st1, rfl, h⟩ := h9
  have h9 := pL_ok h
  clear h
  obtain ⟨a, st2, rfl, h⟩ := h9
  refine lv_land hx hb hdg ?_
  have e : Int64.ofInt (land a b) = _ := oi64_ti _
  have h := h hw (fa_cons (show okA (.inr (.inl (land a b))) from in64_ti _) (fa_tail (fa_tail hst))) hls hnl H locs lsA hP hD hS hL
  rw [List.map_cons, show cv ad (.inr (.inl (land a b))) = .long (Int64.ofInt (land a b)) from rfl, e] at h
  exact h
theorem sn_lor (hx : p.tables.exec = Jvm.exec) (hb : c.code = cc) (hdg : decode cc pc = .ok (.lor, 1)) (h : pL st fun b st => pL st fun a st => SAT p l e R s m args below meth c cells slots QW ad kx D A nL (pc + 1, ls, .inr (.inl (lor a b)) :: st, w)) : SAT p l e R s m args below meth c cells slots QW ad kx D A nL (pc, ls, st, w) := by
  intro hw hst hls hnl H locs lsA hP hD hS hL
  have h9 := pL_ok h
  clear h
  obtain ⟨b, st1, rfl, h⟩ := h9
  have h9 := pL_ok h
  clear h
  obtain ⟨a, st2, rfl, h⟩ := h9
  refine lv_lor hx hb hdg ?_
  have e : Int64.ofInt (lor a b) = _ := oi64_ti _
  have h := h hw (fa_cons (show okA (.inr (.inl (lor a b))) from in64_ti _) (fa_tail (fa_tail hst))) hls hnl H locs lsA hP hD hS hL
  rw [List.map_cons, show cv ad (.inr (.inl (lor a b))) = .long (Int64.ofInt (lor a b)) from rfl, e] at h
  exact h
theorem sn_lshl (hx : p.tables.exec = Jvm.exec) (hb : c.code = cc) (hdg : decode cc pc = .ok (.lshl, 1)) (h : pI st fun b st => pL st fun a st => SAT p l e R s m args below meth c cells slots QW ad kx D A nL (pc + 1, ls, .inr (.inl (lshl a b)) :: st, w)) : SAT p l e R s m args below meth c cells slots QW ad kx D A nL (pc, ls, st, w) := by
  intro hw hst hls hnl H locs lsA hP hD hS hL
  have h9 := pI_ok h
  clear h
  obtain ⟨b, st1, rfl, h⟩ := h9
  have h9 := pL_ok h
  clear h
  obtain ⟨a, st2, rfl, h⟩ := h9
  refine lv_lshl (v := Int64.ofInt (lshl a b)) hx hb hdg (oi64_ti _).symm ?_
  exact h hw (fa_cons (show okA (.inr (.inl (lshl a b))) from in64_ti _) (fa_tail (fa_tail hst))) hls hnl H locs lsA hP hD hS hL
theorem sn_lshr (hx : p.tables.exec = Jvm.exec) (hb : c.code = cc) (hdg : decode cc pc = .ok (.lshr, 1)) (h : pI st fun b st => pL st fun a st => SAT p l e R s m args below meth c cells slots QW ad kx D A nL (pc + 1, ls, .inr (.inl (lshr a b)) :: st, w)) : SAT p l e R s m args below meth c cells slots QW ad kx D A nL (pc, ls, st, w) := by
  intro hw hst hls hnl H locs lsA hP hD hS hL
  have h9 := pI_ok h
  clear h
  obtain ⟨b, st1, rfl, h⟩ := h9
  have h9 := pL_ok h
  clear h
  obtain ⟨a, st2, rfl, h⟩ := h9
  refine lv_lshr (v := Int64.ofInt (lshr a b)) hx hb hdg (oi64_ti _).symm ?_
  exact h hw (fa_cons (show okA (.inr (.inl (lshr a b))) from in64_ti _) (fa_tail (fa_tail hst))) hls hnl H locs lsA hP hD hS hL
theorem sn_dup (hx : p.tables.exec = Jvm.exec) (hb : c.code = cc) (hdg : decode cc pc = .ok (.dup, 1)) (h : pV st fun v st => SAT p l e R s m args below meth c cells slots QW ad kx D A nL (pc + 1, ls, v :: v :: st, w)) : SAT p l e R s m args below meth c cells slots QW ad kx D A nL (pc, ls, st, w) := by
  intro hw hst hls hnl H locs lsA hP hD hS hL
  have h9 := pV_ok h
  clear h
  obtain ⟨v, st1, rfl, hv, h⟩ := h9
  refine lv_dup hx hb hdg (cv_cat1 hv) ?_
  exact h hw (fa_cons (fa_head hst) hst) hls hnl H locs lsA hP hD hS hL
theorem sn_dup2 (hx : p.tables.exec = Jvm.exec) (hb : c.code = cc) (hdg : decode cc pc = .ok (.dup2, 1)) (h : pV st fun v st => pV st fun u st => SAT p l e R s m args below meth c cells slots QW ad kx D A nL (pc + 1, ls, v :: u :: v :: u :: st, w)) : SAT p l e R s m args below meth c cells slots QW ad kx D A nL (pc, ls, st, w) := by
  intro hw hst hls hnl H locs lsA hP hD hS hL
  have h9 := pV_ok h
  clear h
  obtain ⟨v, st1, rfl, hv, h⟩ := h9
  have h9 := pV_ok h
  clear h
  obtain ⟨u, st2, rfl, hu, h⟩ := h9
  refine lv_dup2_11 hx hb hdg (cv_cat1 hv) (cv_cat1 hu) ?_
  exact h hw (fa_cons (fa_head hst) (fa_cons (fa_head (fa_tail hst)) hst)) hls hnl H locs lsA hP hD hS hL
theorem sn_goto (hx : p.tables.exec = Jvm.exec) (hb : c.code = cc) {off : Int} {tgt : Nat} (ht : (pc : Int) + off = (tgt : Int)) (hdg : decode cc pc = .ok (.goto off, 3)) (h : SAT p l e R s m args below meth c cells slots QW ad kx D A nL (tgt, ls, st, w)) : SAT p l e R s m args below meth c cells slots QW ad kx D A nL (pc, ls, st, w) := by
  intro hw hst hls hnl H locs lsA hP hD hS hL
  exact lv_goto hx hb hdg ht (h hw hst hls hnl H locs lsA hP hD hS hL)
theorem br_eq {a b : Int} {T F : Prop} (h : brI .eq a b T F) : (a = b → T) ∧ (¬ a = b → F) := by
  unfold brI at h
  dsimp only at h
  exact ⟨fun q => by rw [if_pos q] at h; exact h, fun q => by rw [if_neg q] at h; exact h⟩
theorem sn_icmp_eq (hx : p.tables.exec = Jvm.exec) (hb : c.code = cc) {off : Int} {tgt : Nat} (ht : (pc : Int) + off = (tgt : Int)) (hdg : decode cc pc = .ok (.if_icmp .eq off, 3)) (h : pI st fun b st => pI st fun a st => brI .eq a b (SAT p l e R s m args below meth c cells slots QW ad kx D A nL (tgt, ls, st, w)) (SAT p l e R s m args below meth c cells slots QW ad kx D A nL (pc + 3, ls, st, w))) : SAT p l e R s m args below meth c cells slots QW ad kx D A nL (pc, ls, st, w) := by
  intro hw hst hls hnl H locs lsA hP hD hS hL
  have h9 := pI_ok h
  clear h
  obtain ⟨b, st1, rfl, h⟩ := h9
  have h9 := pI_ok h
  clear h
  obtain ⟨a, st2, rfl, h⟩ := h9
  have hbb : in32 b := fa_head hst
  have ha : in32 a := fa_head (fa_tail hst)
  have h := br_eq h
  refine lv_icmp_eq hx hb hdg ht (fun q => ?_) (fun q => ?_)
  · exact h.1 ((oi_inj ha hbb).mp q) hw (fa_tail (fa_tail hst)) hls hnl H locs lsA hP hD hS hL
  · exact h.2 ((fun z => q ((oi_inj ha hbb).mpr z))) hw (fa_tail (fa_tail hst)) hls hnl H locs lsA hP hD hS hL
theorem sn_if_eq (hx : p.tables.exec = Jvm.exec) (hb : c.code = cc) {off : Int} {tgt : Nat} (ht : (pc : Int) + off = (tgt : Int)) (hdg : decode cc pc = .ok (.ifCond .eq off, 3)) (h : pI st fun a st => brI .eq a 0 (SAT p l e R s m args below meth c cells slots QW ad kx D A nL (tgt, ls, st, w)) (SAT p l e R s m args below meth c cells slots QW ad kx D A nL (pc + 3, ls, st, w))) : SAT p l e R s m args below meth c cells slots QW ad kx D A nL (pc, ls, st, w) := by
  intro hw hst hls hnl H locs lsA hP hD hS hL
  have h9 := pI_ok h
  clear h
  obtain ⟨a, st2, rfl, h⟩ := h9
  have hbb : in32 0 := in32_0
  have ha : in32 a := fa_head hst
  have h := br_eq h
  refine lv_if_eq hx hb hdg ht (fun q => ?_) (fun q => ?_)
  · rw [← oi_0] at q
    exact h.1 ((oi_inj ha hbb).mp q) hw (fa_tail hst) hls hnl H locs lsA hP hD hS hL
  · rw [← oi_0] at q
    exact h.2 ((fun z => q ((oi_inj ha hbb).mpr z))) hw (fa_tail hst) hls hnl H locs lsA hP hD hS hL
theorem br_ne {a b : Int} {T F : Prop} (h : brI .ne a b T F) : (a = b → F) ∧ (¬ a = b → T) := by
  unfold brI at h
  dsimp only at h
  exact ⟨fun q => by rw [if_pos q] at h; exact h, fun q => by rw [if_neg q] at h; exact h⟩
theorem sn_icmp_ne (hx : p.tables.exec = Jvm.exec) (hb : c.code = cc) {off : Int} {tgt : Nat} (ht : (pc : Int) + off = (tgt : Int)) (hdg : decode cc pc = .ok (.if_icmp .ne off, 3)) (h : pI st fun b st => pI st fun a st => brI .ne a b (SAT p l e R s m args below meth c cells slots QW ad kx D A nL (tgt, ls, st, w)) (SAT p l e R s m args below meth c cells slots QW ad kx D A nL (pc + 3, ls, st, w))) : SAT p l e R s m args below meth c cells slots QW ad kx D A nL (pc, ls, st, w) := by
  intro hw hst hls hnl H locs lsA hP hD hS hL
  have h9 := pI_ok h
  clear h
  obtain ⟨b, st1, rfl, h⟩ := h9
  have h9 := pI_ok h
  clear h
  obtain ⟨a, st2, rfl, h⟩ := h9
  have hbb : in32 b := fa_head hst
  have ha : in32 a := fa_head (fa_tail hst)
  have h := br_ne h
  refine lv_icmp_ne hx hb hdg ht (fun q => ?_) (fun q => ?_)
  · exact h.2 ((fun z => q ((oi_inj ha hbb).mpr z))) hw (fa_tail (fa_tail hst)) hls hnl H locs lsA hP hD hS hL
  · exact h.1 ((oi_inj ha hbb).mp q) hw (fa_tail (fa_tail hst)) hls hnl H locs lsA hP hD hS hL
theorem sn_if_ne (hx : p.tables.exec = Jvm.exec) (hb : c.code = cc) {off : Int} {tgt : Nat} (ht : (pc : Int) + off = (tgt : Int)) (hdg : decode cc pc = .ok (.ifCond .ne off, 3)) (h : pI st fun a st => brI .ne a 0 (SAT p l e R s m args below meth c cells slots QW ad kx D A nL (tgt, ls, st, w)) (SAT p l e R s m args below meth c cells slots QW ad kx D A nL (pc + 3, ls, st, w))) : SAT p l e R s m args below meth c cells slots QW ad kx D A nL (pc, ls, st, w) := by
  intro hw hst hls hnl H locs lsA hP hD hS hL
  have h9 := pI_ok h
  clear h
  obtain ⟨a, st2, rfl, h⟩ := h9
  have hbb : in32 0 := in32_0
  have ha : in32 a := fa_head hst
  have h := br_ne h
  refine lv_if_ne hx hb hdg ht (fun q => ?_) (fun q => ?_)
  · rw [← oi_0] at q
    exact h.2 ((fun z => q ((oi_inj ha hbb).mpr z))) hw (fa_tail hst) hls hnl H locs lsA hP hD hS hL
  · rw [← oi_0] at q
    exact h.1 ((oi_inj ha hbb).mp q) hw (fa_tail hst) hls hnl H locs lsA hP hD hS hL
theorem br_lt {a b : Int} {T F : Prop} (h : brI .lt a b T F) : (a < b → T) ∧ (¬ a < b → F) := by
  unfold brI at h
  dsimp only at h
  exact ⟨fun q => by rw [if_pos q] at h; exact h, fun q => by rw [if_neg q] at h; exact h⟩
theorem sn_icmp_lt (hx : p.tables.exec = Jvm.exec) (hb : c.code = cc) {off : Int} {tgt : Nat} (ht : (pc : Int) + off = (tgt : Int)) (hdg : decode cc pc = .ok (.if_icmp .lt off, 3)) (h : pI st fun b st => pI st fun a st => brI .lt a b (SAT p l e R s m args below meth c cells slots QW ad kx D A nL (tgt, ls, st, w)) (SAT p l e R s m args below meth c cells slots QW ad kx D A nL (pc + 3, ls, st, w))) : SAT p l e R s m args below meth c cells slots QW ad kx D A nL (pc, ls, st, w) := by
  intro hw hst hls hnl H locs lsA hP hD hS hL
  have h9 := pI_ok h
  clear h
  obtain ⟨b, st1, rfl, h⟩ := h9
  have h9 := pI_ok h
  clear h
  obtain ⟨a, st2, rfl, h⟩ := h9
  have hbb : in32 b := fa_head hst
  have ha : in32 a := fa_head (fa_tail hst)
  have h := br_lt h
  refine lv_icmp_lt hx hb hdg ht (fun q => ?_) (fun q => ?_)
  · exact h.1 ((oi_lt ha hbb).mp q) hw (fa_tail (fa_tail hst)) hls hnl H locs lsA hP hD hS hL
  · exact h.2 ((fun z => q ((oi_lt ha hbb).mpr z))) hw (fa_tail (fa_tail hst)) hls hnl H locs lsA hP hD hS hL
theorem sn_if_lt (hx : p.tables.exec = Jvm.exec) (hb : c.code = cc) {off : Int} {tgt : Nat} (ht : (pc : Int) + off = (tgt : Int)) (hdg : decode cc pc = .ok (.ifCond .lt off, 3)) (h : pI st fun a st => brI .lt a 0 (SAT p l e R s m args below meth c cells slots QW ad kx D A nL (tgt, ls, st, w)) (SAT p l e R s m args below meth c cells slots QW ad kx D A nL (pc + 3, ls, st, w))) : SAT p l e R s m args below meth c cells slots QW ad kx D A nL (pc, ls, st, w) := by
  intro hw hst hls hnl H locs lsA hP hD hS hL
  have h9 := pI_ok h
  clear h
  obtain ⟨a, st2, rfl, h⟩ := h9
  have hbb : in32 0 := in32_0
  have ha : in32 a := fa_head hst
  have h := br_lt h
  refine lv_if_lt hx hb hdg ht (fun q => ?_) (fun q => ?_)
  · rw [← oi_0] at q
    exact h.1 ((oi_lt ha hbb).mp q) hw (fa_tail hst) hls hnl H locs lsA hP hD hS hL
  · rw [← oi_0] at q
    exact h.2 ((fun z => q ((oi_lt ha hbb).mpr z))) hw (fa_tail hst) hls hnl H locs lsA hP hD hS hL
theorem br_ge {a b : Int} {T F : Prop} (h : brI .ge a b T F) : (a < b → F) ∧ (¬ a < b → T) := by
  unfold brI at h
  dsimp only at h
  exact ⟨fun q => by rw [if_pos q] at h; exact h, fun q => by rw [if_neg q] at h; exact h⟩
theorem sn_icmp_ge (hx : p.tables.exec = Jvm.exec) (hb : c.code = cc) {off : Int} {tgt : Nat} (ht : (pc : Int) + off = (tgt : Int)) (hdg : decode cc pc = .ok (.if_icmp .ge off, 3)) (h : pI st fun b st => pI st fun a st => brI .ge a b (SAT p l e R s m args below meth c cells slots QW ad kx D A nL (tgt, ls, st, w)) (SAT p l e R s m args below meth c cells slots QW ad kx D A nL (pc + 3, ls, st, w))) : SAT p l e R s m args below meth c cells slots QW ad kx D A nL (pc, ls, st, w) := by
  intro hw hst hls hnl H locs lsA hP hD hS hL
  have h9 := pI_ok h
  clear h
  obtain ⟨b, st1, rfl, h⟩ := h9
  have h9 := pI_ok h
  clear h
  obtain ⟨a, st2, rfl, h⟩ := h9
  have hbb : in32 b := fa_head hst
  have ha : in32 a := fa_head (fa_tail hst)
  have h := br_ge h
  refine lv_icmp_ge hx hb hdg ht (fun q => ?_) (fun q => ?_)
  · exact h.2 ((fun z => absurd ((oi_le hbb ha).mp q) (by omega))) hw (fa_tail (fa_tail hst)) hls hnl H locs lsA hP hD hS hL
  · exact h.1 (Decidable.byContradiction (fun z => q ((oi_le hbb ha).mpr (by omega)))) hw (fa_tail (fa_tail hst)) hls hnl H locs lsA hP hD hS hL
theorem sn_if_ge (hx : p.tables.exec = Jvm.exec) (hb : c.code = cc) {off : Int} {tgt : Nat} (ht : (pc : Int) + off = (tgt : Int)) (hdg : decode cc pc = .ok (.ifCond .ge off, 3)) (h : pI st fun a st => brI .ge a 0 (SAT p l e R s m args below meth c cells slots QW ad kx D A nL (tgt, ls, st, w)) (SAT p l e R s m args below meth c cells slots QW ad kx D A nL (pc + 3, ls, st, w))) : SAT p l e R s m args below meth c cells slots QW ad kx D A nL (pc, ls, st, w) := by
  intro hw hst hls hnl H locs lsA hP hD hS hL
  have h9 := pI_ok h
  clear h
  obtain ⟨a, st2, rfl, h⟩ := h9
  have hbb : in32 0 := in32_0
  have ha : in32 a := fa_head hst
  have h := br_ge h
  refine lv_if_ge hx hb hdg ht (fun q => ?_) (fun q => ?_)
  · rw [← oi_0] at q
    exact h.2 ((fun z => absurd ((oi_le hbb ha).mp q) (by omega))) hw (fa_tail hst) hls hnl H locs lsA hP hD hS hL
  · rw [← oi_0] at q
    exact h.1 (Decidable.byContradiction (fun z => q ((oi_le hbb ha).mpr (by omega)))) hw (fa_tail hst) hls hnl H locs lsA hP hD hS hL
theorem br_gt {a b : Int} {T F : Prop} (h : brI .gt a b T F) : (b < a → T) ∧ (¬ b < a → F) := by
  unfold brI at h
  dsimp only at h
  exact ⟨fun q => by rw [if_pos q] at h; exact h, fun q => by rw [if_neg q] at h; exact h⟩
theorem sn_icmp_gt (hx : p.tables.exec = Jvm.exec) (hb : c.code = cc) {off : Int} {tgt : Nat} (ht : (pc : Int) + off = (tgt : Int)) (hdg : decode cc pc = .ok (.if_icmp .gt off, 3)) (h : pI st fun b st => pI st fun a st => brI .gt a b (SAT p l e R s m args below meth c cells slots QW ad kx D A nL (tgt, ls, st, w)) (SAT p l e R s m args below meth c cells slots QW ad kx D A nL (pc + 3, ls, st, w))) : SAT p l e R s m args below meth c cells slots QW ad kx D A nL (pc, ls, st, w) := by
  intro hw hst hls hnl H locs lsA hP hD hS hL
  have h9 := pI_ok h
  clear h
  obtain ⟨b, st1, rfl, h⟩ := h9
  have h9 := pI_ok h
  clear h
  obtain ⟨a, st2, rfl, h⟩ := h9
  have hbb : in32 b := fa_head hst
  have ha : in32 a := fa_head (fa_tail hst)
  have h := br_gt h
  refine lv_icmp_gt hx hb hdg ht (fun q => ?_) (fun q => ?_)
  · exact h.1 ((oi_lt hbb ha).mp q) hw (fa_tail (fa_tail hst)) hls hnl H locs lsA hP hD hS hL
  · exact h.2 ((fun z => q ((oi_lt hbb ha).mpr z))) hw (fa_tail (fa_tail hst)) hls hnl H locs lsA hP hD hS hL
theorem sn_if_gt (hx : p.tables.exec = Jvm.exec) (hb : c.code = cc) {off : Int} {tgt : Nat} (ht : (pc : Int) + off = (tgt : Int)) (hdg : decode cc pc = .ok (.ifCond .gt off, 3)) (h : pI st fun a st => brI .gt a 0 (SAT p l e R s m args below meth c cells slots QW ad kx D A nL (tgt, ls, st, w)) (SAT p l e R s m args below meth c cells slots QW ad kx D A nL (pc + 3, ls, st, w))) : SAT p l e R s m args below meth c cells slots QW ad kx D A nL (pc, ls, st, w) := by
  intro hw hst hls hnl H locs lsA hP hD hS hL
  have h9 := pI_ok h
  clear h
  obtain ⟨a, st2, rfl, h⟩ := h9
  have hbb : in32 0 := in32_0
  have ha : in32 a := fa_head hst
  have h := br_gt h
  refine lv_if_gt hx hb hdg ht (fun q => ?_) (fun q => ?_)
  · rw [← oi_0] at q
    exact h.1 ((oi_lt hbb ha).mp q) hw (fa_tail hst) hls hnl H locs lsA hP hD hS hL
  · rw [← oi_0] at q
    exact h.2 ((fun z => q ((oi_lt hbb ha).mpr z))) hw (fa_tail hst) hls hnl H locs lsA hP hD hS hL
theorem br_le {a b : Int} {T F : Prop} (h : brI .le a b T F) : (b < a → F) ∧ (¬ b < a → T) := by
  unfold brI at h
  dsimp only at h
  exact ⟨fun q => by rw [if_pos q] at h; exact h, fun q => by rw [if_neg q] at h; exact h⟩
theorem sn_icmp_le (hx : p.tables.exec = Jvm.exec) (hb : c.code = cc) {off : Int} {tgt : Nat} (ht : (pc : Int) + off = (tgt : Int)) (hdg : decode cc pc = .ok (.if_icmp .le off, 3)) (h : pI st fun b st => pI st fun a st => brI .le a b (SAT p l e R s m args below meth c cells slots QW ad kx D A nL (tgt, ls, st, w)) (SAT p l e R s m args below meth c cells slots QW ad kx D A nL (pc + 3, ls, st, w))) : SAT p l e R s m args below meth c cells slots QW ad kx D A nL (pc, ls, st, w) := by
  intro hw hst hls hnl H locs lsA hP hD hS hL
  have h9 := pI_ok h
  clear h
  obtain ⟨b, st1, rfl, h⟩ := h9
  have h9 := pI_ok h
  clear h
  obtain ⟨a, st2, rfl, h⟩ := h9
  have hbb : in32 b := fa_head hst
  have ha : in32 a := fa_head (fa_tail hst)
  have h := br_le h
  refine lv_icmp_le hx hb hdg ht (fun q => ?_) (fun q => ?_)
  · exact h.2 ((fun z => absurd ((oi_le ha hbb).mp q) (by omega))) hw (fa_tail (fa_tail hst)) hls hnl H locs lsA hP hD hS hL
  · exact h.1 (Decidable.byContradiction (fun z => q ((oi_le ha hbb).mpr (by omega)))) hw (fa_tail (fa_tail hst)) hls hnl H locs lsA hP hD hS hL
theorem sn_if_le (hx : p.tables.exec = Jvm.exec) (hb : c.code = cc) {off : Int} {tgt : Nat} (ht : (pc : Int) + off = (tgt : Int)) (hdg : decode cc pc = .ok (.ifCond .le off, 3)) (h : pI st fun a st => brI .le a 0 (SAT p l e R s m args below meth c cells slots QW ad kx D A nL (tgt, ls, st, w)) (SAT p l e R s m args below meth c cells slots QW ad kx D A nL (pc + 3, ls, st, w))) : SAT p l e R s m args below meth c cells slots QW ad kx D A nL (pc, ls, st, w) := by
  intro hw hst hls hnl H locs lsA hP hD hS hL
  have h9 := pI_ok h
  clear h
  obtain ⟨a, st2, rfl, h⟩ := h9
  have hbb : in32 0 := in32_0
  have ha : in32 a := fa_head hst
  have h := br_le h
  refine lv_if_le hx hb hdg ht (fun q => ?_) (fun q => ?_)
  · rw [← oi_0] at q
    exact h.2 ((fun z => absurd ((oi_le ha hbb).mp q) (by omega))) hw (fa_tail hst) hls hnl H locs lsA hP hD hS hL
  · rw [← oi_0] at q
    exact h.1 (Decidable.byContradiction (fun z => q ((oi_le ha hbb).mpr (by omega)))) hw (fa_tail hst) hls hnl H locs lsA hP hD hS hL
end SN
