/-! a method's contract out of its abstract run -/
def rmD (d : Nat) : Room := { frames := d + 8, cells := 0, slots := 0, locals := 64 * d + 512 }
theorem ca_sk : ∀ k, k < 248 → cond (caM k) (skM k) false = false := by decide +kernel
theorem ca_sk' {k : Nat} (hk : k < 248) (h : caM k = true) : skM k = false := by
  have := ca_sk k hk
  rwa [h] at this
/-- what the text constants' methods give, anywhere -/
def ZOK (SF : SFT) (l : Launch) (ad : Nat → Nat) (kx : Nat → ClassId) (D : va_G) : Prop := ∀ (p : Program) (e : Env) (R : Room) (s : State) (m : MethodId) (args : Array Value) (below : List Frame) (meth : Method) (c : Code) (cells slots : Nat) (QW : State → Prop) (A : Nat → Prop) (nL k : Nat),
  (p.tables.exec = Jvm.exec ∧ c.code = bM k ∧ c.maxLocals = nL ∧ (∀ w ∈ tblG, w.before args s = true) ∧ s.vm.findClass (RN (owM k)) = some m.cls) → (∀ q, s.heap.size ≤ q → A q) → SF A s s.heap → 8 ≤ R.frames → 512 ≤ R.locals → cells ≤ R.cells → slots ≤ R.slots →
  ((∀ pc i ls st w q, decode (bM k) pc = .ok (.invokevirtual i, 3) → Cond.methodLink (RN (owM k)) i ⟨"java/lang/String", "length", "()I"⟩ ∈ tblG → okr st = true → (q = 1000 ∨ q = 1001) → SAT p l e R s m args below meth c cells slots QW ad kx D A nL (pc + 3, ls, .inl (if q = 1000 then 5 else 4) :: st, w) → SAT p l e R s m args below meth c cells slots QW ad kx D A nL (pc, ls, .inr (.inr q) :: st, w)) ∧
   (∀ pc i ls st w q z, decode (bM k) pc = .ok (.invokevirtual i, 3) → Cond.methodLink (RN (owM k)) i ⟨"java/lang/String", "charAt", "(I)C"⟩ ∈ tblG → okr st = true → (q = 1000 ∧ 0 ≤ z ∧ z < 5 ∨ q = 1001 ∧ 0 ≤ z ∧ z < 4) → SAT p l e R s m args below meth c cells slots QW ad kx D A nL (pc + 3, ls, .inl (chA q z) :: st, w) → SAT p l e R s m args below meth c cells slots QW ad kx D A nL (pc, ls, .inl z :: .inr (.inr q) :: st, w)) ∧
   (∀ pc i ls st w q tx, decode (bM k) pc = .ok (.ldc i, 2) → Cond.stringRef (RN (owM k)) i tx ∈ lw_tbl → (q = 1000 ∧ tx = "hpgdy" ∨ q = 1001 ∧ tx = "abcd") → SAT p l e R s m args below meth c cells slots QW ad kx D A nL (pc + 2, ls, .inr (.inr q) :: st, w) → SAT p l e R s m args below meth c cells slots QW ad kx D A nL (pc, ls, st, w)))
theorem lay_prs {ad : Nat → Nat} : ∀ (as : List AV) (i n : Nat), ∀ q ∈ prs ad (lay as ++ List.replicate n none) i, q ∈ lv_args i (as.map (cv ad))
  | [], i, n, q, h => by
    obtain ⟨j, v, h1, -⟩ := mem_prs.mp h
    simp only [lay, List.nil_append] at h1
    have := List.mem_of_getElem? h1
    simp at this
  | .inl x :: t, i, n, q, h => by
    show q ∈ (i, cv ad (.inl x)) :: lv_args (i + 1) (t.map (cv ad))
    rcases List.mem_cons.mp (show q ∈ (i, cv ad (.inl x)) :: prs ad (lay t ++ List.replicate n none) (i + 1) from h) with h | h
    · exact List.mem_cons.mpr (Or.inl h)
    · exact List.mem_cons_of_mem _ (lay_prs t (i + 1) n q h)
  | .inr (.inr x) :: t, i, n, q, h => by
    show q ∈ (i, cv ad (.inr (.inr x))) :: lv_args (i + 1) (t.map (cv ad))
    rcases List.mem_cons.mp (show q ∈ (i, cv ad (.inr (.inr x))) :: prs ad (lay t ++ List.replicate n none) (i + 1) from h) with h | h
    · exact List.mem_cons.mpr (Or.inl h)
    · exact List.mem_cons_of_mem _ (lay_prs t (i + 1) n q h)
  | .inr (.inl x) :: t, i, n, q, h => by
    show q ∈ (i, cv ad (.inr (.inl x))) :: lv_args (i + 2) (t.map (cv ad))
    rcases List.mem_cons.mp (show q ∈ (i, cv ad (.inr (.inl x))) :: prs ad (lay t ++ List.replicate n none) (i + 1 + 1) from h) with h | h
    · exact List.mem_cons.mpr (Or.inl h)
    · exact List.mem_cons_of_mem _ (lay_prs t (i + 1 + 1) n q h)
theorem lg_cons (v : Value) (l : List Value) : lg_sl (v :: l) = (if v.category = 2 then [Slot.val v, .second] else [Slot.val v]) ++ lg_sl l := by
  unfold lg_sl
  rw [List.flatMap_cons]
theorem lay_len {ad : Nat → Nat} : ∀ (as : List AV), (lg_sl (as.map (cv ad))).length = (lay as).length
  | [] => rfl
  | .inl x :: t => by
    rw [List.map_cons, lg_cons, List.length_append, lay_len t, if_neg (by show ¬ (1 = 2); decide)]
    show 1 + (lay t).length = (lay t).length + 1
    omega
  | .inr (.inr x) :: t => by
    rw [List.map_cons, lg_cons, List.length_append, lay_len t, if_neg (by show ¬ (1 = 2); decide)]
    show 1 + (lay t).length = (lay t).length + 1
    omega
  | .inr (.inl x) :: t => by
    rw [List.map_cons, lg_cons, List.length_append, lay_len t, if_pos (show (cv ad (.inr (.inl x))).category = 2 from rfl)]
    show 2 + (lay t).length = (lay t).length + 1 + 1
    omega
theorem lay_ok : ∀ (as : List AV), (∀ v ∈ as, okA v) → ∀ v, some v ∈ lay as → okA v
  | [], _, v, h => by simp [lay] at h
  | .inl x :: t, ha, v, h => by
    rcases List.mem_cons.mp (show some v ∈ some (Sum.inl x) :: lay t from h) with h | h
    · cases h; exact ha _ List.mem_cons_self
    · exact lay_ok t (fun u hu => ha u (List.mem_cons_of_mem _ hu)) v h
  | .inr (.inr x) :: t, ha, v, h => by
    rcases List.mem_cons.mp (show some v ∈ some (Sum.inr (Sum.inr x)) :: lay t from h) with h | h
    · cases h; exact ha _ List.mem_cons_self
    · exact lay_ok t (fun u hu => ha u (List.mem_cons_of_mem _ hu)) v h
  | .inr (.inl x) :: t, ha, v, h => by
    rcases List.mem_cons.mp (show some v ∈ some (Sum.inr (Sum.inl x)) :: none :: lay t from h) with h | h
    · cases h; exact ha _ List.mem_cons_self
    · rcases List.mem_cons.mp h with h | h
      · cases h
      · exact lay_ok t (fun u hu => ha u (List.mem_cons_of_mem _ hu)) v h
theorem ent_ok {as : List AV} {n : Nat} (ha : ∀ v ∈ as, okA v) : ∀ (j : Nat) (v : AV), (ent n as)[j]? = some (some v) → okA v := by
  intro j v h
  rcases List.mem_append.mp (List.mem_of_getElem? h) with h | h
  · exact lay_ok as ha v h
  · have := (List.mem_replicate.mp h).2
    cases this
theorem cal_met {SF : SFT} {l : Launch} {ad : Nat → Nat} {kx : Nat → ClassId} {D : va_G} (hF : SFok SF) (hZ : ZOK SF l ad kx D) : ∀ d, HC SF l ad kx D (Cal d) (rmD d)
  | 0 => fun _ _ _ _ _ _ h => h.elim
  | d + 1 => by
    intro x as w K hca hx48 h hok hwf sz
    have hrec := cal_met hF hZ d
    unfold Cal at h
    split at h
    · rename_i hble
      have hle := Nat.le_of_ble_eq_true hble
      obtain ⟨g1, g2, g3, g4, g5, g6, g7, g8⟩ := chM_ok (caM_ch hx48 hca)
      refine Met.ofW (cc := bM x) (maxL := mlM x) (ret := rM x) g6 rfl ?_
      intro p e s m args below meth c s₁ B hml hv
      obtain ⟨rfl, hsz, hP, hK, hD0, hSF⟩ := hv
      subst hsz
      have hx := B.exec
      have hb := B.bytes
      have hr := B.returns
      have hts0 := atoms_spec (ws := wsM x) B.pre
      have hts : ∀ w ∈ tblG, w.before (as.map (cv ad)).toArray s = true := fun w hw => hts0 w (List.mem_cons_of_mem _ hw)
      have hown : s.vm.findClass (RN (owM x)) = some m.cls := by rw [← g3]; exact findClass_of_methodNamed B.named
      have hlocks := B.notSynchronized
      have hD := hD0.self (sz := s.heap.size)
      have hA : ∀ q : Nat, s.heap.size ≤ q → va_A (cW ad kx w) s.heap.size q := fun q h => Or.inr h
      have hl := lv_entry (as.map (cv ad)) (n := mlM x) (by rw [lay_len]; exact hle)
      rw [lg_entry_eq]
      generalize (lg_sl (as.map (cv ad)) ++ List.replicate (mlM x - (lg_sl (as.map (cv ad))).length) Slot.unset).toArray = ls at hl ⊢
      have hl2 : lv_has ls (mlM x) (prs ad (ent (mlM x) as) 0) := lv_mono hl (fun q hq => lay_prs as 0 _ q hq)
      have X : CX p l e (headSpec (wsM x) (rmD (d + 1))).room s m (as.map (cv ad)).toArray below meth c 0 0 (MQ below (Qx ad kx D (va_A (cW ad kx w) s.heap.size) K (rM x)) (as.map (cv ad)).toArray s 0 0 (va_A (cW ad kx w) s.heap.size)) ad kx D (va_A (cW ad kx w) s.heap.size) (mlM x) SF x none (Cal d) (rmD d) K := by
        refine ⟨⟨hx, hb, hml, hts, hown⟩, ⟨hK, hA, fun _ _ q => by cases q⟩, ⟨hF, hSF, hrec⟩, ⟨rfl, rfl, Nat.le_refl _, ?_, Nat.zero_le _, Nat.zero_le _⟩, ⟨hx48, ca_sk' hx48 hca⟩, ⟨?_, ?_⟩, ?_⟩
        · show 64 + (64 * d + 512) ≤ 64 * (d + 1) + 512
          omega
        · intro pc v w1 ls1 hd hty hq hw hst hls hnl H locs lsA hP1 hD1 hS1 hL1
          have hv : in32 v := fa_head hst
          rcases hty with ⟨hty, h01⟩ | hty
          · rw [hty] at hr ⊢
            refine W.zret hx hb hr (by rcases h01 with rfl | rfl <;> decide) (fun t ht hW => ?_) hS1.2.2 hd hlocks
            exact ⟨⟨Int32.ofInt v, w1, rfl, ⟨by rw [ti_oi hv]; exact hq, hw⟩, by rw [ht]; exact hP1, va_K.moved hW.alike hK, hD1⟩, hS1.F ht⟩
          · rw [hty] at hr ⊢
            refine W.zret hx hb hr rfl (fun t ht hW => ?_) hS1.2.2 hd hlocks
            exact ⟨⟨Int32.ofInt v, w1, rfl, ⟨by rw [ti_oi hv]; exact hq, hw⟩, by rw [ht]; exact hP1, va_K.moved hW.alike hK, hD1⟩, hS1.F ht⟩
        · intro pc w1 ls1 hd hty hq hw hst hls hnl H locs lsA hP1 hD1 hS1 hL1
          rw [hty] at hr ⊢
          refine W.vret hx hb hr (fun t ht hW => ?_) hS1.2.2 hd hlocks
          exact ⟨⟨w1, rfl, ⟨hq, hw⟩, by rw [ht]; exact hP1, va_K.moved hW.alike hK, hD1⟩, hS1.F ht⟩
        · refine hZ p e _ s m _ below meth c 0 0 _ _ _ x ⟨hx, hb, hml, hts, hown⟩ hA hSF ?_ ?_ (Nat.zero_le _) (Nat.zero_le _)
          · show 8 ≤ d + 1 + 8
            omega
          · show 512 ≤ 64 * (d + 1) + 512
            omega
      exact ev_ok X h hwf (fun v hv => by cases hv) (ent_ok hok) (by unfold ent; simp; omega) s.heap [] ls hP hD va_S.rf hl2
    · exact h.elim
