/-! making the objects: rows -/
theorem P_mem {D : va_G} {cl : List vw_C} {ws ws' : va_W} {H : Heap} (h : va_P D cl ws H) (hs : ∀ q, q ∈ ws' → q ∈ ws) : va_P D cl ws' H := fun k q hk => by
  obtain ⟨i, hi⟩ := List.getElem?_of_mem (hs q (List.mem_of_getElem? hk))
  exact h i q hi
theorem D_nd {A : Nat → Prop} {ws : va_W} : va_D A ws ↔ (ws.map Prod.fst).Nodup ∧ ∀ q, q ∈ ws → A q.1 := by
  constructor
  · intro h
    refine ⟨?_, fun q hq => ?_⟩
    · refine List.pairwise_iff_getElem.mpr (fun i j hi hj hij e => ?_)
      rw [List.length_map] at hi hj
      rw [List.getElem_map, List.getElem_map] at e
      have := h.1 i j _ _ (List.getElem?_eq_getElem hi) (List.getElem?_eq_getElem hj) e
      omega
    · obtain ⟨i, hi⟩ := List.getElem?_of_mem hq
      exact h.2 i q hi
  · rintro ⟨h1, h2⟩
    refine ⟨fun i j p q hi hj e => ?_, fun k q hk => h2 q (List.mem_of_getElem? hk)⟩
    have li := (List.getElem?_eq_some_iff.mp hi).1
    have lj := (List.getElem?_eq_some_iff.mp hj).1
    have h3 := List.pairwise_iff_getElem.mp h1
    have gi : (ws.map Prod.fst)[i]'(by rw [List.length_map]; exact li) = p.1 := by
      rw [List.getElem_map]
      rw [(List.getElem?_eq_some_iff.mp hi).2]
    have gj : (ws.map Prod.fst)[j]'(by rw [List.length_map]; exact lj) = q.1 := by
      rw [List.getElem_map]
      rw [(List.getElem?_eq_some_iff.mp hj).2]
    rcases Nat.lt_trichotomy i j with z | z | z
    · exact absurd (by rw [gi, gj]; exact e) (h3 i j (by rw [List.length_map]; exact li) (by rw [List.length_map]; exact lj) z)
    · exact z
    · exact absurd (by rw [gi, gj]; exact e.symm) (h3 j i (by rw [List.length_map]; exact lj) (by rw [List.length_map]; exact li) z)
theorem D_perm {A : Nat → Prop} {ws ws' : va_W} (h : va_D A ws) (hp : List.Perm ws ws') : va_D A ws' := by
  rw [D_nd] at h ⊢
  exact ⟨(hp.map Prod.fst).nodup_iff.mp h.1, fun q hq => h.2 q (hp.mem_iff.mpr hq)⟩
theorem mv1 {α : Type} (e0 x : α) (t : List α) : List.Perm ((e0 :: t) ++ [x]) (e0 :: x :: t) := (List.perm_append_singleton x t).cons e0
section
variable {l : Launch} {kx : Nat → ClassId} {D : va_G} {p : Program} {e : Env} {R : Room} {s : State} {m : MethodId} {args : Array Value} {below : List Frame} {meth : Method} {c : Code} {cells slots : Nat} {Q : State → Prop} {A : Nat → Prop} {H : Heap} {locs : List Loc} {ls : Array Slot} {pc x : Nat} {rest : List Value}
/-- what holds while a method makes cells -/
def CB (p : Program) (s : State) (m : MethodId) (args : Array Value) (c : Code) (x : Nat) (kx : Nat → ClassId) (D : va_G) (A : Nat → Prop) : Prop :=
  (p.tables.exec = Jvm.exec ∧ c.code = bM x ∧ c.maxLocals = mlM x) ∧ (∀ w ∈ tblG, w.before args s = true) ∧ s.vm.findClass (RN (owM x)) = some m.cls ∧ va_K D vwCl (tys0 kx) s ∧ (∀ q, s.heap.size ≤ q → A q)
theorem nwA {t : Nat} {at' : ArrayType} {ty : FieldType} {n : Int32} {N : Nat} {e0 : Nat × va_E} {tail : va_W} (hk : (t = 0 ∧ at' = .int ∧ ty = .int) ∨ (t = 1 ∧ at' = .boolean ∧ ty = .boolean)) (X : CB p s m args c x kx D A) (hn : ¬ n < 0) (hN : n.toNatClampNeg = N) (hs : N ≤ 4096) (hcells : cells + 1 ≤ R.cells) (hslots : slots + N ≤ R.slots) (hP : va_P D vwCl (e0 :: tail) H) (hD : va_D A (e0 :: tail)) (hS : va_S A s.heap H locs) (hd : decode (bM x) pc = .ok (.newarray at', 2)) (kk : ∀ (q : Nat) (H1 : Heap), va_P D vwCl (e0 :: (q, .inl (kx t, N, .inl fun _ => 0)) :: tail) H1 → va_D A (e0 :: (q, .inl (kx t, N, .inl fun _ => 0)) :: tail) → va_S A s.heap H1 locs → W p l e R s m args below meth c H1 locs (cells + 1) (slots + N) Q (F0 m (pc + 2) ls (.ref q :: rest))) : W p l e R s m args below meth c H locs cells slots Q (F0 m pc ls (.int n :: rest)) := by
  obtain ⟨⟨hx, hb, hml⟩, hts, hown, hK, hA⟩ := X
  have fin : ∀ (q : Nat) (cA : ClassId) (H1 : Heap), cA = kx t → va_P D vwCl ((e0 :: tail) ++ [(q, .inl (cA, N, .inl fun _ => 0))]) H1 → va_D A ((e0 :: tail) ++ [(q, .inl (cA, N, .inl fun _ => 0))]) → va_S A s.heap H1 locs → W p l e R s m args below meth c H1 locs (cells + 1) (slots + N) Q (F0 m (pc + 2) ls (.ref q :: rest)) := by
    intro q cA H1 hc hP1 hD1 hS1
    subst hc
    exact kk q H1 (P_mem hP1 (fun z hz => (mv1 _ _ _).mem_iff.mpr hz)) (D_perm hD1 (mv1 _ _ _)) hS1
  rcases hk with ⟨rfl, rfl, rfl⟩ | ⟨rfl, rfl, rfl⟩
  · refine va_newa hx hb (hts _ (tblG_of (by decide +kernel) rfl)) (ty := .int) rfl hK hP hD hS hA (a0 := (N, .inl fun _ => 0)) (fun cA => rfl) hn hN (show N * 4 ≤ 536870912 by omega) hcells hslots hd (fun q cA H1 hK1 hP1 hD1 hS1 => ?_)
    refine fin q cA H1 ?_ hP1 hD1 hS1
    have h1 : s.vm.findClass ("[" ++ (FieldType.int).toString) = some cA := (hK1.2 3 _ rfl).2
    have h2 : s.vm.findClass ("[" ++ (FieldType.int).toString) = some (kx 0) := (hK.2 0 _ rfl).2
    exact Option.some.inj (h1.symm.trans h2)
  · refine va_newa hx hb (hts _ (tblG_of (by decide +kernel) rfl)) (ty := .boolean) rfl hK hP hD hS hA (a0 := (N, .inl fun _ => 0)) (fun cA => rfl) hn hN (show N * 1 ≤ 536870912 by omega) hcells hslots hd (fun q cA H1 hK1 hP1 hD1 hS1 => ?_)
    refine fin q cA H1 ?_ hP1 hD1 hS1
    have h1 : s.vm.findClass ("[" ++ (FieldType.boolean).toString) = some cA := (hK1.2 3 _ rfl).2
    have h2 : s.vm.findClass ("[" ++ (FieldType.boolean).toString) = some (kx 1) := (hK.2 1 _ rfl).2
    exact Option.some.inj (h1.symm.trans h2)
/-- a field is given its value -/
theorem ptF {a ci k i : Nat} {fs : List Value} {tail : va_W} {v : Value} {ty : FieldType} (X : CB p s m args c x kx D A) (hname : meth.name = "<init>") (hch : chF (owM x) i ci k = true) (hdecl : (TN ci k).1 = RN (owM x)) (hty : tyN ci k = ty) (hn : narrow ty v = v) (hfit : fits ty v = true) (hl : k < fs.length) (hP : va_P D vwCl ((a, .inr (ci, fs)) :: tail) H) (hD : va_D A ((a, .inr (ci, fs)) :: tail)) (hS : va_S A s.heap H locs) (hd : decode (bM x) pc = .ok (.putfield i, 3)) (kk : ∀ (H1 : Heap) (locs1 : List Loc), va_P D vwCl ((a, .inr (ci, fs.set k v)) :: tail) H1 → va_D A ((a, .inr (ci, fs.set k v)) :: tail) → va_S A s.heap H1 locs1 → W p l e R s m args below meth c H1 locs1 cells slots Q (F0 m (pc + 3) ls rest)) : W p l e R s m args below meth c H locs cells slots Q (F0 m pc ls (v :: .ref a :: rest)) := by
  obtain ⟨⟨hx, hb, hml⟩, hts, hown, hK, hA⟩ := X
  obtain ⟨g1, g2, g3⟩ := chF_ok hch
  cases hfin : (TN ci k).2.2.2 with
  | false => exact va_put hx hb hts (inG g2) (tyN ci) (tyN_ok ci g2) (nmN ci g2) hown hK hP hD hS 0 rfl (cls_at g2) k g3 (hts _ g1) (fun _ z => z) hfin (ty := ty) (by rw [tyN_ok ci g2 k g3, hty]) hn hfit hl hd kk
  | true => exact va_putF hx hb hts (inG g2) (tyN ci) (tyN_ok ci g2) (nmN ci g2) hown hK hP hD hS 0 rfl (cls_at g2) k g3 (hts _ g1) (fun _ z => z) hfin hname hdecl (ty := ty) (by rw [tyN_ok ci g2 k g3, hty]) hn hfit hl hd kk
/-- a place of the array made last is written -/
theorem ias {q n : Nat} {f : Nat → Int32} {e0 : Nat × va_E} {tail : va_W} {i z : Int32} (X : CB p s m args c x kx D A) (hin : vp_in i n) (hP : va_P D vwCl (e0 :: (q, .inl (kx 0, n, .inl f)) :: tail) H) (hD : va_D A (e0 :: (q, .inl (kx 0, n, .inl f)) :: tail)) (hS : va_S A s.heap H locs) (hd : decode (bM x) pc = .ok (.iastore, 1)) (kk : ∀ (H1 : Heap) (locs1 : List Loc), va_P D vwCl (e0 :: (q, .inl (kx 0, n, .inl (upd f i.toNatClampNeg z))) :: tail) H1 → va_D A (e0 :: (q, .inl (kx 0, n, .inl (upd f i.toNatClampNeg z))) :: tail) → va_S A s.heap H1 locs1 → W p l e R s m args below meth c H1 locs1 cells slots Q (F0 m (pc + 1) ls rest)) : W p l e R s m args below meth c H locs cells slots Q (F0 m pc ls (.int z :: .int i :: .ref q :: rest)) := by
  obtain ⟨⟨hx, hb, hml⟩, hts, hown, hK, hA⟩ := X
  exact va_iast hx hb hK hP hD hS 1 0 rfl rfl hin hd kk
/-- Object's own -/
theorem obI {a i : Nat} (X : CB p s m args c x kx D A) (hlk : Cond.methodLink (RN (owM x)) i Lib.objectInit ∈ tblG) (hls : ls.size = mlM x) (hR1 : 1 ≤ R.frames) (hR2 : (rest.map fun v => v.category).sum + 12 ≤ R.locals) (hd : decode (bM x) pc = .ok (.invokespecial i, 3)) (kk : W p l e R s m args below meth c H locs cells slots Q (F0 m (pc + 3) ls rest)) : W p l e R s m args below meth c H locs cells slots Q (F0 m pc ls (.ref a :: rest)) := by
  obtain ⟨⟨hx, hb, hml⟩, hts, hown, hK, hA⟩ := X
  exact W.objInit hx hb hown (hts _ hlk) (hts _ (tblG_of (by decide +kernel) rfl)) (hts _ (tblG_of (by decide +kernel) rfl)) rfl (by rw [hml]; exact hls) rfl hd hR1 (by show 2 * 0 + _ + 12 ≤ _; omega) kk
/-- a new object -/
theorem nwO {ci i : Nat} {fs : List Value} {ws : va_W} (X : CB p s m args c x kx D A) (hc : ci < 13) (hlk : Cond.classLink (RN (owM x)) i (RN ci) ∈ tblG) (hin : Cond.instantiable (RN ci) (NN ci) ∈ tblG) (hini : Cond.initialized (RN ci) ∈ tblG) (hfs : ∀ j, j < NN ci → defaultValue (tyN ci j) = vp_V fs j) (hcells : cells + 1 ≤ R.cells) (hslots : slots + NN ci ≤ R.slots) (hP : va_P D vwCl ws H) (hD : va_D A ws) (hS : va_S A s.heap H locs) (hd : decode (bM x) pc = .ok (.new i, 3)) (kk : ∀ (q : Nat) (H1 : Heap), va_P D vwCl (ws ++ [(q, .inr (ci, fs))]) H1 → va_D A (ws ++ [(q, .inr (ci, fs))]) → va_S A s.heap H1 locs → W p l e R s m args below meth c H1 locs (cells + 1) (slots + NN ci) Q (F0 m (pc + 3) ls (.ref q :: rest))) : W p l e R s m args below meth c H locs cells slots Q (F0 m pc ls rest) := by
  obtain ⟨⟨hx, hb, hml⟩, hts, hown, hK, hA⟩ := X
  exact va_new hx hb hts (inG hc) (tyN ci) (tyN_ok ci hc) hown (hts _ hlk) (hts _ hin) (hts _ hini) hK hP hD hS hA (cls_at hc) hfs hcells hslots hd kk
end
