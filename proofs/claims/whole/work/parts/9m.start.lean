/-! what the start gives, and the walk to the loop -/
noncomputable def srB : Cond → Bool
  | .stringRef own i tx => decide ((own = "RottenSeats$Tape" ∧ i = 16 ∧ tx = "hpgdy") ∨ (own = "RottenSeats$Tape" ∧ i = 28 ∧ tx = "abcd"))
  | _ => true
theorem sr_all : lw_tbl.all srB = true := by decide +kernel
theorem sr_of {own tx : String} {i : Nat} (h : Cond.stringRef own i tx ∈ lw_tbl) : (own = "RottenSeats$Tape" ∧ i = 16 ∧ tx = "hpgdy") ∨ (own = "RottenSeats$Tape" ∧ i = 28 ∧ tx = "abcd") := of_decide_eq_true (List.all_eq_true.mp sr_all _ h)
def pick3 (c0 c1 c2 : ClassId) : Nat → ClassId
  | 0 => c0
  | 1 => c1
  | _ => c2
theorem start_kx {args : Array Value} {s : State} (hts : ∀ w ∈ lw_tbl, w.before args s = true) : ∃ kx : Nat → ClassId, ∀ (k : Nat) (q : ClassId × FieldType), (tys0 kx)[k]? = some q → ArrOfT s q.1 q.2 ∧ va_RA s q.1 q.2 := by
  obtain ⟨c0, k0, m0, a0, b0, d0⟩ := Cond.arrayClass_spec (args := args) (first := s) (o := none) (s := s) (idx := []) (hts (.arrayClass .int) (by decide +kernel))
  obtain ⟨c1, k1, m1, a1, b1, d1⟩ := Cond.arrayClass_spec (args := args) (first := s) (o := none) (s := s) (idx := []) (hts (.arrayClass .boolean) (by decide +kernel))
  obtain ⟨m2, c2, k2, -, b2, d2, a2⟩ := Cond.arrayOver_specA (args := args) (first := s) (o := none) (s := s) (idx := []) (hts (.arrayOver (.array .int)) (by decide +kernel))
  refine ⟨pick3 c0 c1 c2, fun k q h => ?_⟩
  match k, h with
  | 0, h => cases h; exact ⟨fun n z => ⟨fun j hj => (by cases hj), k0, b0, m0, d0⟩, a0⟩
  | 1, h => cases h; exact ⟨fun n z => ⟨fun j hj => (by cases hj), k1, b1, m1, d1⟩, a1⟩
  | 2, h => cases h; exact ⟨fun n z => ⟨fun j hj => (by cases hj), k2, b2, m2, d2⟩, a2⟩
  | k + 3, h => simp [tys0] at h
theorem inst_all : ∀ k, k < 13 → Cond.instantiable (RN k) (NN k) ∈ lw_tbl := by decide +kernel
theorem start_D {args : Array Value} {s : State} (hts : ∀ w ∈ tblG, w.before args s = true) (hts2 : ∀ w ∈ lw_tbl, w.before args s = true) : ∃ D : va_G, ∀ (c : Nat) (q : vw_C), vwCl[c]? = some q → u_Kn s q.1 q.2.1 q.2.2 (D.1 c) (D.2 c) := by
  have h : ∀ k : Nat, ∃ d : ClassId × (Nat → Nat), k < 13 → u_Kn s (RN k) (TN k) (NN k) d.1 d.2 := by
    intro k
    by_cases hk : k < 13
    · obtain ⟨cC, iS, h⟩ := u_known (n := NN k) hts (inG hk) (hts2 _ (inst_all k hk))
      exact ⟨(cC, iS), fun _ => h⟩
    · exact ⟨(0, fun _ => 0), fun h => absurd h hk⟩
  obtain ⟨d, hd⟩ := Classical.axiomOfChoice h
  refine ⟨(fun k => (d k).1, fun k => (d k).2), fun c q hq => ?_⟩
  have hc : c < 13 := (List.getElem?_eq_some_iff.mp hq).1
  rw [cls_at hc] at hq
  cases hq
  exact hd c hc
def tmS (i : Nat) : Term := if i = 0 then .string "RottenSeats$Tape" 16 else .string "RottenSeats$Tape" 28
def lnS : List Nat := [5, 4]
def byS : List (List Int32) := [[104, 112, 103, 100, 121], [97, 98, 99, 100]]
theorem start_S {args : Array Value} {s : State} {A : Nat → Prop} (hg : (Jvm.Cond.and given_1 narrow_1).before args s = true) (hA : ∀ a : Nat, a < s.heap.size → ¬ A a) : ∃ adK adV : Nat → Nat, vk_S 2 lnS byS adK adV A s s.heap ∧ ∀ i : Nat, i < 2 → (tmS i).eval args s none [] s = some (.ref (adK i)) := by
  have hs := flat_of_before _ hg
  refine vk_Sof ?_ ?_ ?_ ?_ ?_ ?_ ?_ hA
  · intro i hi
    rcases (show i = 0 ∨ i = 1 by omega) with rfl | rfl <;> decide
  · intro i hi
    rcases (show i = 0 ∨ i = 1 by omega) with rfl | rfl
    · exact hs _ (by decide +kernel)
    · exact hs _ (by decide +kernel)
  · intro i hi
    rcases (show i = 0 ∨ i = 1 by omega) with rfl | rfl
    · exact hs _ (by decide +kernel)
    · exact hs _ (by decide +kernel)
  · intro i hi
    rcases (show i = 0 ∨ i = 1 by omega) with rfl | rfl
    · exact hs _ (by decide +kernel)
    · exact hs _ (by decide +kernel)
  · intro i hi
    rcases (show i = 0 ∨ i = 1 by omega) with rfl | rfl
    · exact hs _ (by decide +kernel)
    · exact hs _ (by decide +kernel)
  · intro i hi j hj
    rcases (show i = 0 ∨ i = 1 by omega) with rfl | rfl
    · have hj : j < 5 := hj
      rcases (show j = 0 ∨ j = 1 ∨ j = 2 ∨ j = 3 ∨ j = 4 by omega) with rfl | rfl | rfl | rfl | rfl
      · exact hs _ (by decide +kernel)
      · exact hs _ (by decide +kernel)
      · exact hs _ (by decide +kernel)
      · exact hs _ (by decide +kernel)
      · exact hs _ (by decide +kernel)
    · have hj : j < 4 := hj
      rcases (show j = 0 ∨ j = 1 ∨ j = 2 ∨ j = 3 by omega) with rfl | rfl | rfl | rfl
      · exact hs _ (by decide +kernel)
      · exact hs _ (by decide +kernel)
      · exact hs _ (by decide +kernel)
      · exact hs _ (by decide +kernel)
  · intro i j hi hj hij
    rcases (show i = 0 ∧ j = 1 ∨ i = 1 ∧ j = 0 by omega) with ⟨rfl, rfl⟩ | ⟨rfl, rfl⟩
    · exact Or.inl (hs _ (by decide +kernel))
    · exact Or.inr (hs _ (by decide +kernel))
theorem va_T_cg {ty : FieldType} {t N : Nat} {f g : Nat → Value} {A : Nat → Prop} {U : State} {H : Heap} (h : va_T ty t N f A U H) (e : ∀ j, j < N → f j = g j) : va_T ty t N g A U H := by
  obtain ⟨cell, b1, b2, b3, b4, b5, b6, b7⟩ := h
  exact ⟨cell, b1, b2, b3, b4, b5, fun j hj => by rw [← e j hj]; exact b6 j hj, b7⟩
theorem start_SFX {args : Array Value} {s : State} {A : Nat → Prop} {ad adK adV : Nat → Nat} {kx : Nat → ClassId} {D : va_G} (hts : ∀ w ∈ lw_tbl, w.before args s = true) (hg : (Jvm.Cond.and given_1 narrow_1).before args s = true) (hA : ∀ a : Nat, a < s.heap.size → ¬ A a) (hK : va_K D vwCl (tys0 kx) s) (hE : vk_S 2 lnS byS adK adV A s s.heap) (hev : ∀ i : Nat, i < 2 → (tmS i).eval args s none [] s = some (.ref (adK i))) (h0 : ad 1000 = adK 0) (h1 : ad 1001 = adK 1) (h2 : ad 1002 = adV 0) (h3 : ad 1003 = adV 1) : SFX ad kx D A s s.heap := by
  have hs := flat_of_before _ hg
  refine ⟨fun i hi => ?_, ?_, ?_, fun own i tx h => ?_, hK⟩
  · rcases (show i = 0 ∨ i = 1 by omega) with rfl | rfl
    · obtain ⟨a1, a2, a3, a4⟩ := hE.1 0 (by decide)
      have e0 : ad (1000 + 0) = adK 0 := h0
      have e2 : ad (1002 + 0) = adV 0 := h2
      rw [e0, e2]
      refine ⟨a1, a2, a3, va_T_cg a4 (fun j hj => ?_)⟩
      have hj : j < 5 := hj
      rcases (show j = 0 ∨ j = 1 ∨ j = 2 ∨ j = 3 ∨ j = 4 by omega) with rfl | rfl | rfl | rfl | rfl <;> decide +kernel
    · obtain ⟨a1, a2, a3, a4⟩ := hE.1 1 (by decide)
      have e0 : ad (1000 + 1) = adK 1 := h1
      have e2 : ad (1002 + 1) = adV 1 := h3
      rw [e0, e2]
      refine ⟨a1, a2, a3, va_T_cg a4 (fun j hj => ?_)⟩
      have hj : j < 4 := hj
      rcases (show j = 0 ∨ j = 1 ∨ j = 2 ∨ j = 3 by omega) with rfl | rfl | rfl | rfl <;> decide +kernel
  · exact va_Zof (hts (.laysStatic "java/lang/String" "COMPACT_STRINGS" "Z") (by decide +kernel)) (hts (.initialized "java/lang/String") (by decide +kernel)) (va_eqi (hs _ (by decide +kernel))) hA
  · exact va_Zqof (hts (.laysStatic "jdk/internal/util/Preconditions" "SIOOBE_FORMATTER" "Ljava/util/function/BiFunction;") (by decide +kernel)) (hts (.initialized "jdk/internal/util/Preconditions") (by decide +kernel)) (hs _ (by decide +kernel)) hA
  · rcases sr_of h with ⟨rfl, rfl, rfl⟩ | ⟨rfl, rfl, rfl⟩
    · exact ⟨fun _ => vk_R.of (hts _ h) (by rw [h0]; exact hev 0 (by decide)), fun q => absurd q (by decide)⟩
    · exact ⟨fun q => absurd q (by decide), fun _ => vk_R.of (hts _ h) (by rw [h1]; exact hev 1 (by decide))⟩
theorem start_NF {args : Array Value} {s : State} {adK : Nat → Nat} (hts : ∀ w ∈ lw_tbl, w.before args s = true) (hev : ∀ i : Nat, i < 2 → (tmS i).eval args s none [] s = some (.ref (adK i))) : NF (adK 0) s := by
  refine ⟨over_moved (a := args) (a' := #[]) (Vm.Alike.refl _) (hts (.arrayOver (.array .int)) (by decide +kernel)), fun own i y h q => va_Nw.of rfl (hts _ q), fun own i tx q t => ?_⟩
  rcases sr_of q with ⟨rfl, rfl, rfl⟩ | ⟨rfl, rfl, rfl⟩
  · exact vk_R.of (hts _ q) (hev 0 (by decide))
  · exact absurd t (by decide)
theorem code247 : code = bM 247 := rfl
theorem own247 : RN (owM 247) = R_law := by decide +kernel
theorem lsz247 : (4 : Nat) = mlM 247 := by decide +kernel
set_option maxHeartbeats 4000000 in
set_option maxRecDepth 20000 in
theorem whole_start {p : Program} {e : Env} {s : State} {m : MethodId} {below : List Frame} {meth : Method} {c : Code} (l : Launch) (hflags : l.flags = flags0) {b L : Nat} {xs : Nat → Int32} (hL : L ≤ 384) (C0 : lw_At p s m meth c b L xs) : W p l e room_1 s m #[Value.ref b] below meth c s.heap [] 0 0 (lw_Z below #[Value.ref b] s) (entryFrame m ([Value.ref b] : List Value).toArray 4) := by
  obtain ⟨hx, hb, hr, hml, hown, hts, hX, hbl, hlocks, hgv⟩ := id C0
  obtain ⟨A, hAi⟩ : ∃ A : Nat → Prop, ∀ q, A q ↔ s.heap.size ≤ q := ⟨fun q => s.heap.size ≤ q, fun _ => Iff.rfl⟩
  have hA : ∀ q, s.heap.size ≤ q → A q := fun q h => (hAi q).mpr h
  have hn : ∀ q, q < s.heap.size → ¬ A q := fun q h z => absurd ((hAi q).mp z) (Nat.not_le.mpr h)
  obtain ⟨kx, hkx⟩ := start_kx hts
  have htg : ∀ w ∈ tblG, w.before #[Value.ref b] s = true := fun w hw => hts w (List.mem_filter.mp hw).1
  obtain ⟨D, hDk⟩ := start_D htg hts
  have hK : va_K D vwCl (tys0 kx) s := ⟨hDk, hkx⟩
  obtain ⟨adK, adV, hE, hev⟩ := start_S hgv hn
  have hN : NF (adK 0) s := start_NF hts hev
  have hS : va_S A s.heap s.heap [] := va_S.rf
  have hP : va_P D vwCl [] s.heap := fun k q h => by simp at h
  have hD : va_D A [] := ⟨fun i j p q h => by simp at h, fun k q h => by simp at h⟩
  have hb' : c.code = bM 247 := hb.trans code247
  have hml' : c.maxLocals = mlM 247 := hml.trans lsz247
  have hown' : s.vm.findClass (RN (owM 247)) = some m.cls := by rw [own247]; exact hown
  have X : CB p s m #[Value.ref b] c 247 kx D A := ⟨⟨hx, hb', hml'⟩, htg, hown', hK, hA⟩
  have hl := lv_entry ([.ref b] : List Value) (n := 4) (Nat.le_of_ble_eq_true rfl)
  rw [lg_entry_eq]
  generalize (lg_sl ([.ref b] : List Value) ++ List.replicate (4 - (lg_sl ([.ref b] : List Value)).length) Slot.unset).toArray = ls at hl ⊢
  have hl : lv_has ls 4 [(0, .ref b)] := hl
  refine nwO (ci := 11) (i := 7) (fs := [.null, .null, .null, .null, .null, .null, .null, .null, .null, .null, .null, .null, .null, .null, .int 0, .int 0]) X (by decide) (tblG_of (by decide +kernel) rfl) (tblG_of (by decide +kernel) rfl) (tblG_of (by decide +kernel) rfl) (by decide +kernel) (by decide +kernel) (by decide +kernel) hP hD hS (by decide +kernel) (fun R H1 hP hD hS => ?_)
  refine lv_dup hx hb' (by decide +kernel) rfl ?_
  refine ctO (i := 9) (k := 0) (ci := 11) (a := R) (rest := [.ref R]) X hN ct0 (by decide +kernel) (tblG_of (by decide +kernel) rfl) (hl.1.trans lsz247) (Nat.le_of_ble_eq_true rfl) (by decide +kernel) (by decide +kernel) (by decide +kernel) (by decide +kernel) (by decide +kernel) hP hD hS (fun q H2 locs2 hP hD hS => ?_)
  refine lv_astore_n (k := 1) (i := 1) (lv' := [(1, .ref R), (0, .ref b)]) hx hb' (by decide +kernel) rfl hl (by decide) rfl (fun ls hl => ?_)
  refine nwO (ci := 12) (i := 10) (fs := FM0) X (by decide) (tblG_of (by decide +kernel) rfl) (tblG_of (by decide +kernel) rfl) (tblG_of (by decide +kernel) rfl) (by decide +kernel) (by decide +kernel) (by decide +kernel) hP hD hS (by decide +kernel) (fun M H3 hP hD hS => ?_)
  refine lv_dup hx hb' (by decide +kernel) rfl ?_
  refine ctO (i := 12) (k := 156) (ci := 12) (a := M) (rest := [.ref M]) X hN ct156 (by decide +kernel) (tblG_of (by decide +kernel) rfl) (hl.1.trans lsz247) (Nat.le_of_ble_eq_true rfl) (by decide +kernel) (by decide +kernel) (by decide +kernel) (by decide +kernel) (by decide +kernel) hP hD hS (fun q' H4 locs4 hP hD hS => ?_)
  refine lv_astore_n (k := 2) (i := 2) (lv' := [(2, .ref M), (1, .ref R), (0, .ref b)]) hx hb' (by decide +kernel) rfl hl (by decide) rfl (fun ls hl => ?_)
  refine lv_iconst (n := 0) (v := 0) hx hb' (by decide +kernel) (by decide) ?_
  refine lv_istore_n (k := 3) (i := 3) (lv' := [(3, .int 0), (2, .ref M), (1, .ref R), (0, .ref b)]) hx hb' (by decide +kernel) rfl hl (by decide) rfl (fun ls hl => ?_)
  refine W.widen (k := 600000) (n := 7302250) (by decide +kernel) (by decide +kernel) ?_
  obtain ⟨hPc, hDc⟩ := start_world (s0 := adK 0) (s1 := adK 1) (v0 := adV 0) (v1 := adV 1) (b := b) hP hD
  generalize hade : adF R M q q' (adK 0) (adK 1) (adV 0) (adV 1) b = ad at hPc hDc
  have a0 : ad 1000 = adK 0 := by rw [← hade]; rfl
  have a1 : ad 1001 = adK 1 := by rw [← hade]; rfl
  have a2 : ad 1002 = adV 0 := by rw [← hade]; rfl
  have a3 : ad 1003 = adV 1 := by rw [← hade]; rfl
  have a4 : ad 2000 = b := by rw [← hade]; rfl
  have a5 : ad 11 = R := by rw [← hade]; rfl
  have a6 : ad 12 = M := by rw [← hade]; rfl
  have hF : SFX ad kx D A s s.heap := start_SFX hts hgv hn hK hE hev a0 a1 a2 a3
  have hFo : SFok (SFX ad kx D) := SFX_ok ad kx D
  have hZ : ZOK (SFX ad kx D) l ad kx D := zok
  have hsc : scOK ad A s (some ((L : Int), fun j => (xs j).toInt)) := by
    intro L' xs' h
    cases h
    refine ⟨?_, by rw [a4]; exact hbl, by rw [a4]; exact hn b hbl, ?_, Int.natCast_nonneg L, fun i => in32_ti _⟩
    · have e1 : (fun i => Int32.ofInt ((fun j => (xs j).toInt) i)) = xs := funext fun i => oi_ti _
      rw [e1, a4]
      exact hX
    · unfold in32
      omega
  have hd18 : ∀ pc, decode (bM 247) pc = .ok (.ireturn, 1) → decode code pc = .ok (.ireturn, 1) := fun pc h => by rw [code247]; exact h
  have CXX : CX p l e room_1 s m #[Value.ref b] below meth c 600000 7302250 (lw_Z below #[Value.ref b] s) ad kx D A 4 (SFX ad kx D) 247 (some ((L : Int), fun j => (xs j).toInt)) (Cal 30) (rmD 30) (fun o _ => o = some (.inl 1)) := by
    refine ⟨⟨hx, hb', hml, htg, hown'⟩, ⟨hK, hA, hsc⟩, ⟨hFo, hF, cal_met hFo hZ 30⟩, ⟨rfl, rfl, by decide, by decide, by decide, by decide⟩, ⟨by decide, by decide +kernel⟩, ⟨?_, ?_⟩, hZ p e room_1 s m _ below meth c _ _ _ A 4 247 ⟨hx, hb', hml, htg, hown'⟩ hA hF (by decide) (by decide) (by decide) (by decide)⟩
    · intro pc v w lsB hd _ hq hw hst hls hnl H locs lsA hP hD hS hL9
      injection hq with hq
      injection hq with hq
      subst hq
      show W p l e room_1 s m #[Value.ref b] below meth c H locs 600000 7302250 (lw_Z below #[Value.ref b] s) (F0 m pc lsA [.int 1])
      refine va_forget (fun q hq => (hAi _).mp (hS.2.2 q hq)) ?_
      exact lw_ret hx hb hr hlocks (hd18 pc hd)
    · intro pc w lsB hd h
      exact absurd h (by decide +kernel)
  have hEv := law_loop (Q := fun o _ => o = some (.inl 1)) hL (xs := fun j => (xs j).toInt) (fun j => in32_ti _) (fun _ => rfl) L 0 w0 (by omega) (Nat.zero_le _) w0_OK
  have hSat := ev_ok CXX hEv
  refine hSat w0_wf (fun v hv => absurd hv List.not_mem_nil) (fun j v hv => ?_) rfl H4 locs4 ls hPc hDc hS (lv_sub hl [3, 2, 1, 0] ?_)
  · have hv := List.mem_of_getElem? hv
    rcases List.mem_cons.mp hv with h | hv
    · cases h
      exact trivial
    rcases List.mem_cons.mp hv with h | hv
    · cases h
      exact trivial
    rcases List.mem_cons.mp hv with h | hv
    · cases h
      exact trivial
    rcases List.mem_cons.mp hv with h | hv
    · cases h
      exact in32_0
    · exact absurd hv List.not_mem_nil
  · show [(0, Value.ref b), (1, Value.ref R), (2, Value.ref M), (3, Value.int 0)] = [(0, Value.ref (ad 2000)), (1, Value.ref (ad 11)), (2, Value.ref (ad 12)), (3, Value.int (Int32.ofInt ((0 : Nat) : Int)))]
    rw [a4, a5, a6]
    rfl
