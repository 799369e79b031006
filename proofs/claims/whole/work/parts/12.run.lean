/-! the whole step, the whole run, and a method's contract -/
def CX (p : Program) (l : Launch) (e : Env) (R : Room) (s : State) (m : MethodId) (args : Array Value) (below : List Frame) (meth : Method) (c : Code) (cells slots : Nat) (QW : State → Prop) (ad : Nat → Nat) (kx : Nat → ClassId) (D : va_G) (A : Nat → Prop) (nL : Nat) (SF : SFT) (k : Nat) (sc : SC) (C : CT) (rm : Room) (Q : Option AV → Wd → Prop) : Prop :=
  (p.tables.exec = Jvm.exec ∧ c.code = bM k ∧ c.maxLocals = nL ∧ (∀ w ∈ tblG, w.before args s = true) ∧ s.vm.findClass (RN (owM k)) = some m.cls) ∧
  (va_K D vwCl (tys0 kx) s ∧ (∀ q, s.heap.size ≤ q → A q) ∧ scOK ad A s sc) ∧ (SFok SF ∧ SF A s s.heap ∧ HC SF l ad kx D C rm) ∧
  (rm.cells = 0 ∧ rm.slots = 0 ∧ rm.frames + 1 ≤ R.frames ∧ 64 + rm.locals ≤ R.locals ∧ cells ≤ R.cells ∧ slots ≤ R.slots) ∧ (k < 248 ∧ skM k = false) ∧
  ((∀ pc v w ls, decode (bM k) pc = .ok (.ireturn, 1) → (rM k = some .boolean ∧ (v = 0 ∨ v = 1) ∨ rM k = some .int) → Q (some (.inl v)) w → SAT p l e R s m args below meth c cells slots QW ad kx D A nL (pc, ls, [.inl v], w)) ∧
   (∀ pc w ls, decode (bM k) pc = .ok (.return_, 1) → rM k = none → Q none w → SAT p l e R s m args below meth c cells slots QW ad kx D A nL (pc, ls, [], w))) ∧
  ((∀ pc i ls st w q, decode (bM k) pc = .ok (.invokevirtual i, 3) → Cond.methodLink (RN (owM k)) i ⟨"java/lang/String", "length", "()I"⟩ ∈ tblG → okr st = true → (q = 1000 ∨ q = 1001) → SAT p l e R s m args below meth c cells slots QW ad kx D A nL (pc + 3, ls, .inl (if q = 1000 then 5 else 4) :: st, w) → SAT p l e R s m args below meth c cells slots QW ad kx D A nL (pc, ls, .inr (.inr q) :: st, w)) ∧
   (∀ pc i ls st w q z, decode (bM k) pc = .ok (.invokevirtual i, 3) → Cond.methodLink (RN (owM k)) i ⟨"java/lang/String", "charAt", "(I)C"⟩ ∈ tblG → okr st = true → (q = 1000 ∧ 0 ≤ z ∧ z < 5 ∨ q = 1001 ∧ 0 ≤ z ∧ z < 4) → SAT p l e R s m args below meth c cells slots QW ad kx D A nL (pc + 3, ls, .inl (chA q z) :: st, w) → SAT p l e R s m args below meth c cells slots QW ad kx D A nL (pc, ls, .inl z :: .inr (.inr q) :: st, w)) ∧
   (∀ pc i ls st w q tx, decode (bM k) pc = .ok (.ldc i, 2) → Cond.stringRef (RN (owM k)) i tx ∈ lw_tbl → (q = 1000 ∧ tx = "hpgdy" ∨ q = 1001 ∧ tx = "abcd") → SAT p l e R s m args below meth c cells slots QW ad kx D A nL (pc + 2, ls, .inr (.inr q) :: st, w) → SAT p l e R s m args below meth c cells slots QW ad kx D A nL (pc, ls, st, w)))
theorem mlM_ok : ∀ k, k < 248 → mlM k ≤ 40 := by decide +kernel
theorem cd_ge {k pc : Nat} (h : ¬ pc < clM k) : cd k pc = (.nop, 0, 0, 0) := by
  unfold cd
  have : Nat.blt pc (clM k) = false := by
    cases hb : Nat.blt pc (clM k) with
    | false => rfl
    | true => exact absurd (nlt hb) h
  rw [this]
  rfl
section RUN
variable {p : Program} {l : Launch} {e : Env} {R : Room} {s : State} {m : MethodId} {args : Array Value} {below : List Frame} {meth : Method} {c : Code} {cells slots : Nat} {QW : State → Prop} {ad : Nat → Nat} {kx : Nat → ClassId} {D : va_G} {A : Nat → Prop} {nL : Nat} {SF : SFT} {k : Nat} {sc : SC} {C : CT} {rm : Room} {Q : Option AV → Wd → Prop}
theorem step_ok (X : CX p l e R s m args below meth c cells slots QW ad kx D A nL SF k sc C rm Q) (s0 : AS) (h : stepP sc C (cd k) Q (SAT p l e R s m args below meth c cells slots QW ad kx D A nL) s0) : SAT p l e R s m args below meth c cells slots QW ad kx D A nL s0 := by
  obtain ⟨⟨hx, hb, hml, hts, hown⟩, ⟨hK, hA, hsc⟩, ⟨hF, hSF, hC⟩, ⟨r1, r2, r3, r4, r5, r6⟩, ⟨hk, hsk⟩, ⟨q1, q2⟩, ⟨z1, z2, z3⟩⟩ := X
  obtain ⟨pc, ls, st, w⟩ := s0
  unfold stepP at h
  dsimp only at h
  cases hz : Nat.beq (cd k pc).2.1 0 with
  | true => rw [hz] at h; exact h.elim
  | false =>
    rw [hz] at h
    simp only [cond_false] at h
    have hpc : pc < clM k := by
      by_cases q : pc < clM k
      · exact q
      · rw [cd_ge q] at hz; cases hz
    have hE := ok_b k hk pc hpc
    have hL := okL_ok k hk pc hpc
    unfold okE at hE
    unfold okL at hL
    rw [hz, hsk] at hE hL
    simp only [cond_false, Bool.and_eq_true, Bool.or_eq_true, Bool.false_eq_true, false_or] at hE hL
    obtain ⟨hd, hch⟩ := hE
    have hd := of_decide_eq_true hd
    have hmax : ∀ x, x < 248 → 8 + (mlM x + 11) + rm.locals ≤ R.locals := fun x hx48 => by have := mlM_ok x hx48; omega
    generalize cd k pc = en at h hd hL hch
    obtain ⟨ins, len, x, y⟩ := en
    dsimp only at h hd hL hch
    have hlen : isSw ins = false → len = lenI ins := fun q => by
      rcases hL with z | z
      · rw [q] at z; cases z
      · exact nb z
    cases ins with
    | iconst n =>
      obtain rfl := hlen rfl
      simp only [chE, Bool.and_eq_true, decide_eq_true_eq] at hch
      exact sn_iconst hx hb hch.1 hch.2 hd h
    | bipush n =>
      obtain rfl := hlen rfl
      simp only [chE, Bool.and_eq_true, decide_eq_true_eq] at hch
      exact sn_bipush hx hb hch.1 hch.2.1 hch.2.2 hd h
    | sipush n =>
      obtain rfl := hlen rfl
      simp only [chE, Bool.and_eq_true, decide_eq_true_eq] at hch
      exact sn_sipush hx hb hch.1 hch.2.1 hch.2.2 hd h
    | ldc i =>
      obtain rfl := hlen rfl
      simp only [chE] at hch
      dsimp only at h
      cases h0 : Nat.beq y 0 with
      | true =>
        rw [h0] at hch h
        simp only [cond_true, Bool.and_eq_true, decide_eq_true_eq] at hch h
        intro hw hst hls hnl H locs lsA hP hD hS hLL
        have hxx : in32 (x : Int) := by have := nlt hch.2; unfold in32; omega
        have e1 : Int32.ofNat x = Int32.ofInt (x : Int) := by have := ofN hxx (by omega); rwa [Int.toNat_natCast] at this
        refine lv_ldc (v := Int32.ofInt (x : Int)) hx hb hown (by rw [← e1]; exact hts _ (tblG_at hch.1 rfl)) hd ?_
        exact h hw (fa_cons (show okA (.inl (x : Int)) from hxx) hst) hls hnl H locs lsA hP hD hS hLL
      | false =>
        rw [h0] at hch h
        simp only [cond_false] at hch h
        cases h1 : Nat.beq y 1000 with
        | true =>
          rw [h1] at hch
          simp only [cond_true, decide_eq_true_eq] at hch
          have := nb h1
          subst this
          exact z3 pc i ls st w 1000 _ hd (List.mem_of_getElem? hch) (Or.inl ⟨rfl, rfl⟩) h
        | false =>
          rw [h1] at hch
          simp only [cond_false, Bool.and_eq_true, decide_eq_true_eq] at hch
          have := nb hch.1
          subst this
          exact z3 pc i ls st w 1001 _ hd (List.mem_of_getElem? hch.2) (Or.inr ⟨rfl, rfl⟩) h
    | ldc_w i =>
      obtain rfl := hlen rfl
      simp only [chE, Bool.and_eq_true, decide_eq_true_eq] at hch
      intro hw hst hls hnl H locs lsA hP hD hS hLL
      have hxx : in32 (x : Int) := by have := nlt hch.2; unfold in32; omega
      have e1 : Int32.ofNat x = Int32.ofInt (x : Int) := by have := ofN hxx (by omega); rwa [Int.toNat_natCast] at this
      refine lv_ldcw (v := Int32.ofInt (x : Int)) hx hb hown (by rw [← e1]; exact hts _ (tblG_at hch.1 rfl)) hd ?_
      exact h hw (fa_cons (show okA (.inl (x : Int)) from hxx) hst) hls hnl H locs lsA hP hD hS hLL
    | ldc2_w i =>
      obtain rfl := hlen rfl
      simp only [chE, Bool.and_eq_true, decide_eq_true_eq] at hch
      intro hw hst hls hnl H locs lsA hP hD hS hLL
      have hxx : in64 (x : Int) := by have := nlt hch.2; unfold in64; omega
      have e1 : Int64.ofNat x = Int64.ofInt (x : Int) := Int64.toInt_inj.mp (by rw [ti64_oi hxx]; exact Int64.toInt_ofNat_of_lt (nlt hch.2))
      refine lv_ldc2 (v := Int64.ofInt (x : Int)) hx hb hown (by rw [← e1]; exact hts _ (tblG_at hch.1 rfl)) hd ?_
      exact h hw (fa_cons (show okA (.inr (.inl (x : Int))) from hxx) hst) hls hnl H locs lsA hP hD hS hLL
    | iload i => obtain rfl := hlen rfl; exact sn_iload hx hb hd h
    | iload_n i => obtain rfl := hlen rfl; exact sn_iload_n hx hb hd h
    | lload_n i => obtain rfl := hlen rfl; exact sn_lload_n hx hb hd h
    | aload i => obtain rfl := hlen rfl; exact sn_aload hx hb hd h
    | aload_n i => obtain rfl := hlen rfl; exact sn_aload_n hx hb hd h
    | istore i => obtain rfl := hlen rfl; exact sn_istore hx hb hd h
    | istore_n i => obtain rfl := hlen rfl; exact sn_istore_n hx hb hd h
    | iinc i n =>
      obtain rfl := hlen rfl
      simp only [chE, Bool.and_eq_true, decide_eq_true_eq] at hch
      exact sn_iinc hx hb hch.1 hch.2 hd h
    | iadd => obtain rfl := hlen rfl; exact sn_iadd hx hb hd h
    | isub => obtain rfl := hlen rfl; exact sn_isub hx hb hd h
    | imul => obtain rfl := hlen rfl; exact sn_imul hx hb hd h
    | idiv => obtain rfl := hlen rfl; exact sn_idiv hx hb hd h
    | irem => obtain rfl := hlen rfl; exact sn_irem hx hb hd h
    | ineg => obtain rfl := hlen rfl; exact sn_ineg hx hb hd h
    | iand => obtain rfl := hlen rfl; exact sn_iand hx hb hd h
    | ior => obtain rfl := hlen rfl; exact sn_ior hx hb hd h
    | ixor => obtain rfl := hlen rfl; exact sn_ixor hx hb hd h
    | ishl => obtain rfl := hlen rfl; exact sn_ishl hx hb hd h
    | ishr => obtain rfl := hlen rfl; exact sn_ishr hx hb hd h
    | iushr => obtain rfl := hlen rfl; exact sn_iushr hx hb hd h
    | i2l => obtain rfl := hlen rfl; exact sn_i2l hx hb hd h
    | l2i => obtain rfl := hlen rfl; exact sn_l2i hx hb hd h
    | land => obtain rfl := hlen rfl; exact sn_land hx hb hd h
    | lor => obtain rfl := hlen rfl; exact sn_lor hx hb hd h
    | lshl => obtain rfl := hlen rfl; exact sn_lshl hx hb hd h
    | lshr => obtain rfl := hlen rfl; exact sn_lshr hx hb hd h
    | dup => obtain rfl := hlen rfl; exact sn_dup hx hb hd h
    | dup2 => obtain rfl := hlen rfl; exact sn_dup2 hx hb hd h
    | iaload => obtain rfl := hlen rfl; exact sn_iaload hK hsc hx hb hd h
    | baload => obtain rfl := hlen rfl; exact sn_baload hK hx hb hd h
    | aaload => obtain rfl := hlen rfl; exact sn_aaload hK hx hb hd h
    | iastore => obtain rfl := hlen rfl; exact sn_iastore hK hx hb hd h
    | bastore => obtain rfl := hlen rfl; exact sn_bastore hK hx hb hd h
    | arraylength => obtain rfl := hlen rfl; exact sn_arraylength hK hsc hx hb hd h
    | getfield i => obtain rfl := hlen rfl; exact sn_getfield hK hts hown hch hx hb hd h
    | putfield i =>
      obtain rfl := hlen rfl
      simp only [chE, Bool.and_eq_true, Bool.not_eq_true'] at hch
      exact sn_putfield hK hts hown hch.1 hch.2 hx hb hd h
    | goto off =>
      obtain rfl := hlen rfl
      have ht : (pc : Int) + off = (x : Int) := of_decide_eq_true hch
      exact sn_goto hx hb ht hd h
    | ifCond cn off =>
      obtain rfl := hlen rfl
      have ht : (pc : Int) + off = (x : Int) := of_decide_eq_true hch
      cases cn
      · exact sn_if_eq hx hb ht hd h
      · exact sn_if_ne hx hb ht hd h
      · exact sn_if_lt hx hb ht hd h
      · exact sn_if_ge hx hb ht hd h
      · exact sn_if_gt hx hb ht hd h
      · exact sn_if_le hx hb ht hd h
    | if_icmp cn off =>
      obtain rfl := hlen rfl
      have ht : (pc : Int) + off = (x : Int) := of_decide_eq_true hch
      cases cn
      · exact sn_icmp_eq hx hb ht hd h
      · exact sn_icmp_ne hx hb ht hd h
      · exact sn_icmp_lt hx hb ht hd h
      · exact sn_icmp_ge hx hb ht hd h
      · exact sn_icmp_gt hx hb ht hd h
      · exact sn_icmp_le hx hb ht hd h
    | tableswitch d lo hi offs =>
      simp only [chE, Bool.and_eq_true, decide_eq_true_eq] at hch
      exact sn_table hch.2.2 hch.1 (fun q hq => of_decide_eq_true (List.all_eq_true.mp hch.2.1 q hq)) hx hb hd h
    | lookupswitch d ps =>
      simp only [chE, Bool.and_eq_true, decide_eq_true_eq] at hch
      exact sn_lookup hch.2.2 hch.1 (fun q hq => of_decide_eq_true (List.all_eq_true.mp hch.2.1 q hq)) hx hb hd h
    | invokevirtual i =>
      obtain rfl := hlen rfl
      simp only [chE] at hch
      dsimp only at h
      cases h0 : Nat.blt x 1000 with
      | true =>
        rw [h0] at hch h
        simp only [cond_true, Bool.and_eq_true, Bool.not_eq_true'] at hch h
        obtain ⟨⟨a1, a2⟩, a3, a4, a5⟩ := hch
        exact sn_callV hF hSF hC r1 r2 r3 (hmax x (nlt a5)) r5 r6 hK hA hml hts hown (tblG_at (of_decide_eq_true a1) rfl) (nb a2) a3 a4 (nlt a5) hx hb hd h
      | false =>
        rw [h0] at hch h
        simp only [cond_false] at hch h
        cases h1 : Nat.beq x 1003 with
        | true =>
          rw [h1] at hch h
          simp only [cond_true] at hch h
          have h9 := pR_ok h
          clear h
          obtain ⟨q, st1, rfl, h⟩ := h9
          cases ho : okr st1 with
          | false => rw [ho] at h; exact h.elim
          | true =>
            rw [ho] at h
            simp only [cond_true] at h
            cases h2 : Nat.beq q 1000 with
            | true =>
              rw [h2] at h
              have := nb h2
              subst this
              exact z1 pc i ls st1 w 1000 hd (chB_ok hch) ho (Or.inl rfl) h
            | false =>
              rw [h2] at h
              simp only [cond_false] at h
              cases h3 : Nat.beq q 1001 with
              | true =>
                rw [h3] at h
                have := nb h3
                subst this
                exact z1 pc i ls st1 w 1001 hd (chB_ok hch) ho (Or.inr rfl) h
              | false => rw [h3] at h; exact h.elim
        | false =>
          rw [h1] at hch h
          simp only [cond_false, Bool.and_eq_true] at hch h
          rw [hch.1] at h
          simp only [cond_true] at h
          have h9 := pI_ok h
          clear h
          obtain ⟨z, st0, rfl, h⟩ := h9
          have h9 := pR_ok h
          clear h
          obtain ⟨q, st1, rfl, h⟩ := h9
          cases ho : okr st1 with
          | false => rw [ho] at h; exact h.elim
          | true =>
            rw [ho] at h
            simp only [cond_true] at h
            cases h2 : Nat.beq q 1000 with
            | true =>
              rw [h2] at h
              have := nb h2
              subst this
              exact z2 pc i ls st1 w 1000 z hd (chB_ok hch.2) ho (Or.inl ⟨rfl, h.1⟩) h.2
            | false =>
              rw [h2] at h
              simp only [cond_false] at h
              cases h3 : Nat.beq q 1001 with
              | true =>
                rw [h3] at h
                have := nb h3
                subst this
                exact z2 pc i ls st1 w 1001 z hd (chB_ok hch.2) ho (Or.inr ⟨rfl, h.1⟩) h.2
              | false => rw [h3] at h; exact h.elim
    | invokestatic i =>
      obtain rfl := hlen rfl
      simp only [chE] at hch
      dsimp only at h
      cases h0 : Nat.blt x 1000 with
      | true =>
        rw [h0] at hch h
        simp only [cond_true, Bool.and_eq_true] at hch h
        obtain ⟨⟨a1, a2⟩, a3, a4, a5⟩ := hch
        exact sn_callS (K := fun _ _ => True) hF hSF hC r1 r2 r3 (hmax x (nlt a5)) r5 r6 hK hA hml hts hown (tblG_at (of_decide_eq_true a1) rfl) (nb a2) a3 a4 (nlt a5) hx hb hd h
      | false =>
        rw [h0] at hch h
        simp only [cond_false] at hch h
        cases h1 : Nat.beq x 1000 with
        | true =>
          rw [h1] at hch h
          simp only [cond_true] at hch h
          exact sn_max (by omega) (by omega) r5 r6 hml hts hown (chB_ok hch) hx hb hd h
        | false =>
          rw [h1] at hch h
          simp only [cond_false] at hch h
          cases h2 : Nat.beq x 1001 with
          | true =>
            rw [h2] at hch h
            simp only [cond_true] at hch h
            exact sn_min (by omega) (by omega) r5 r6 hml hts hown (chB_ok hch) hx hb hd h
          | false =>
            rw [h2] at hch h
            simp only [cond_false, Bool.and_eq_true] at hch h
            rw [hch.1] at h
            simp only [cond_true] at h
            exact sn_copy (by omega) (by omega) r5 r6 hK hml hts hown (chB_ok hch.2) hx hb hd h
    | ireturn =>
      obtain rfl := hlen rfl
      simp only [chE] at hch
      dsimp only at h
      split at h
      · rename_i v
        cases h1 : Nat.beq x 1 with
        | true =>
          rw [h1] at hch h
          simp only [cond_true, decide_eq_true_eq] at hch h
          exact q1 pc v w ls hd (Or.inl ⟨hch, h.1⟩) h.2
        | false =>
          rw [h1] at hch h
          simp only [cond_false, Bool.and_eq_true, decide_eq_true_eq] at hch h
          exact q1 pc v w ls hd (Or.inr hch.2) h
      · exact h.elim
    | return_ =>
      obtain rfl := hlen rfl
      simp only [chE, decide_eq_true_eq] at hch
      dsimp only at h
      split at h
      · exact q2 pc w ls hd hch h
      · exact h.elim
    | _ => exact False.elim h
theorem forg_ok : ∀ (mm : List Bool) (ls : AL), (forg mm ls).length = ls.length ∧ ∀ (j : Nat) (v : AV), (forg mm ls)[j]? = some (some v) → ls[j]? = some (some v)
  | [], ls => ⟨by simp [forg], fun j v h => by simpa [forg] using h⟩
  | true :: mm, [] => ⟨by simp [forg], fun j v h => by simp [forg] at h⟩
  | false :: mm, [] => ⟨by simp [forg], fun j v h => by simp [forg] at h⟩
  | true :: mm, a :: t => by
    obtain ⟨h1, h2⟩ := forg_ok mm t
    refine ⟨by simp [forg, h1], fun j v h => ?_⟩
    cases j with
    | zero => simpa [forg] using h
    | succ j => simpa using h2 j v (by simpa [forg] using h)
  | false :: mm, a :: t => by
    obtain ⟨h1, h2⟩ := forg_ok mm t
    refine ⟨by simp [forg, h1], fun j v h => ?_⟩
    cases j with
    | zero => simp [forg] at h
    | succ j => simpa using h2 j v (by simpa [forg] using h)
theorem sat_forg (mm : List Bool) (pc : Nat) (ls : AL) (st : List AV) (w : Wd) (h : SAT p l e R s m args below meth c cells slots QW ad kx D A nL (pc, forg mm ls, st, w)) : SAT p l e R s m args below meth c cells slots QW ad kx D A nL (pc, ls, st, w) := by
  obtain ⟨h1, h2⟩ := forg_ok mm ls
  intro hw hst hls hnl H locs lsA hP hD hS hL
  refine h hw hst (fun j v q => hls j v (h2 j v q)) (h1.trans hnl) H locs lsA hP hD hS (lv_mono hL fun q hq => ?_)
  obtain ⟨j, v, q1, rfl⟩ := mem_prs.mp hq
  exact mem_prs.mpr ⟨j, v, h2 j v q1, rfl⟩
theorem ev_ok (X : CX p l e R s m args below meth c cells slots QW ad kx D A nL SF k sc C rm Q) {s0 : AS} (h : Ev sc C (cd k) Q s0) : SAT p l e R s m args below meth c cells slots QW ad kx D A nL s0 := h _ (fun s0 h0 => step_ok X s0 h0) sat_forg
end RUN
