/-! the class decides by steps -/
theorem aR_i {w : Wd} {sc : SC} {a : Nat} {n i : Int} {k : Int → Prop} (hs : shq a = .inl (0, n)) (h : (0 ≤ i ∧ i < n) ∧ k (w a i.toNat)) : aR w sc a i k := by
  unfold aR
  rw [hs]
  exact h
theorem aL_i {sc : SC} {a : Nat} {n : Int} {k : Int → Prop} (hs : shq a = .inl (0, n)) (h : k n) : aL sc a k := by
  unfold aL
  rw [hs]
  exact h
theorem aW_i {a : Nat} {n i : Int} {k : Prop} (hs : shq a = .inl (0, n)) (h : (0 ≤ i ∧ i < n) ∧ k) : aW a i k := by
  unfold aW
  rw [hs]
  exact h
/-- what a step may be -/
def SOK (x : Int) : Prop := x = -1 ∨ x = -2 ∨ x = -3 ∨ (0 ≤ x ∧ x < 2147483648)
theorem nots_s (m : Nat) : ∀ x, x ∈ nots m → SOK x := by
  intro x hx
  unfold nots at hx
  split at hx
  · rw [List.mem_singleton] at hx
    exact Or.inl hx
  · exact absurd hx (List.not_mem_nil)
theorem CMO_s {pt : Int} {h : Nat → Int} {n i j : Nat} {s : Int} (hh : HOK h n) (hi : i ≤ n) (hc : CMO pt h i j s) : SOK s := by
  have hb := CMO_b hh hi hc
  obtain ⟨h1, h2, h3, h4, h5, h6⟩ := hc
  have b1 := unF_b hh pt hi
  have b2 := hh (unF pt h i).2
  have b3 := unF_b hh pt (i := (unF pt h i).2 + 1) (by omega)
  obtain ⟨l, hl⟩ : ∃ l : Nat, (unF pt h i).1 = (l : Int) := ⟨_, (Int.toNat_of_nonneg h1).symm⟩
  obtain ⟨r, hr⟩ : ∃ l : Nat, (unF pt h ((unF pt h i).2 + 1)).1 = (l : Int) := ⟨_, (Int.toNat_of_nonneg h4).symm⟩
  obtain ⟨o, ho⟩ : ∃ l : Nat, h (unF pt h i).2 - 60 = (l : Int) := ⟨(h (unF pt h i).2 - 60).toNat, by omega⟩
  rw [hl, hr, ho, enc_n (by omega) (by omega) (by omega)] at h6
  exact Or.inr (Or.inr (Or.inr ⟨by omega, by omega⟩))
theorem der_s {pt : Int} {h : Nat → Int} {n : Nat} (hh : HOK h n) {m d i j : Nat} {ok : Bool} {T : List Int} (hd : DER pt h m d i ok j T) : i ≤ n → ok = true → ∀ x, x ∈ T → SOK x := by
  refine DER.ind (P := fun _ _ i ok _ T => i ≤ n → ok = true → ∀ x, x ∈ T → SOK x) ?_ hd
  have nf : ∀ {q : Prop}, false = true → q := fun g => absurd g (by decide)
  refine ⟨?_, ?_, ?_, ?_, ?_, ?_, ?_, ?_, ?_, ?_, ?_, ?_, ?_, ?_, ?_, ?_⟩
  · intro d m i j s a b c e g hi _ x hx
    rcases List.mem_append.1 hx with q | q
    · rw [List.mem_singleton] at q
      rw [q]
      exact CMO_s hh (bng_n hh b hi) g
    · exact nots_s m x q
  · intro d m i j a b c e g hi q; exact nf q
  · intro d m i a b c hi q; exact nf q
  · intro d m i j T a b c e hi q; exact nf q
  · intro d m i j T a b c e g hi q; exact nf q
  · intro d m i j T a b c e g hi _ x hx
    have h1 := bng_n hh b hi
    have h2 := hh (i + m)
    rcases List.mem_append.1 hx with q | q
    · exact e.2 (by omega) rfl x q
    · exact nots_s m x q
  · intro d i j T a hi q; exact nf q
  · intro d i j T ok j' T' a b hi q x hx
    rcases List.mem_append.1 hx with g | g
    · exact a.2 hi rfl x g
    · exact b.2 (der_b hh a.1 hi).2.1 q x g
  · intro d i a hi _ x hx; exact absurd hx (List.not_mem_nil)
  · intro d i j T a b hi q; exact nf q
  · intro d i j T ok j' T' a b c hi q x hx
    have h2 := hh i
    rcases List.mem_append.1 hx with g | g
    · exact b.2 (by omega) rfl x g
    · rcases List.mem_cons.1 g with g | g
      · exact Or.inr (Or.inl g)
      · exact c.2 (der_b hh b.1 (by omega)).2.1 q x g
  · intro d i j T a hi q; exact nf q
  · intro d i j T ok j' T' a b hi q x hx
    rcases List.mem_append.1 hx with g | g
    · exact a.2 hi rfl x g
    · exact b.2 (der_b hh a.1 hi).2.1 q x g
  · intro d i a hi _ x hx; exact absurd hx (List.not_mem_nil)
  · intro d i j T a b hi q; exact nf q
  · intro d i j T ok j' T' a b c hi q x hx
    have h2 := hh i
    rcases List.mem_append.1 hx with g | g
    · exact b.2 (by omega) rfl x g
    · rcases List.mem_cons.1 g with g | g
      · exact Or.inr (Or.inr (Or.inl g))
      · exact c.2 (der_b hh b.1 (by omega)).2.1 q x g
/-- the bits of an int are a stack of answers -/
def BRs (X : Int) (st : List Bool) : Prop := ∀ k v, st[k]? = some v → (Int32.ofInt X).toBitVec.getLsbD k = v
theorem br_len {st : List Bool} {k : Nat} {v : Bool} (h : st[k]? = some v) : k < st.length := by
  rcases Nat.lt_or_ge k st.length with g | g
  · exact g
  · rw [List.getElem?_eq_none g] at h
    exact absurd h (by simp)
theorem shl1_b (X : Int) : (Int32.ofInt (ishl X 1)).toBitVec = (Int32.ofInt X).toBitVec <<< 1 := by
  unfold ishl iop
  rw [Int32.ofInt_toInt]
  show (Int32.ofInt X).toBitVec <<< (BitVec.smod (Int32.ofInt ((1 : Nat) : Int) &&& 31).toBitVec 32#32) = _
  rw [sm_d 1 (by decide), BitVec.shiftLeft_eq']
  rfl
theorem shr1_b (X : Int) : (Int32.ofInt (ishr X 1)).toBitVec = (Int32.ofInt X).toBitVec.sshiftRight 1 := by
  unfold ishr iop
  rw [Int32.ofInt_toInt]
  show BitVec.sshiftRight' (Int32.ofInt X).toBitVec (BitVec.smod (Int32.ofInt ((1 : Nat) : Int) &&& 31).toBitVec 32#32) = _
  rw [sm_d 1 (by decide), BitVec.sshiftRight_eq']
  rfl
theorem or_b (A B : Int) : (Int32.ofInt (ior A B)).toBitVec = (Int32.ofInt A).toBitVec ||| (Int32.ofInt B).toBitVec := by
  unfold ior iop
  rw [Int32.ofInt_toInt]
  rfl
theorem and_b (A B : Int) : (Int32.ofInt (iand A B)).toBitVec = (Int32.ofInt A).toBitVec &&& (Int32.ofInt B).toBitVec := by
  unfold iand iop
  rw [Int32.ofInt_toInt]
  rfl
theorem xor_b (A B : Int) : (Int32.ofInt (ixor A B)).toBitVec = (Int32.ofInt A).toBitVec ^^^ (Int32.ofInt B).toBitVec := by
  unfold ixor iop
  rw [Int32.ofInt_toInt]
  rfl
theorem one_b : ∀ k : Nat, (1#32).getLsbD k = decide (k = 0) := by
  intro k
  rw [BitVec.getLsbD_ofNat]
  cases k with
  | zero => rfl
  | succ k =>
    rw [Nat.testBit_succ, show (1 : Nat) / 2 = 0 from rfl, Nat.zero_testBit, Bool.and_false]
    rfl
theorem br_push {X : Int} {st : List Bool} (h : BRs X st) (hl : st.length < 31) (b : Bool) : BRs (ior (ishl X 1) (bI b)) (b :: st) := by
  intro k v hk
  have hkl := br_len hk
  have e1 : (b :: st).length = st.length + 1 := rfl
  have hb : ∀ k, (Int32.ofInt (bI b)).toBitVec.getLsbD k = (b && decide (k = 0)) := by
    intro k
    cases b
    · show (0#32).getLsbD k = _
      rw [BitVec.getLsbD_ofNat, Nat.zero_testBit]
      simp
    · show (1#32).getLsbD k = _
      rw [one_b]
      rfl
  rw [or_b, shl1_b, BitVec.getLsbD_or, BitVec.getLsbD_shiftLeft, hb]
  cases k with
  | zero =>
    have : b = v := Option.some.inj hk
    rw [← this]
    simp
  | succ k =>
    have hk2 : st[k]? = some v := hk
    rw [show k + 1 - 1 = k from rfl, h k v hk2]
    simp
    omega
theorem br_not {X : Int} {a : Bool} {st : List Bool} (h : BRs X (a :: st)) (hl : st.length < 31) : BRs (ixor X 1) ((!a) :: st) := by
  intro k v hk
  rw [xor_b, BitVec.getLsbD_xor, show (Int32.ofInt 1).toBitVec = 1#32 from rfl, one_b]
  cases k with
  | zero =>
    have : (!a) = v := Option.some.inj hk
    rw [h 0 a rfl, ← this]
    cases a <;> rfl
  | succ k =>
    rw [h (k + 1) v hk]
    simp
theorem two_b (k : Nat) (hk : k < 32) : (Int32.ofInt (-2)).toBitVec.getLsbD k = !decide (k = 0) := by
  rw [show (Int32.ofInt (-2)).toBitVec = ~~~(1#32) from by decide, BitVec.getLsbD_not, one_b, decide_eq_true hk, Bool.true_and]
theorem br_and {X : Int} {a b : Bool} {st : List Bool} (h : BRs X (b :: a :: st)) (hl : st.length < 29) : BRs (iand (ishr X 1) (ior X (-2))) ((a && b) :: st) := by
  intro k v hk
  have hkl := br_len hk
  have e1 : ((a && b) :: st).length = st.length + 1 := rfl
  rw [and_b, shr1_b, or_b, BitVec.getLsbD_and, BitVec.getLsbD_or, BitVec.getLsbD_sshiftRight, two_b k (by omega), if_pos (by omega), decide_eq_false (show ¬ 32 ≤ k by omega)]
  cases k with
  | zero =>
    have : (a && b) = v := Option.some.inj hk
    rw [show 1 + 0 = 1 from rfl, h 1 a rfl, h 0 b rfl, ← this]
    cases a <;> cases b <;> rfl
  | succ k =>
    rw [show 1 + (k + 1) = k + 1 + 1 by omega, h (k + 1 + 1) v hk]
    simp
theorem br_or {X : Int} {a b : Bool} {st : List Bool} (h : BRs X (b :: a :: st)) (hl : st.length < 29) : BRs (ior (ishr X 1) (iand X 1)) ((a || b) :: st) := by
  intro k v hk
  have hkl := br_len hk
  have e1 : ((a || b) :: st).length = st.length + 1 := rfl
  rw [or_b, shr1_b, and_b, BitVec.getLsbD_or, BitVec.getLsbD_and, BitVec.getLsbD_sshiftRight, if_pos (by omega), decide_eq_false (show ¬ 32 ≤ k by omega), show (Int32.ofInt 1).toBitVec = 1#32 from rfl, one_b]
  cases k with
  | zero =>
    have : (a || b) = v := Option.some.inj hk
    rw [show 1 + 0 = 1 from rfl, h 1 a rfl, h 0 b rfl, ← this]
    cases a <;> cases b <;> rfl
  | succ k =>
    rw [show 1 + (k + 1) = k + 1 + 1 by omega, h (k + 1 + 1) v hk]
    simp
theorem br_0 {X : Int} {v : Bool} {st : List Bool} (h : BRs X (v :: st)) : iand X 1 = bI v := by
  have h1 := h 0 v rfl
  have h2 : (Int32.ofInt (iand X 1)).toBitVec = (Int32.ofInt (bI v)).toBitVec := by
    apply BitVec.eq_of_getLsbD_eq
    intro k hk
    rw [and_b, BitVec.getLsbD_and, show (Int32.ofInt 1).toBitVec = 1#32 from rfl, one_b]
    have hb : (Int32.ofInt (bI v)).toBitVec.getLsbD k = (v && decide (k = 0)) := by
      cases v
      · show (0#32).getLsbD k = _
        rw [BitVec.getLsbD_ofNat, Nat.zero_testBit]
        simp
      · show (1#32).getLsbD k = _
        rw [one_b]
        rfl
    rw [hb]
    by_cases q : k = 0
    · subst q
      rw [h1]
    · rw [decide_eq_false q, Bool.and_false, Bool.and_false]
  have h3 : Int32.ofInt (iand X 1) = Int32.ofInt (bI v) := Int32.toBitVec_inj.1 h2
  have h4 : (Int32.ofInt (iand X 1)).toInt = iand X 1 := by
    show wr (iand X 1) = _
    have := i32_r ((Int32.ofInt X) &&& (Int32.ofInt 1))
    exact wr_id this.1 this.2
  rw [← h4, h3]
  cases v <;> rfl
theorem stp_l (f : Nat → Int) (m x : Int) (st : List Bool) : (stp f m x st).length ≤ st.length + (if 0 ≤ x then 1 else 0) := by
  unfold stp
  by_cases q : x < 0
  · rw [if_pos q, if_neg (show ¬ 0 ≤ x by omega)]
    split
    · cases st with
      | nil => exact Nat.le_refl _
      | cons a t => exact Nat.le_refl _
    · split
      · rcases st with _ | ⟨a, _ | ⟨b, t⟩⟩
        · exact Nat.le_refl _
        · exact Nat.zero_le _
        · show t.length + 1 ≤ t.length + 1 + 1 + 0
          omega
      · rcases st with _ | ⟨a, _ | ⟨b, t⟩⟩
        · exact Nat.le_refl _
        · exact Nat.zero_le _
        · show t.length + 1 ≤ t.length + 1 + 1 + 0
          omega
  · rw [if_neg q, if_pos (show 0 ≤ x by omega)]
    exact Nat.le_refl _
theorem run_l (f : Nat → Int) (m : Int) (T : List Int) : ∀ st, (run f m T st).length ≤ st.length + cnt T := by
  induction T with
  | nil => intro st; exact Nat.le_refl _
  | cons x T ih =>
    intro st
    have h1 := ih (stp f m x st)
    have h2 := stp_l f m x st
    have h3 : cnt (x :: T) = cnt T + (if 0 ≤ x then 1 else 0) := by
      unfold cnt
      rw [List.countP_cons]
      simp
    show (run f m T (stp f m x st)).length ≤ _
    omega
theorem br_stp {f : Nat → Int} {m x X : Int} {st : List Bool} (h : BRs X st) (hl : st.length < 29) (hx : SOK x) : BRs (if x < 0 then (if x = -1 then ixor X 1 else if x = -2 then iand (ishr X 1) (ior X (-2)) else ior (ishr X 1) (iand X 1)) else ior (ishl X 1) (bI (cmpV f m x))) (stp f m x st) := by
  unfold stp
  by_cases q : x < 0
  · rw [if_pos q, if_pos q]
    by_cases q1 : x = -1
    · rw [if_pos q1, if_pos q1]
      rcases st with _ | ⟨a, t⟩
      · exact fun k v hk => absurd hk (by simp)
      · have e1 : (a :: t).length = t.length + 1 := rfl
        exact br_not h (by omega)
    · rw [if_neg q1, if_neg q1]
      by_cases q2 : x = -2
      · rw [if_pos q2, if_pos q2]
        rcases st with _ | ⟨b, _ | ⟨a, t⟩⟩
        · exact fun k v hk => absurd hk (by simp)
        · exact fun k v hk => absurd hk (by simp)
        · have e1 : (b :: a :: t).length = t.length + 2 := rfl
          exact br_and h (by omega)
      · rw [if_neg q2, if_neg q2]
        rcases st with _ | ⟨b, _ | ⟨a, t⟩⟩
        · exact fun k v hk => absurd hk (by simp)
        · exact fun k v hk => absurd hk (by simp)
        · have e1 : (b :: a :: t).length = t.length + 2 := rfl
          exact br_or h (by omega)
  · rw [if_neg q, if_neg q]
    exact br_push h (by omega) _
section
variable {w : Wd} {f : Nat → Int} {m : Int}
theorem valueOf_c {x2 : Nat} {u : Int} (hs : shq x2 = .inl (0, m)) (hm : 0 ≤ m ∧ m ≤ 5) (hf : ∀ k : Nat, (k : Int) < m → w x2 k = f k) (hu : 0 ≤ u ∧ u < 2147483648) : Cal 1 69 [.inl u, .inr (.inr x2)] w (rI fun y v => y = valU f m u ∧ v = w) := by
  refine en_69 ?_
  rw [wr_id (by omega) (by omega)]
  unfold valU
  refine ite_i (fun q => ?_) (fun q => ?_)
  · rw [if_pos q]
    exact ⟨rfl, rfl⟩
  · rw [if_neg q]
    refine aL_i hs ?_
    refine ite_i (fun r => ?_) (fun r => ?_)
    · rw [if_pos r]
      exact aR_i hs ⟨by omega, hf _ (by omega), rfl⟩
    · rw [if_neg r]
      exact ⟨rfl, rfl⟩
theorem compares_c {x2 : Nat} {s : Int} (hs : shq x2 = .inl (0, m)) (hm : 0 ≤ m ∧ m ≤ 5) (hf : ∀ k : Nat, (k : Int) < m → w x2 k = f k) (hu : 0 ≤ s ∧ s < 2147483648) : Cal 2 68 [.inl s, .inr (.inr x2)] w (rI fun y v => y = bI (cmpV f m s) ∧ v = w) := by
  obtain ⟨a, rfl⟩ : ∃ a : Nat, s = (a : Int) := ⟨s.toNat, by omega⟩
  have e1 : ishr (a : Int) 16 = ((a >>> 16 : Nat) : Int) := ishr_k (k := 16) (by decide) (by omega)
  have e2 : ishr (a : Int) 2 = ((a >>> 2 : Nat) : Int) := ishr_k (k := 2) (by decide) (by omega)
  have l1 := Nat.shiftRight_le a 16
  have l2 := Nat.shiftRight_le a 2
  have e3 : iand ((a >>> 2 : Nat) : Int) 16383 = (((a >>> 2) &&& 16383 : Nat) : Int) := iand_n (b := 16383) (by omega) (by decide)
  have l3 : (a >>> 2) &&& 16383 ≤ a >>> 2 := Nat.and_le_left
  refine en_68 ?_
  unfold cmpV cmp3
  refine CalE.to (valueOf_c hs hm hf (by omega)) (by decide) ?_
  refine CalE.to (valueOf_c hs hm hf (by rw [e2, e3]; omega)) (by decide) ?_
  generalize valU f m (ishr (a : Int) 16) = x
  generalize valU f m (iand (ishr (a : Int) 2) 16383) = y
  refine ite_i (fun q => ?_) (fun q => ite_i (fun r => ?_) (fun r => ?_))
  · rw [if_pos q]
    refine ite_i (fun z => ?_) (fun z => ?_)
    · rw [decide_eq_true z]; exact ⟨by decide, rfl, rfl⟩
    · rw [decide_eq_false z]; exact ⟨by decide, rfl, rfl⟩
  · rw [if_neg q, if_pos r]
    refine ite_i (fun z => ?_) (fun z => ?_)
    · rw [decide_eq_true z]; exact ⟨by decide, rfl, rfl⟩
    · rw [decide_eq_false z]; exact ⟨by decide, rfl, rfl⟩
  · rw [if_neg q, if_neg r]
    refine ite_i (fun z => ?_) (fun z => ?_)
    · rw [decide_eq_true z]; exact ⟨by decide, rfl, rfl⟩
    · rw [decide_eq_false z]; exact ⟨by decide, rfl, rfl⟩
theorem decide_c {x0 x2 : Nat} (h0 : shq x0 = .inl (0, 40)) (hs : shq x2 = .inl (0, m)) (hm : 0 ≤ m ∧ m ≤ 5) (hf : ∀ k : Nat, (k : Int) < m → w x2 k = f k) {T : List Int} (hT : ∀ k x, T[k]? = some x → w x0 k = x) (hl : T.length ≤ 40) (hc : cnt T < 29) (hS : ∀ x, x ∈ T → SOK x) (hv : ∃ v, run f m T [] = [v]) {x1 : Int} (h1 : x1 = (T.length : Int)) : Cal 3 67 [.inr (.inr x0), .inl x1, .inr (.inr x2)] w (rI fun y u => y = bI (vlF f m T) ∧ u = w) := by
  subst h1
  generalize hQ : (rI fun y u => y = bI (vlF f m T) ∧ u = w) = Q
  have key := Ev.inv (sc := none) (C := Cal 2) (cdk := cd 67) (Q := Q) (N := T.length) (I := fun i t => ∃ X : Int, t = (5, [some (.inr (.inr x0)), some (.inl (T.length : Int)), some (.inr (.inr x2)), some (.inl X), some (.inl (i : Int)), none], [], w) ∧ BRs X (run f m (T.take i) [])) (fun i hi t ht h => ?_) (fun t ht => ?_) 0 (Nat.zero_le _)
  · exact en_67 (key _ ⟨0, rfl, fun k v hk => absurd hk (by rw [List.take_zero]; show ¬ ([] : List Bool)[k]? = some v; simp)⟩)
  · obtain ⟨X, rfl, hX⟩ := ht
    obtain ⟨x, hx⟩ : ∃ x, T[i]? = some x := ⟨T[i], List.getElem?_eq_getElem hi⟩
    have hso := hS x (List.mem_of_getElem? hx)
    have hlen : (run f m (T.take i) []).length < 29 := by
      have h2 := run_l f m (T.take i) []
      have h3 : cnt T = cnt (T.take i) + cnt (T.drop i) := by rw [← cnt_a, List.take_append_drop]
      have h4 : ([] : List Bool).length = 0 := rfl
      omega
    have hb := br_stp (f := f) (m := m) hX hlen hso
    have et : run f m (T.take (i + 1)) [] = stp f m x (run f m (T.take i) []) := by
      rw [List.take_add_one, hx, run_a]
      rfl
    rw [← et] at hb
    refine bk_67_5 ?_
    rw [if_pos (by omega), wr_s (show i < 2000000 by omega)]
    refine aR_i h0 ⟨by omega, ?_⟩
    rw [tn, hT i x hx]
    refine ite_i (fun q => ?_) (fun q => ?_)
    · rw [if_pos q] at hb
      refine ite_i (fun q1 => ?_) (fun q1 => ?_)
      · rw [if_pos q1] at hb
        exact h _ ⟨_, rfl, hb⟩
      · rw [if_neg q1] at hb
        refine ite_i (fun q2 => ?_) (fun q2 => ?_)
        · rw [if_pos q2] at hb
          exact h _ ⟨_, rfl, hb⟩
        · rw [if_neg q2] at hb
          exact h _ ⟨_, rfl, hb⟩
    · rw [if_neg q] at hb
      refine CalE.to (compares_c hs hm hf (by unfold SOK at hso; omega)) (by decide) ?_
      cases hcm : cmpV f m x
      · rw [hcm] at hb
        rw [if_pos (show bI false = 0 from rfl)]
        exact h _ ⟨_, rfl, hb⟩
      · rw [hcm] at hb
        rw [if_neg (show ¬ bI true = 0 by decide)]
        exact h _ ⟨_, rfl, hb⟩
  · obtain ⟨X, rfl, hX⟩ := ht
    obtain ⟨v, hv⟩ := hv
    rw [List.take_length, hv] at hX
    have e : vlF f m T = v := by unfold vlF; rw [hv]; rfl
    refine bk_67_5 ?_
    rw [if_neg (by omega), br_0 hX, ← hQ, e]
    cases v
    · rw [if_neg (show ¬ bI false = 1 by decide)]
      exact ⟨by decide, rfl, rfl⟩
    · rw [if_pos (show bI true = 1 from rfl)]
      exact ⟨by decide, rfl, rfl⟩
end
