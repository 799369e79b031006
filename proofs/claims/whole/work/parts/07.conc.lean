/-! what an abstract state stands for -/
def in32 (x : Int) : Prop := -2147483648 ≤ x ∧ x < 2147483648
def in64 (x : Int) : Prop := -9223372036854775808 ≤ x ∧ x < 9223372036854775808
def okA : AV → Prop
  | .inl x => in32 x
  | .inr (.inl x) => in64 x
  | .inr (.inr _) => True
def wfW (w : Wd) : Prop := ∀ a i, in32 (w a i)
def cv (ad : Nat → Nat) : AV → Value
  | .inl x => .int (Int32.ofInt x)
  | .inr (.inl x) => .long (Int64.ofInt x)
  | .inr (.inr r) => .ref (ad r)
def prs (ad : Nat → Nat) : AL → Nat → List (Nat × Value)
  | [], _ => []
  | none :: t, i => prs ad t (i + 1)
  | some v :: t, i => (i, cv ad v) :: prs ad t (i + 1)
theorem mem_prs {ad : Nat → Nat} : ∀ {ls : AL} {i : Nat} {q : Nat × Value}, q ∈ prs ad ls i ↔ ∃ j v, ls[j]? = some (some v) ∧ q = (i + j, cv ad v)
  | [], i, q => by simp [prs]
  | none :: t, i, q => by
    show q ∈ prs ad t (i + 1) ↔ _
    rw [mem_prs]
    constructor
    · rintro ⟨j, v, h, rfl⟩
      exact ⟨j + 1, v, by simpa using h, by rw [show i + 1 + j = i + (j + 1) by omega]⟩
    · rintro ⟨j, v, h, rfl⟩
      cases j with
      | zero => simp at h
      | succ j => exact ⟨j, v, by simpa using h, by rw [show i + 1 + j = i + (j + 1) by omega]⟩
  | some a :: t, i, q => by
    show q ∈ (i, cv ad a) :: prs ad t (i + 1) ↔ _
    rw [List.mem_cons, mem_prs]
    constructor
    · rintro (rfl | ⟨j, v, h, rfl⟩)
      · exact ⟨0, a, by simp, rfl⟩
      · exact ⟨j + 1, v, by simpa using h, by rw [show i + 1 + j = i + (j + 1) by omega]⟩
    · rintro ⟨j, v, h, rfl⟩
      cases j with
      | zero =>
        simp only [List.getElem?_cons_zero, Option.some.injEq] at h
        subst h
        exact Or.inl rfl
      | succ j => exact Or.inr ⟨j, v, by simpa using h, by rw [show i + 1 + j = i + (j + 1) by omega]⟩
theorem oi_ti (x : Int32) : Int32.ofInt x.toInt = x := Int32.ofInt_toInt x
theorem ti_oi {x : Int} (h : in32 x) : (Int32.ofInt x).toInt = x := Int32.toInt_ofInt_of_le (by simpa using h.1) (by simpa using h.2)
theorem in32_ti (x : Int32) : in32 x.toInt := ⟨by simpa using x.le_toInt, by simpa using x.toInt_lt⟩
theorem oi64_ti (x : Int64) : Int64.ofInt x.toInt = x := Int64.ofInt_toInt x
theorem ti64_oi {x : Int} (h : in64 x) : (Int64.ofInt x).toInt = x := Int64.toInt_ofInt_of_le (by simpa using h.1) (by simpa using h.2)
theorem in64_ti (x : Int64) : in64 x.toInt := ⟨by simpa using x.le_toInt, by simpa using x.toInt_lt⟩
theorem in32_wr (x : Int) : in32 (wr x) := in32_ti _
theorem oi_wr (x : Int) : Int32.ofInt (wr x) = Int32.ofInt x := oi_ti _
theorem oi_iop (f : Int32 → Int32 → Int32) (a b : Int) : Int32.ofInt (iop f a b) = f (Int32.ofInt a) (Int32.ofInt b) := oi_ti _
theorem oi_inj {a b : Int} (ha : in32 a) (hb : in32 b) : Int32.ofInt a = Int32.ofInt b ↔ a = b := by
  constructor
  · intro h
    have := congrArg Int32.toInt h
    rwa [ti_oi ha, ti_oi hb] at this
  · rintro rfl; rfl
theorem oi_lt {a b : Int} (ha : in32 a) (hb : in32 b) : Int32.ofInt a < Int32.ofInt b ↔ a < b := by
  rw [Int32.lt_iff_toInt_lt, ti_oi ha, ti_oi hb]
theorem oi_le {a b : Int} (ha : in32 a) (hb : in32 b) : Int32.ofInt a ≤ Int32.ofInt b ↔ a ≤ b := by
  rw [Int32.le_iff_toInt_le, ti_oi ha, ti_oi hb]
theorem oi_cl {a : Int} (ha : in32 a) : (Int32.ofInt a).toNatClampNeg = a.toNat := by
  show (Int32.ofInt a).toInt.toNat = _
  rw [ti_oi ha]
theorem wr_id {x : Int} (h1 : -2147483648 ≤ x) (h2 : x < 2147483648) : wr x = x := ti_oi ⟨h1, h2⟩
theorem in32_0 : in32 0 := by unfold in32; omega
theorem oi_0 : Int32.ofInt 0 = 0 := by decide
theorem vp_in_oi {i n : Int} (hi : in32 i) (h0 : 0 ≤ i) (hn : i < n) : vp_in (Int32.ofInt i) n.toNat := by
  unfold vp_in
  rw [oi_cl hi, show (0 : Int32) = Int32.ofInt 0 from rfl, oi_lt hi in32_0]
  omega
/-- the fields of an object -/
def fv (ad : Nat → Nat) (w : Wd) (k : Nat) : Nat → List Nat → List Value
  | _, [] => []
  | j, 0 :: t => .int (Int32.ofInt (w k j)) :: fv ad w k (j + 1) t
  | j, 1 :: t => .ref (ad (1000 + (w k j).toNat)) :: fv ad w k (j + 1) t
  | j, 2 :: t => .int (Int32.ofInt (w k j)) :: fv ad w k (j + 1) t
  | j, (q + 3) :: t => .ref (ad q) :: fv ad w k (j + 1) t
noncomputable def cE (ad : Nat → Nat) (kx : Nat → ClassId) (w : Wd) (k : Nat) : va_E := match shq k with
  | .inl (t, n) => .inl (kx t, n.toNat, .inl fun i => Int32.ofInt (w k i))
  | .inr (.inl (b, n)) => .inl (kx 2, n.toNat, .inr (.inr (.inr (.inr fun i => if i < n.toNat then some (ad (b + i)) else none))))
  | .inr (.inr (c, fs)) => .inr (c, fv ad w k 0 fs)
noncomputable def cW (ad : Nat → Nat) (kx : Nat → ClassId) (w : Wd) : va_W := (List.range nC).map fun k => (ad k, cE ad kx w k)
theorem cW_at {ad : Nat → Nat} {kx : Nat → ClassId} {w : Wd} {k : Nat} (h : k < nC) : (cW ad kx w)[k]? = some (ad k, cE ad kx w k) := by
  unfold cW
  rw [List.getElem?_map, List.getElem?_range h]
  rfl
theorem cW_len {ad : Nat → Nat} {kx : Nat → ClassId} {w : Wd} : (cW ad kx w).length = nC := by simp [cW]
theorem fv_len {ad : Nat → Nat} {w : Wd} {k : Nat} : ∀ (fs : List Nat) (j : Nat), (fv ad w k j fs).length = fs.length
  | [], _ => rfl
  | 0 :: t, j => by simp [fv, fv_len t]
  | 1 :: t, j => by simp [fv, fv_len t]
  | 2 :: t, j => by simp [fv, fv_len t]
  | (q + 3) :: t, j => by simp [fv, fv_len t]
/-- one field's value -/
def f1 (ad : Nat → Nat) (w : Wd) (k j : Nat) : Nat → Value
  | 0 => .int (Int32.ofInt (w k j))
  | 1 => .ref (ad (1000 + (w k j).toNat))
  | 2 => .int (Int32.ofInt (w k j))
  | (q + 3) => .ref (ad q)
theorem fv_cons {ad : Nat → Nat} {w : Wd} {k j c : Nat} {t : List Nat} : fv ad w k j (c :: t) = f1 ad w k j c :: fv ad w k (j + 1) t := by
  match c with
  | 0 => rfl
  | 1 => rfl
  | 2 => rfl
  | q + 3 => rfl
theorem fv_at {ad : Nat → Nat} {w : Wd} {k : Nat} : ∀ (fs : List Nat) (j i c : Nat), fs[i]? = some c → (fv ad w k j fs)[i]? = some (f1 ad w k (j + i) c)
  | [], _, _, _, h => by simp at h
  | d :: t, j, 0, c, h => by
    simp only [List.getElem?_cons_zero, Option.some.injEq] at h
    subst h
    rw [fv_cons]
    rfl
  | d :: t, j, i + 1, c, h => by
    rw [fv_cons, List.getElem?_cons_succ, fv_at t (j + 1) i c (by simpa using h), show j + 1 + i = j + (i + 1) by omega]
theorem fv_set {ad : Nat → Nat} {w w' : Wd} {k : Nat} : ∀ (fs : List Nat) (j i c : Nat), fs[i]? = some c → (∀ q, q ≠ j + i → w' k q = w k q) → fv ad w' k j fs = (fv ad w k j fs).set i (f1 ad w' k (j + i) c)
  | [], _, _, _, h, _ => by simp at h
  | d :: t, j, 0, c, h, hw => by
    simp only [List.getElem?_cons_zero, Option.some.injEq] at h
    subst h
    rw [fv_cons, fv_cons, List.set_cons_zero]
    congr 1
    have e : ∀ (l : List Nat) (m : Nat), j < m → fv ad w' k m l = fv ad w k m l := by
      intro l
      induction l with
      | nil => intro m _; rfl
      | cons b l ih =>
        intro m hm
        rw [fv_cons, fv_cons, ih (m + 1) (by omega)]
        congr 1
        have := hw m (by omega)
        match b with
        | 0 => simp only [f1, this]
        | 1 => simp only [f1, this]
        | 2 => simp only [f1, this]
        | q + 3 => rfl
    exact e t (j + 1) (by omega)
  | d :: t, j, i + 1, c, h, hw => by
    rw [fv_cons, fv_cons, List.set_cons_succ, fv_set (w := w) (w' := w') t (j + 1) i c (by simpa using h) (fun q hq => hw q (by omega)), show j + 1 + i = j + (i + 1) by omega]
    congr 1
    have := hw j (by omega)
    match d with
    | 0 => simp only [f1, this]
    | 1 => simp only [f1, this]
    | 2 => simp only [f1, this]
    | q + 3 => rfl
theorem cE_off {ad : Nat → Nat} {kx : Nat → ClassId} {w w' : Wd} {k : Nat} (h : ∀ j, w' k j = w k j) : cE ad kx w' k = cE ad kx w k := by
  have e : w' k = w k := funext h
  unfold cE
  split
  · rw [e]
  · rfl
  · rename_i c fs _
    congr 2
    have : ∀ (l : List Nat) (j : Nat), fv ad w' k j l = fv ad w k j l := by
      intro l
      induction l with
      | nil => intro j; rfl
      | cons b l ih =>
        intro j
        rw [fv_cons, fv_cons, ih]
        congr 1
        match b with
        | 0 => simp only [f1, e]
        | 1 => simp only [f1, e]
        | 2 => simp only [f1, e]
        | q + 3 => rfl
    exact this fs 0
/-- a world that differs in one cell -/
theorem cW_set {ad : Nat → Nat} {kx : Nat → ClassId} {w w' : Wd} {k : Nat} (hk : k < nC) (h : ∀ c, c ≠ k → ∀ j, w' c j = w c j) : (cW ad kx w).set k (ad k, cE ad kx w' k) = cW ad kx w' := by
  refine List.ext_getElem? fun i => ?_
  by_cases hi : i < nC
  · by_cases e : i = k
    · subst e
      rw [List.getElem?_set_self (by rw [cW_len]; exact hk), cW_at hi]
    · rw [List.getElem?_set_ne (Ne.symm e), cW_at hi, cW_at hi, cE_off (h i e)]
  · rw [List.getElem?_eq_none (by rw [List.length_set, cW_len]; omega), List.getElem?_eq_none (by rw [cW_len]; omega)]
