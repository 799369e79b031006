/-! the lot: who is drawn, who is struck -/
/-- how many of the first n are not drawn -/
def ucnt (f : Nat → Int) : Nat → Int
  | 0 => 0
  | n + 1 => ucnt f n + (if f n = 0 then 1 else 0)
theorem uc_s (f : Nat → Int) (n : Nat) : ucnt f (n + 1) = ucnt f n + (if f n = 0 then 1 else 0) := rfl
theorem uc_b (f : Nat → Int) (n : Nat) : 0 ≤ ucnt f n ∧ ucnt f n ≤ n := by
  induction n with
  | zero => exact ⟨Int.le_refl _, Int.le_refl _⟩
  | succ n ih => rw [uc_s]; split <;> omega
theorem uc_m (f : Nat → Int) {a b : Nat} (h : a ≤ b) : ucnt f a ≤ ucnt f b := by
  induction h with
  | refl => exact Int.le_refl _
  | step h ih => rw [uc_s]; split <;> omega
theorem uc_e {f : Nat → Int} {n : Nat} {t : Int} (h0 : 0 ≤ t) (h : t < ucnt f n) : ∃ m, m < n ∧ f m = 0 ∧ ucnt f m = t := by
  induction n with
  | zero => exact absurd h (by show ¬ t < 0; omega)
  | succ n ih =>
    by_cases q : t < ucnt f n
    · obtain ⟨m, h1, h2⟩ := ih q
      exact ⟨m, by omega, h2⟩
    · rw [uc_s] at h
      by_cases r : f n = 0
      · rw [if_pos r] at h
        exact ⟨n, by omega, r, by omega⟩
      · rw [if_neg r] at h
        omega
theorem uc_u {f : Nat → Int} {a b : Nat} (ha : f a = 0) (hb : f b = 0) (h : ucnt f a = ucnt f b) : a = b := by
  rcases Nat.lt_trichotomy a b with q | q | q
  · have h1 := uc_m f (show a + 1 ≤ b from q)
    rw [uc_s, if_pos ha] at h1
    omega
  · exact q
  · have h1 := uc_m f (show b + 1 ≤ a from q)
    rw [uc_s, if_pos hb] at h1
    omega
/-- the t-th that is not drawn is drawn -/
def drw (f : Nat → Int) (t : Int) (m : Nat) : Int := if f m = 0 ∧ ucnt f m = t then 1 else f m
theorem uc_d (f : Nat → Int) {t : Int} (h0 : 0 ≤ t) (n : Nat) : ucnt (drw f t) n = ucnt f n - (if t < ucnt f n then 1 else 0) := by
  induction n with
  | zero => show (0 : Int) = 0 - _; rw [if_neg (by show ¬ t < 0; omega)]; rfl
  | succ n ih =>
    rw [uc_s, ih, uc_s]
    by_cases r : f n = 0
    · by_cases q : ucnt f n = t
      · have hd : drw f t n = 1 := if_pos ⟨r, q⟩
        rw [hd, if_neg (show ¬ (1 : Int) = 0 by decide), if_pos r]
        split <;> split <;> omega
      · have hd : drw f t n = f n := if_neg (fun z => q z.2)
        rw [hd, if_pos r]
        split <;> split <;> omega
    · have hd : drw f t n = f n := if_neg (fun z => r z.1)
      rw [hd, if_neg r]
      split <;> split <;> omega
theorem uc_x (f : Nat → Int) {m0 : Nat} (h0 : ¬ f m0 = 0) (n : Nat) : ucnt (fun m => if m = m0 then 0 else f m) n = ucnt f n + (if m0 < n then 1 else 0) := by
  induction n with
  | zero => rfl
  | succ n ih =>
    rw [uc_s, ih, uc_s]
    by_cases q : n = m0
    · subst q
      rw [if_pos rfl, if_pos rfl, if_neg h0, if_neg (by omega), if_pos (by omega)]
      try omega
    · rw [if_neg q]
      split <;> split <;> omega
theorem uc_c {f g : Nat → Int} {n : Nat} (h : ∀ j, j < n → f j = g j) : ucnt f n = ucnt g n := by
  induction n with
  | zero => rfl
  | succ n ih => rw [uc_s, uc_s, ih (fun j hj => h j (by omega)), h n (by omega)]
def tuN (s : Nat) : Nat → Nat
  | 0 => s
  | i + 1 => (tuN s i * 61 + 17) % 9973
theorem tuN_s (s i : Nat) : tuN s (i + 1) = (tuN s i * 61 + 17) % 9973 := rfl
theorem tuN_b {s : Nat} (hs : s ≤ 9999) (i : Nat) : tuN s i ≤ 9999 := by
  cases i with
  | zero => exact hs
  | succ i => rw [tuN_s]; omega
def drN (n s : Nat) : Nat → Nat → Int
  | 0 => fun _ => 0
  | i + 1 => drw (drN n s i) ((tuN s (i + 1) % (n - i) : Nat) : Int)
theorem drN_s (n s i : Nat) : drN n s (i + 1) = drw (drN n s i) ((tuN s (i + 1) % (n - i) : Nat) : Int) := rfl
theorem uc_0 (n : Nat) : ucnt (fun _ => 0) n = n := by
  induction n with
  | zero => rfl
  | succ n ih => rw [uc_s, ih, if_pos rfl]; rfl
theorem drN_u (n s i : Nat) (hi : i ≤ 11) (hn : 11 ≤ n) : ucnt (drN n s i) n = ((n - i : Nat) : Int) := by
  induction i with
  | zero => exact uc_0 n
  | succ i ih =>
    have h := ih (by omega)
    have h2 : tuN s (i + 1) % (n - i) < n - i := Nat.mod_lt _ (by omega)
    rw [drN_s, uc_d _ (by omega), h, if_pos (by omega)]
    omega
/-- the worst for a side (0: greatest) of those that are drawn, -1 none -/
def wrN (τ : Wd) (f : Nat → Int) (sd : Int) : Nat → Int
  | 0 => -1
  | m + 1 => if ¬ f m = 0 ∧ (wrN τ f sd m < 0 ∨ (if sd = 0 then τ 181 (wrN τ f sd m).toNat < τ 181 m else τ 181 m < τ 181 (wrN τ f sd m).toNat)) then (m : Int) else wrN τ f sd m
theorem wrN_s (τ : Wd) (f : Nat → Int) (sd : Int) (m : Nat) : wrN τ f sd (m + 1) = if ¬ f m = 0 ∧ (wrN τ f sd m < 0 ∨ (if sd = 0 then τ 181 (wrN τ f sd m).toNat < τ 181 m else τ 181 m < τ 181 (wrN τ f sd m).toNat)) then (m : Int) else wrN τ f sd m := rfl
theorem wrN_b (τ : Wd) (f : Nat → Int) (sd : Int) (m : Nat) : (wrN τ f sd m = -1 ∧ ucnt f m = m) ∨ (0 ≤ wrN τ f sd m ∧ wrN τ f sd m < m ∧ ¬ f (wrN τ f sd m).toNat = 0) := by
  induction m with
  | zero => exact Or.inl ⟨rfl, rfl⟩
  | succ m ih =>
    rw [wrN_s]
    by_cases q : ¬ f m = 0 ∧ (wrN τ f sd m < 0 ∨ (if sd = 0 then τ 181 (wrN τ f sd m).toNat < τ 181 m else τ 181 m < τ 181 (wrN τ f sd m).toNat))
    · rw [if_pos q, tn]
      exact Or.inr ⟨by omega, by omega, q.1⟩
    · rw [if_neg q]
      rcases ih with ⟨h1, h2⟩ | ⟨h1, h2, h3⟩
      · refine Or.inl ⟨h1, ?_⟩
        by_cases r : f m = 0
        · rw [uc_s, h2, if_pos r]
          rfl
        · exact absurd ⟨r, Or.inl (by omega)⟩ q
      · exact Or.inr ⟨h1, by omega, h3⟩
theorem wrN_c {τ : Wd} {f g : Nat → Int} {sd : Int} {n : Nat} (h : ∀ j, j < n → f j = g j) : wrN τ f sd n = wrN τ g sd n := by
  induction n with
  | zero => rfl
  | succ n ih => rw [wrN_s, wrN_s, ih (fun j hj => h j (by omega)), h n (by omega)]
/-- who is left after i have been struck -/
def skN (τ : Wd) (n : Nat) (f : Nat → Int) : Nat → Nat → Int
  | 0 => f
  | i + 1 => fun m : Nat => if (m : Int) = wrN τ (skN τ n f i) ((i % 2 : Nat) : Int) n then 0 else skN τ n f i m
theorem skN_s (τ : Wd) (n : Nat) (f : Nat → Int) (i : Nat) : skN τ n f (i + 1) = fun m : Nat => if (m : Int) = wrN τ (skN τ n f i) ((i % 2 : Nat) : Int) n then 0 else skN τ n f i m := rfl
theorem skN_u {τ : Wd} {n : Nat} {f : Nat → Int} (hf : ucnt f n = (n : Int) - 11) (i : Nat) (hi : i ≤ 6) : ucnt (skN τ n f i) n = (n : Int) - 11 + i := by
  induction i with
  | zero => rw [show skN τ n f 0 = f from rfl, hf]; omega
  | succ i ih =>
    have h := ih (by omega)
    rcases wrN_b τ (skN τ n f i) ((i % 2 : Nat) : Int) n with ⟨_, h2⟩ | ⟨h1, h2, h3⟩
    · omega
    · obtain ⟨m0, hm0⟩ : ∃ m0 : Nat, wrN τ (skN τ n f i) ((i % 2 : Nat) : Int) n = (m0 : Int) := ⟨_, (Int.toNat_of_nonneg h1).symm⟩
      rw [hm0, tn] at h3
      have e : skN τ n f (i + 1) = fun m => if m = m0 then 0 else skN τ n f i m := by
        rw [skN_s, hm0]
        funext m
        by_cases q : m = m0
        · rw [if_pos q, if_pos (by omega)]
        · rw [if_neg q, if_neg (by omega)]
      rw [e, uc_x _ h3, h, if_pos (by omega)]
      omega
def smN (τ : Wd) (f : Nat → Int) : Nat → Int
  | 0 => 0
  | m + 1 => smN τ f m + (if f m = 0 then 0 else τ 181 m)
theorem smN_s (τ : Wd) (f : Nat → Int) (m : Nat) : smN τ f (m + 1) = smN τ f m + (if f m = 0 then 0 else τ 181 m) := rfl
theorem smN_b {τ : Wd} (hR : RNG τ) (f : Nat → Int) (m : Nat) : -9 * (m : Int) ≤ smN τ f m ∧ smN τ f m ≤ 9 * (m : Int) := by
  induction m with
  | zero => exact ⟨Int.le_refl _, Int.le_refl _⟩
  | succ m ih =>
    have := hR.M_lean m
    rw [smN_s]
    split <;> omega
/-- y is the k-th of those that are left -/
def JD (f : Nat → Int) (n : Nat) (k y : Int) : Prop := ∃ m : Nat, m < n ∧ y = (m : Int) ∧ ¬ f m = 0 ∧ (m : Int) - ucnt f m = k
theorem JD_u {f : Nat → Int} {n : Nat} {k x y : Int} (hx : JD f n k x) (hy : JD f n k y) : x = y := by
  obtain ⟨a, ha, rfl, h1, h2⟩ := hx
  obtain ⟨b, hb, rfl, h3, h4⟩ := hy
  have mono : ∀ {a b : Nat}, a ≤ b → (a : Int) - ucnt f a ≤ (b : Int) - ucnt f b := by
    intro a b h
    induction h with
    | refl => exact Int.le_refl _
    | step h ih => rw [uc_s]; split <;> omega
  rcases Nat.lt_trichotomy a b with q | q | q
  · have h5 := mono (show a + 1 ≤ b from q)
    rw [uc_s, if_neg h1] at h5
    omega
  · rw [q]
  · have h5 := mono (show b + 1 ≤ a from q)
    rw [uc_s, if_neg h3] at h5
    omega
section
variable {w κ τ : Wd} {T : Wd → Wd → Prop}
theorem draw_ok (hc : pc w = κ) (hm : pm w = τ) (hE : EQ κ τ) (hR : RNG τ) {n s : Nat} (hn : τ 12 57 = (n : Int)) (h11 : 11 ≤ n) (hs : s ≤ 9999) : Cal 1 102 [.inr (.inr 2), .inl s] w (rV fun u => pc u = κ ∧ pm u = τ ∧ ∀ m, m < n → u 53 m = drN n s 11 m) := by
  have hb := hR.M_members
  generalize hQ : (rV fun u => pc u = κ ∧ pm u = τ ∧ ∀ m, m < n → u 53 m = drN n s 11 m) = Q
  have key2 := Ev.inv (sc := none) (C := Cal 0) (cdk := cd 102) (Q := Q) (N := 11) (I := fun i t => ∃ u : Wd, t = (40, [some (.inr (.inr 2)), none, some (.inl ((n - i : Nat) : Int)), some (.inl ((tuN s i : Nat) : Int)), some (.inl (i : Int)), none, none], [], u) ∧ pc u = κ ∧ pm u = τ ∧ (∀ m, m < n → u 53 m = drN n s i m) ∧ ∀ j, j < n - i → ∃ m : Nat, u 52 j = (m : Int) ∧ m < n ∧ drN n s i m = 0 ∧ ucnt (drN n s i) m = j) (fun i hi t ht h => ?_) (fun t ht => ?_) 0 (Nat.zero_le _)
  · have key := Ev.inv (sc := none) (C := Cal 0) (cdk := cd 102) (Q := Q) (N := n) (I := fun i t => ∃ u : Wd, t = (2, [some (.inr (.inr 2)), some (.inl (s : Int)), some (.inl (i : Int)), none, none, none, none], [], u) ∧ pc u = κ ∧ pm u = τ ∧ ∀ m, m < i → u 53 m = 0 ∧ u 52 m = (m : Int)) (fun i hi t ht h => ?_) (fun t ht => ?_) 0 (Nat.zero_le _)
    · exact en_102 (key _ ⟨w, rfl, hc, hm, fun m h => absurd h (Nat.not_lt_zero m)⟩)
    · obtain ⟨u, rfl, uc, um, hu⟩ := ht
      refine bk_102_2 ?_
      simp only [r2_1 uc, hE.Members_size, hn, tn, wr_s (show i < 2000000 by omega)]
      rw [if_pos (by omega)]
      refine ⟨by omega, by omega, by decide, h _ ⟨_, rfl, ?_, ?_, fun m hm' => ?_⟩⟩
      · rw [pc_out rfl, pc_out rfl]; exact uc
      · rw [pm_out rfl, pm_out rfl]; exact um
      · rcases Nat.lt_or_ge m i with z | z
        · simpa [wst_ap, show m ≠ i by omega] using hu m z
        · obtain rfl : m = i := by omega
          simp [wst_ap]
    · obtain ⟨u, rfl, uc, um, hu⟩ := ht
      refine bk_102_2 ?_
      simp only [r2_1 uc, hE.Members_size, hn]
      rw [if_neg (by omega)]
      exact key2 _ ⟨u, rfl, uc, um, fun m hm' => (hu m hm').1, fun j hj => ⟨j, (hu j (by omega)).2, by omega, rfl, uc_0 j⟩⟩
  · obtain ⟨u, rfl, uc, um, hu, hl⟩ := ht
    refine bk_102_40 ?_
    have ht := tuN_b hs i
    have ht2 := tuN_b hs (i + 1)
    have ht3 : tuN s (i + 1) % (n - i) < n - i := Nat.mod_lt _ (by omega)
    rw [if_pos (by omega), if_pos (by omega), wr_id (x := _ * 61) (by omega) (by omega), wr_id (x := _ + 17) (by omega) (by omega), show ((tuN s i : Nat) : Int) * 61 + 17 = ((tuN s i * 61 + 17 : Nat) : Int) by omega]
    have e1 : imd ((tuN s i * 61 + 17 : Nat) : Int) 9973 = ((tuN s (i + 1) : Nat) : Int) := imd_n (b := 9973) (by omega) (by omega)
    rw [e1, imd_n (by omega) (by omega)]
    generalize hk : tuN s (i + 1) % (n - i) = k at ht3
    obtain ⟨m0, l1, l2, l3, l4⟩ := hl k (by omega)
    simp only [tn, l1]
    refine ⟨by decide, by omega, by omega, by omega, by decide, ?_⟩
    have hd : drN n s (i + 1) = drw (drN n s i) (k : Int) := by rw [drN_s, hk]
    have hst : wr (((n - i : Nat) : Int) + (-1)) = ((n - (i + 1) : Nat) : Int) := by rw [wr_id (by omega) (by omega)]; omega
    rw [hst]
    have key3 := Ev.inv (sc := none) (C := Cal 0) (cdk := cd 102) (Q := Q) (N := n - (i + 1) - k) (I := fun q t => ∃ v : Wd, t = (88, [some (.inr (.inr 2)), none, some (.inl ((n - (i + 1) : Nat) : Int)), some (.inl ((tuN s (i + 1) : Nat) : Int)), some (.inl (i : Int)), none, some (.inl ((k + q : Nat) : Int))], [], v) ∧ pc v = κ ∧ pm v = τ ∧ (∀ m, m < n → v 53 m = drN n s (i + 1) m) ∧ ∀ j, j < n → v 52 j = if k ≤ j ∧ j < k + q then u 52 (j + 1) else u 52 j) (fun q hq t ht h2 => ?_) (fun t ht => ?_) 0 (Nat.zero_le _)
    · refine key3 _ ⟨_, rfl, ?_, ?_, fun m hm' => ?_, fun j hj => ?_⟩
      · rw [pc_out rfl]; exact uc
      · rw [pm_out rfl]; exact um
      · rw [wst_ap, hd]
        unfold drw
        by_cases z : m = m0
        · subst z
          rw [if_pos ⟨rfl, rfl⟩, if_pos ⟨l3, l4⟩]
        · rw [if_neg (fun g => z g.2), if_neg (fun g => z (uc_u g.1 l3 (by rw [g.2, l4]))), hu m hm']
      · rw [wst_ap, if_neg (by omega), if_neg (by omega)]
    · obtain ⟨v, rfl, vc, vm, hv, hvl⟩ := ht
      refine bk_102_88 ?_
      rw [if_pos (by omega), wr_s (show k + q < 2000000 by omega)]
      simp only [tn]
      refine ⟨by omega, by omega, h2 _ ⟨_, rfl, ?_, ?_, fun m hm' => ?_, fun j hj => ?_⟩⟩
      · rw [pc_out rfl]; exact vc
      · rw [pm_out rfl]; exact vm
      · rw [wst_ap, if_neg (by omega), hv m hm']
      · rw [wst_ap]
        by_cases z : j = k + q
        · subst z
          rw [if_pos ⟨rfl, rfl⟩, if_pos (by omega), hvl _ (by omega), if_neg (by omega)]
        · rw [if_neg (fun g => z g.2), hvl _ hj]
          by_cases z2 : k ≤ j ∧ j < k + q
          · rw [if_pos z2, if_pos (by omega)]
          · rw [if_neg z2, if_neg (by omega)]
    · obtain ⟨v, rfl, vc, vm, hv, hvl⟩ := ht
      refine bk_102_88 ?_
      rw [if_neg (by omega), wr_s (show i < 2000000 by omega)]
      refine h _ ⟨v, rfl, vc, vm, hv, fun j hj => ?_⟩
      rw [hvl j (by omega), hd]
      by_cases z : k ≤ j ∧ j < k + (n - (i + 1) - k)
      · rw [if_pos z]
        obtain ⟨m, g1, g2, g3, g4⟩ := hl (j + 1) (by omega)
        refine ⟨m, g1, g2, ?_, ?_⟩
        · unfold drw
          rw [if_neg (fun g => by omega), g3]
        · rw [uc_d _ (by omega), g4, if_pos (by omega)]
          omega
      · rw [if_neg z]
        obtain ⟨m, g1, g2, g3, g4⟩ := hl j (by omega)
        refine ⟨m, g1, g2, ?_, ?_⟩
        · unfold drw
          rw [if_neg (fun g => by omega), g3]
        · rw [uc_d _ (by omega), g4, if_neg (by omega)]
          omega
  · obtain ⟨u, rfl, uc, um, hu, hl⟩ := ht
    refine bk_102_40 ?_
    rw [if_neg (by omega), ← hQ]
    exact ⟨uc, um, hu⟩
theorem worstFor_ok (hc : pc w = κ) (hE : EQ κ τ) (hR : RNG τ) {n : Nat} (hn : τ 12 57 = (n : Int)) {f : Nat → Int} (hf : ∀ m, m < n → w 53 m = f m) {sd : Int} : Cal 1 104 [.inr (.inr 2), .inl sd] w (rI fun y u => y = (if wrN τ f sd n < 0 then -9 else wrN τ f sd n) ∧ u = w) := by
  have hb := hR.M_members
  generalize hQ : (rI fun y u => y = (if wrN τ f sd n < 0 then -9 else wrN τ f sd n) ∧ u = w) = Q
  have key := Ev.count (sc := none) (C := Cal 0) (cdk := cd 104) (Q := Q) (N := n) (S := fun i => (8, [some (.inr (.inr 2)), some (.inl sd), some (.inl (if wrN τ f sd i < 0 then -9 else wrN τ f sd i)), some (.inl (if wrN τ f sd i < 0 then 0 else if sd = 0 then τ 181 (wrN τ f sd i).toNat else - τ 181 (wrN τ f sd i).toNat)), some (.inl (i : Int)), none], [], w)) (fun i hi h => ?_) ?_ 0 (Nat.zero_le _)
  · exact en_104 key
  · refine bk_104_8 ?_
    have hl := hR.M_lean i
    have hw := wrN_b τ f sd i
    have hs := wrN_s τ f sd i
    have hl2 := hR.M_lean (wrN τ f sd i).toNat
    have hfi := hf i hi
    simp only [r2_1 hc, hE.Members_size, hn, r50 hc, hE.Members_leans, tn, hfi, wr_s (show i < 2000000 by omega)]
    rw [if_pos (by omega), wr_id (x := - τ 181 i) (by omega) (by omega)]
    have go : (¬ f i = 0 ∧ (wrN τ f sd i < 0 ∨ (if sd = 0 then τ 181 (wrN τ f sd i).toNat < τ 181 i else τ 181 i < τ 181 (wrN τ f sd i).toNat))) → Ev none (Cal 0) (cd 104) Q (8, [some (.inr (.inr 2)), some (.inl sd), some (.inl (i : Int)), some (.inl (if sd = 0 then τ 181 i else - τ 181 i)), some (.inl ((i + 1 : Nat) : Int)), none], [], w) := fun z => h.cast (by rw [hs, if_pos z, if_neg (show ¬ (i : Int) < 0 by omega), if_neg (show ¬ (i : Int) < 0 by omega), tn])
    have no : ¬ (¬ f i = 0 ∧ (wrN τ f sd i < 0 ∨ (if sd = 0 then τ 181 (wrN τ f sd i).toNat < τ 181 i else τ 181 i < τ 181 (wrN τ f sd i).toNat))) → Ev none (Cal 0) (cd 104) Q (8, [some (.inr (.inr 2)), some (.inl sd), some (.inl (if wrN τ f sd i < 0 then -9 else wrN τ f sd i)), some (.inl (if wrN τ f sd i < 0 then 0 else if sd = 0 then τ 181 (wrN τ f sd i).toNat else - τ 181 (wrN τ f sd i).toNat)), some (.inl ((i + 1 : Nat) : Int)), none], [], w) := fun z => h.cast (by rw [hs, if_neg z])
    refine ite_i (fun a => ?_) (fun a => ?_)
    · simp only [if_pos a] at go no ⊢
      refine ⟨by omega, by omega, ?_⟩
      refine ite_i (fun b => no (fun z => z.1 b)) (fun b => ?_)
      refine ite_i (fun c => ?_) (fun c => ?_)
      · refine go ⟨b, Or.inl ?_⟩
        by_cases g : wrN τ f sd i < 0
        · exact g
        · rw [if_neg g] at c
          omega
      · have g : ¬ wrN τ f sd i < 0 := fun g => c (by rw [if_pos g])
        rw [if_neg g]
        simp only [if_neg g] at no
        refine ite_i (fun e => ?_) (fun e => ?_)
        · exact go ⟨b, Or.inr e⟩
        · rw [if_neg g]
          refine no (fun z => ?_)
          rcases z.2 with z | z
          · exact g z
          · exact e z
    · simp only [if_neg a] at go no ⊢
      refine ⟨by omega, by omega, ?_⟩
      refine ite_i (fun b => no (fun z => z.1 b)) (fun b => ?_)
      refine ite_i (fun c => ?_) (fun c => ?_)
      · refine go ⟨b, Or.inl ?_⟩
        by_cases g : wrN τ f sd i < 0
        · exact g
        · rw [if_neg g] at c
          omega
      · have g : ¬ wrN τ f sd i < 0 := fun g => c (by rw [if_pos g])
        rw [if_neg g]
        simp only [if_neg g] at no
        refine ite_i (fun e => ?_) (fun e => ?_)
        · exact go ⟨b, Or.inr (by omega)⟩
        · rw [if_neg g]
          refine no (fun z => ?_)
          rcases z.2 with z | z
          · exact g z
          · omega
  · refine bk_104_8 ?_
    simp only [r2_1 hc, hE.Members_size, hn]
    rw [if_neg (by omega), ← hQ]
    exact ⟨rfl, rfl⟩
theorem strike_ok (hc : pc w = κ) (hm : pm w = τ) (hE : EQ κ τ) (hR : RNG τ) {n : Nat} (hn : τ 12 57 = (n : Int)) {f : Nat → Int} (hf : ∀ m, m < n → w 53 m = f m) : Cal 2 103 [.inr (.inr 2)] w (rV fun u => pc u = κ ∧ pm u = τ ∧ ∀ m, m < n → u 53 m = skN τ n f 6 m) := by
  have hb := hR.M_members
  generalize hQ : (rV fun u => pc u = κ ∧ pm u = τ ∧ ∀ m, m < n → u 53 m = skN τ n f 6 m) = Q
  have key := Ev.inv (sc := none) (C := Cal 1) (cdk := cd 103) (Q := Q) (N := 6) (I := fun i t => ∃ u : Wd, t = (2, [some (.inr (.inr 2)), some (.inl (i : Int)), none], [], u) ∧ pc u = κ ∧ pm u = τ ∧ ∀ m, m < n → u 53 m = skN τ n f i m) (fun i hi t ht h => ?_) (fun t ht => ?_) 0 (Nat.zero_le _)
  · exact en_103 (key _ ⟨w, rfl, hc, hm, hf⟩)
  · obtain ⟨u, rfl, uc, um, hu⟩ := ht
    refine bk_103_2 ?_
    have e1 : imd (i : Int) 2 = ((i % 2 : Nat) : Int) := imd_n (b := 2) (by omega) (by omega)
    rw [if_pos (by omega), e1, wr_s (show i < 2000000 by omega)]
    refine ⟨by decide, ?_⟩
    refine CalE.to (worstFor_ok uc hE hR hn hu) (by decide) ?_
    have hs := skN_s τ n f i
    have hw := wrN_b τ (skN τ n f i) ((i % 2 : Nat) : Int) n
    refine ite_i (fun q => ?_) (fun q => ?_)
    · refine h _ ⟨u, rfl, uc, um, fun m hm' => ?_⟩
      have g : wrN τ (skN τ n f i) ((i % 2 : Nat) : Int) n < 0 := by
        by_cases g : wrN τ (skN τ n f i) ((i % 2 : Nat) : Int) n < 0
        · exact g
        · rw [if_neg g] at q
          omega
      rw [hs, hu m hm']
      show _ = if (m : Int) = wrN τ (skN τ n f i) ((i % 2 : Nat) : Int) n then 0 else skN τ n f i m
      rw [if_neg (by omega)]
    · have g : ¬ wrN τ (skN τ n f i) ((i % 2 : Nat) : Int) n < 0 := fun g => q (by rw [if_pos g])
      rw [if_neg g]
      refine ⟨by omega, by decide, h _ ⟨_, rfl, ?_, ?_, fun m hm' => ?_⟩⟩
      · rw [pc_out rfl]; exact uc
      · rw [pm_out rfl]; exact um
      · rw [wst_ap, hs, hu m hm']
        show _ = if (m : Int) = wrN τ (skN τ n f i) ((i % 2 : Nat) : Int) n then 0 else skN τ n f i m
        by_cases z : (m : Int) = wrN τ (skN τ n f i) ((i % 2 : Nat) : Int) n
        · rw [if_pos z, if_pos ⟨rfl, by omega⟩]
        · rw [if_neg z, if_neg (by omega)]
  · obtain ⟨u, rfl, uc, um, hu⟩ := ht
    refine bk_103_2 ?_
    rw [if_neg (by omega), ← hQ]
    exact ⟨uc, um, hu⟩
theorem judge_ok (hc : pc w = κ) (hE : EQ κ τ) (hR : RNG τ) {n : Nat} (hn : τ 12 57 = (n : Int)) {f : Nat → Int} (hf : ∀ m, m < n → w 53 m = f m) {k : Int} (hk : 0 ≤ k ∧ k < (n : Int) - ucnt f n) : Cal 1 106 [.inr (.inr 2), .inl k] w (rI fun y u => JD f n k y ∧ u = w) := by
  have hb := hR.M_members
  generalize hQ : (rI fun y u => JD f n k y ∧ u = w) = Q
  have key := Ev.inv (sc := none) (C := Cal 0) (cdk := cd 106) (Q := Q) (N := n) (I := fun i t => t = (4, [some (.inr (.inr 2)), some (.inl k), some (.inl ((i : Int) - ucnt f i)), some (.inl (i : Int))], [], w) ∧ (i : Int) - ucnt f i ≤ k) (fun i hi t ht h => ?_) (fun t ht => ?_) 0 (Nat.zero_le _)
  · exact en_106 (key _ ⟨rfl, hk.1⟩)
  · obtain ⟨rfl, hle⟩ := ht
    refine bk_106_4 ?_
    have hu := uc_b f i
    have hus := uc_s f i
    simp only [r2_1 hc, hE.Members_size, hn, tn, hf i hi, wr_s (show i < 2000000 by omega)]
    rw [if_pos (by omega)]
    refine ⟨by omega, ?_⟩
    refine ite_i (fun q => ?_) (fun q => ?_)
    · rw [if_pos q] at hus
      refine h _ ⟨?_, by omega⟩
      rw [hus, show ((i + 1 : Nat) : Int) - (ucnt f i + 1) = (i : Int) - ucnt f i by omega]
    · rw [if_neg q] at hus
      refine ite_i (fun r => ?_) (fun r => ?_)
      · rw [← hQ]
        exact ⟨⟨i, hi, rfl, q, r⟩, rfl⟩
      · rw [wr_id (x := _ + 1) (by omega) (by omega)]
        refine h _ ⟨?_, by omega⟩
        rw [hus, show ((i + 1 : Nat) : Int) - (ucnt f i + 0) = (i : Int) - ucnt f i + 1 by omega]
  · obtain ⟨rfl, hle⟩ := ht
    omega
theorem verdict_ok (hc : pc w = κ) (hE : EQ κ τ) (hR : RNG τ) {n : Nat} (hn : τ 12 57 = (n : Int)) {f : Nat → Int} (hf : ∀ m, m < n → w 53 m = f m) : Cal 1 105 [.inr (.inr 2)] w (rI fun y u => y = b2 (0 < smN τ f n) ∧ u = w) := by
  have hb := hR.M_members
  generalize hQ : (rI fun y u => y = b2 (0 < smN τ f n) ∧ u = w) = Q
  have key := Ev.count (sc := none) (C := Cal 0) (cdk := cd 105) (Q := Q) (N := n) (S := fun i => (4, [some (.inr (.inr 2)), some (.inl (smN τ f i)), some (.inl (i : Int))], [], w)) (fun i hi h => ?_) ?_ 0 (Nat.zero_le _)
  · exact en_105 key
  · refine bk_105_4 ?_
    have hu := smN_b hR f i
    have hus := smN_s τ f i
    have hl := hR.M_lean i
    simp only [r2_1 hc, hE.Members_size, hn, r50 hc, hE.Members_leans, tn, hf i hi, wr_s (show i < 2000000 by omega)]
    rw [if_pos (by omega), wr_id (by omega) (by omega), wr_id (by omega) (by omega)]
    refine ⟨by omega, ?_⟩
    refine ite_i (fun q => ?_) (fun q => ?_)
    · rw [if_pos q] at hus
      rw [← hus]
      exact h
    · rw [if_neg q] at hus
      refine ⟨by omega, ?_⟩
      rw [← hus]
      exact h
  · refine bk_105_4 ?_
    simp only [r2_1 hc, hE.Members_size, hn]
    rw [if_neg (by omega), ← hQ]
    unfold b2
    refine ite_i (fun q => ?_) (fun q => ?_)
    · rw [if_pos q]; exact ⟨rfl, rfl⟩
    · rw [if_neg q]; exact ⟨rfl, rfl⟩
theorem drawLot_ok (hm : pm w = τ) (hR : RNG τ) {n s : Nat} (hn : τ 12 57 = (n : Int)) (h11 : 11 ≤ n) (hs : s ≤ 9999) : Cal 1 208 [.inr (.inr 12), .inl s] w (rV fun u => pc u = pc w ∧ pm u = τ ∧ ∀ m, m < n → u 182 m = skN τ n (drN n s 11) 6 m) := by
  have hb := hR.M_members
  generalize hQ : (rV fun u => pc u = pc w ∧ pm u = τ ∧ ∀ m, m < n → u 182 m = skN τ n (drN n s 11) 6 m) = Q
  have key3 := Ev.inv (sc := none) (C := Cal 0) (cdk := cd 208) (Q := Q) (N := 6) (I := fun i t => ∃ u : Wd, t = (115, [some (.inr (.inr 12)), none, none, some (.inl (i : Int)), none, none, none], [], u) ∧ pc u = pc w ∧ pm u = τ ∧ ∀ m, m < n → u 182 m = skN τ n (drN n s 11) i m) (fun i hi t ht h => ?_) (fun t ht => ?_) 0 (Nat.zero_le _)
  · have key2 := Ev.inv (sc := none) (C := Cal 0) (cdk := cd 208) (Q := Q) (N := 11) (I := fun i t => ∃ u : Wd, t = (27, [some (.inr (.inr 12)), none, some (.inl ((tuN s i : Nat) : Int)), some (.inl (i : Int)), none, none, none], [], u) ∧ pc u = pc w ∧ pm u = τ ∧ ∀ m, m < n → u 182 m = drN n s i m) (fun i hi t ht h => ?_) (fun t ht => ?_) 0 (Nat.zero_le _)
    · have key := Ev.inv (sc := none) (C := Cal 0) (cdk := cd 208) (Q := Q) (N := n) (I := fun i t => ∃ u : Wd, t = (4, [some (.inr (.inr 12)), none, some (.inl (s : Int)), some (.inl (i : Int)), none, none, none], [], u) ∧ pc u = pc w ∧ pm u = τ ∧ ∀ m, m < i → u 182 m = 0) (fun i hi t ht h => ?_) (fun t ht => ?_) 0 (Nat.zero_le _)
      · exact en_208 (key _ ⟨w, rfl, rfl, hm, fun m h => absurd h (Nat.not_lt_zero m)⟩)
      · obtain ⟨u, rfl, uc, um, hu⟩ := ht
        refine bk_208_4 ?_
        simp only [r12_57 um, hn, tn, wr_s (show i < 2000000 by omega)]
        rw [if_pos (by omega)]
        refine ⟨by omega, by decide, h _ ⟨_, rfl, ?_, ?_, fun m hm' => ?_⟩⟩
        · rw [pc_out rfl]; exact uc
        · rw [pm_out rfl]; exact um
        · rw [wst_ap]
          by_cases z : m = i
          · rw [if_pos ⟨rfl, z⟩]
          · rw [if_neg (fun g => z g.2), hu m (by omega)]
      · obtain ⟨u, rfl, uc, um, hu⟩ := ht
        refine bk_208_4 ?_
        simp only [r12_57 um, hn]
        rw [if_neg (by omega)]
        exact key2 _ ⟨u, rfl, uc, um, hu⟩
    · obtain ⟨u, rfl, uc, um, hu⟩ := ht
      refine bk_208_27 ?_
      have ht := tuN_b hs i
      have ht2 := tuN_b hs (i + 1)
      have ht3 : tuN s (i + 1) % (n - i) < n - i := Nat.mod_lt _ (by omega)
      have e1 : imd ((tuN s i * 61 + 17 : Nat) : Int) 9973 = ((tuN s (i + 1) : Nat) : Int) := imd_n (b := 9973) (by omega) (by omega)
      simp only [r12_57 um, hn]
      rw [if_pos (by omega), wr_id (x := _ * 61) (by omega) (by omega), wr_id (x := _ + 17) (by omega) (by omega), show ((tuN s i : Nat) : Int) * 61 + 17 = ((tuN s i * 61 + 17 : Nat) : Int) by omega, e1, wr_id (x := (n : Int) - (i : Int)) (by omega) (by omega), show (n : Int) - (i : Int) = ((n - i : Nat) : Int) by omega, imd_n (by omega) (by omega)]
      refine ⟨by decide, by omega, ?_⟩
      generalize hk : tuN s (i + 1) % (n - i) = k at ht3
      have hd : drN n s (i + 1) = drw (drN n s i) (k : Int) := by rw [drN_s, hk]
      have hun := drN_u n s i (by omega) h11
      have lp : ∀ r m : Nat, n - m = r → m ≤ n → ucnt (drN n s i) m ≤ (k : Int) → Ev none (Cal 0) (cd 208) Q (58, [some (.inr (.inr 12)), none, some (.inl ((tuN s (i + 1) : Nat) : Int)), some (.inl (i : Int)), some (.inl ((k : Int) - ucnt (drN n s i) m)), some (.inl (m : Int)), none], [], u) := by
        intro r
        induction r with
        | zero =>
          intro m h1 h2 h3
          obtain rfl : m = n := by omega
          omega
        | succ r ih =>
          intro m h1 h2 h3
          have hmn : m < n := by omega
          have hub := uc_b (drN n s i) m
          have hus := uc_s (drN n s i) m
          refine bk_208_58 ?_
          simp only [tn, hu m hmn, wr_s (show m < 2000000 by omega)]
          rw [wr_id (x := _ - 1) (by omega) (by omega), wr_id (x := _ - 0) (by omega) (by omega)]
          refine ⟨by omega, ?_⟩
          refine ite_i (fun q => ?_) (fun q => ?_)
          · rw [if_pos q] at hus
            refine ite_i (fun z => ?_) (fun z => ?_)
            · refine ⟨by omega, ?_⟩
              rw [if_pos q]
              have := ih (m + 1) (by omega) (by omega) (by omega)
              rw [hus] at this
              rw [show (k : Int) - ucnt (drN n s i) m - 1 = (k : Int) - (ucnt (drN n s i) m + 1) by omega]
              exact this
            · refine ⟨by omega, by decide, ?_⟩
              rw [wr_s (show i < 2000000 by omega)]
              refine h _ ⟨_, rfl, ?_, ?_, fun j hj => ?_⟩
              · rw [pc_out rfl]; exact uc
              · rw [pm_out rfl]; exact um
              · rw [wst_ap, hd]
                unfold drw
                by_cases y : j = m
                · subst y
                  rw [if_pos ⟨rfl, rfl⟩, if_pos ⟨q, by omega⟩]
                · rw [if_neg (fun g => y g.2), if_neg (fun g => y (uc_u g.1 q (by omega))), hu j hj]
          · rw [if_neg q] at hus
            refine ⟨by omega, ?_⟩
            rw [if_neg q]
            have := ih (m + 1) (by omega) (by omega) (by omega)
            rw [hus] at this
            rw [show (k : Int) - ucnt (drN n s i) m - 0 = (k : Int) - (ucnt (drN n s i) m + 0) by omega]
            exact this
      have := lp n 0 (by omega) (by omega) (by show (0 : Int) ≤ _; omega)
      rw [show (k : Int) - ucnt (drN n s i) 0 = (k : Int) from Int.sub_zero _] at this
      exact this
    · obtain ⟨u, rfl, uc, um, hu⟩ := ht
      refine bk_208_27 ?_
      rw [if_neg (by omega)]
      exact key3 _ ⟨u, rfl, uc, um, hu⟩
  · obtain ⟨u, rfl, uc, um, hu⟩ := ht
    refine bk_208_115 ?_
    rw [if_pos (by omega)]
    have hs' := skN_s τ n (drN n s 11) i
    have hun : ucnt (skN τ n (drN n s 11) i) n = (n : Int) - 11 + i := skN_u (by rw [drN_u n s 11 (by omega) h11]; omega) i (by omega)
    generalize skN τ n (drN n s 11) i = f at hu hs' hun
    have e1 : imd (i : Int) 2 = ((i % 2 : Nat) : Int) := imd_n (b := 2) (by omega) (by omega)
    have key4 := Ev.count (sc := none) (C := Cal 0) (cdk := cd 208) (Q := Q) (N := n) (S := fun j => (127, [some (.inr (.inr 12)), none, none, some (.inl (i : Int)), some (.inl (wrN τ f ((i % 2 : Nat) : Int) j)), some (.inl (j : Int)), none], [], u)) (fun j hj h2 => ?_) ?_ 0 (Nat.zero_le _)
    · exact key4
    · refine bk_208_127 ?_
      have hw := wrN_b τ f ((i % 2 : Nat) : Int) j
      have hws := wrN_s τ f ((i % 2 : Nat) : Int) j
      simp only [r12_57 um, hn, r181 um, tn, hu j hj, wr_s (show j < 2000000 by omega), e1]
      rw [if_pos (by omega)]
      generalize ((i % 2 : Nat) : Int) = sd at hw hws h2 ⊢
      have go : (¬ f j = 0 ∧ (wrN τ f sd j < 0 ∨ (if sd = 0 then τ 181 (wrN τ f sd j).toNat < τ 181 j else τ 181 j < τ 181 (wrN τ f sd j).toNat))) → Ev none (Cal 0) (cd 208) Q (127, [some (.inr (.inr 12)), none, none, some (.inl (i : Int)), some (.inl (j : Int)), some (.inl ((j + 1 : Nat) : Int)), none], [], u) := fun z => h2.cast (by rw [hws, if_pos z])
      have no : ¬ (¬ f j = 0 ∧ (wrN τ f sd j < 0 ∨ (if sd = 0 then τ 181 (wrN τ f sd j).toNat < τ 181 j else τ 181 j < τ 181 (wrN τ f sd j).toNat))) → Ev none (Cal 0) (cd 208) Q (127, [some (.inr (.inr 12)), none, none, some (.inl (i : Int)), some (.inl (wrN τ f sd j)), some (.inl ((j + 1 : Nat) : Int)), none], [], u) := fun z => h2.cast (by rw [hws, if_neg z])
      refine ite_i (fun a => ?_) (fun a => ?_)
      · refine ⟨by omega, ?_⟩
        exact ite_i (fun b => no (fun z => z.1 b)) (fun b => go ⟨b, Or.inl a⟩)
      · refine ⟨by decide, ?_⟩
        refine ite_i (fun c => ?_) (fun c => ?_)
        · rw [if_pos c] at go no
          refine ⟨by omega, by omega, ?_⟩
          refine ite_i (fun e => ?_) (fun e => ?_)
          · refine ⟨by omega, ?_⟩
            exact ite_i (fun b => no (fun z => z.1 b)) (fun b => go ⟨b, Or.inr e⟩)
          · refine ⟨by omega, ?_⟩
            have nn := no (fun z => by
              rcases z.2 with z | z
              · exact a z
              · exact e z)
            exact ite_i (fun b => nn) (fun b => nn)
        · rw [if_neg c] at go no
          refine ⟨by omega, by omega, ?_⟩
          refine ite_i (fun e => ?_) (fun e => ?_)
          · refine ⟨by omega, ?_⟩
            exact ite_i (fun b => no (fun z => z.1 b)) (fun b => go ⟨b, Or.inr e⟩)
          · refine ⟨by omega, ?_⟩
            have nn := no (fun z => by
              rcases z.2 with z | z
              · exact a z
              · exact e z)
            exact ite_i (fun b => nn) (fun b => nn)
    · refine bk_208_127 ?_
      have hw := wrN_b τ f ((i % 2 : Nat) : Int) n
      simp only [r12_57 um, hn]
      rw [if_neg (by omega), wr_s (show i < 2000000 by omega)]
      have hw2 : 0 ≤ wrN τ f ((i % 2 : Nat) : Int) n ∧ wrN τ f ((i % 2 : Nat) : Int) n < n := by omega
      refine ⟨by omega, by decide, h _ ⟨_, rfl, ?_, ?_, fun m hm' => ?_⟩⟩
      · rw [pc_out rfl]; exact uc
      · rw [pm_out rfl]; exact um
      · rw [wst_ap, hs', hu m hm']
        show _ = if (m : Int) = wrN τ f ((i % 2 : Nat) : Int) n then 0 else f m
        by_cases z : (m : Int) = wrN τ f ((i % 2 : Nat) : Int) n
        · rw [if_pos z, if_pos ⟨rfl, by omega⟩]
        · rw [if_neg z, if_neg (by omega)]
  · obtain ⟨u, rfl, uc, um, hu⟩ := ht
    refine bk_208_115 ?_
    rw [if_neg (by omega), ← hQ]
    exact ⟨uc, um, hu⟩
theorem mlot_l (hm : pm w = τ) (hR : RNG τ) {n : Nat} (hn : τ 12 57 = (n : Int)) {f : Nat → Int} (hf : ∀ m, m < n → w 182 m = f m) {k : Int} (hk : 0 ≤ k ∧ k ≤ 5) (h5 : (n : Int) - ucnt f n = 5) {d : Nat} {Q : Option AV → Wd → Prop} (h1 : k < 5 → ∀ y, JD f n k y → Q (some (.inl y)) w) (h2 : ¬ k < 5 → Q (some (.inl (b2 (0 < smN τ f n)))) w) : Ev none (Cal d) (cd 207) Q (72, [some (.inr (.inr 12)), none, some (.inl k), some (.inl 0), some (.inl 0), some (.inl 0), some (.inl 0)], [], w) := by
  have hb := hR.M_members
  have key := Ev.inv (sc := none) (C := Cal d) (cdk := cd 207) (Q := Q) (N := n) (I := fun i t => ∃ y : Int, t = (72, [some (.inr (.inr 12)), none, some (.inl k), some (.inl ((i : Int) - ucnt f i)), some (.inl (smN τ f i)), some (.inl y), some (.inl (i : Int))], [], w) ∧ (k < (i : Int) - ucnt f i → JD f n k y)) (fun i hi t ht h => ?_) (fun t ht => ?_) 0 (Nat.zero_le _)
  · exact key _ ⟨0, rfl, fun z => by exact absurd z (by show ¬ k < 0; omega)⟩
  · obtain ⟨y, rfl, hy⟩ := ht
    refine bk_207_72 ?_
    have hu := uc_b f i
    have hus := uc_s f i
    have hv := smN_b hR f i
    have hvs := smN_s τ f i
    have hl := hR.M_lean i
    simp only [r12_57 hm, hn, r181 hm, tn, hf i hi, wr_s (show i < 2000000 by omega)]
    rw [if_pos (by omega), wr_id (x := _ + 1) (by omega) (by omega), wr_id (x := smN τ f i + _) (by omega) (by omega)]
    refine ⟨by omega, ?_⟩
    refine ite_i (fun q => ?_) (fun q => ?_)
    · rw [if_pos q] at hus hvs
      refine h _ ⟨y, ?_, fun z => hy (by omega)⟩
      rw [hus, hvs, show ((i + 1 : Nat) : Int) - (ucnt f i + 1) = (i : Int) - ucnt f i by omega, Int.add_zero]
    · rw [if_neg q] at hus hvs
      refine ite_i (fun r => ?_) (fun r => ?_)
      · refine ⟨by omega, h _ ⟨_, ?_, fun z => ⟨i, hi, rfl, q, r⟩⟩⟩
        rw [hus, hvs, show ((i + 1 : Nat) : Int) - (ucnt f i + 0) = (i : Int) - ucnt f i + 1 by omega]
      · refine ⟨by omega, h _ ⟨y, ?_, fun z => hy (by omega)⟩⟩
        rw [hus, hvs, show ((i + 1 : Nat) : Int) - (ucnt f i + 0) = (i : Int) - ucnt f i + 1 by omega]
  · obtain ⟨y, rfl, hy⟩ := ht
    refine bk_207_72 ?_
    simp only [r12_57 hm, hn]
    rw [if_neg (by omega)]
    unfold b2 at h2
    refine ite_i (fun q => h1 q _ (hy (by omega))) (fun q => ?_)
    have h3 := h2 q
    refine ite_i (fun r => ?_) (fun r => ?_)
    · rw [if_pos r] at h3
      exact h3
    · rw [if_neg r] at h3
      exact h3
theorem both_lot (hT : TFr T) (hO : OKW T w) {a b : Int} : Cal 12 101 [.inr (.inr 11), .inl a, .inl b] w (rI fun x u => Cal 12 207 [.inr (.inr 12), .inl a, .inl b] u (rI fun y v => x = y ∧ OKW T v)) := by
  obtain ⟨κ, hc⟩ : ∃ κ, pc w = κ := ⟨_, rfl⟩
  obtain ⟨τ, hm⟩ : ∃ τ, pm w = τ := ⟨_, rfl⟩
  unfold OKW at hO
  rw [hc, hm] at hO
  obtain ⟨hE, hR, ht⟩ := id hO
  have hb := hR.M_members
  have e1 := (r2_1 hc).trans hE.Members_size
  refine en_101 ?_
  refine CalB isWithin_ok (by decide) (fun q => ?_) (fun q => ?_)
  · rw [if_neg (by decide)]
    refine ite_i (fun r => ?_) (fun r => ?_)
    · refine CalI.to (refuse_ok hc hm (by omega)) (by decide) ?_; rintro _ u ⟨rfl, uc, um⟩;
      refine en_207 ?_
      repeat' (first | (rw [if_pos (by omega)]) | (rw [if_neg (by omega)]) | (refine And.intro (by first | omega | exact Or.inl trivial | exact Or.inr trivial | exact ⟨trivial, trivial⟩ | fail) ?_) | (refine CalT in_ok (by decide) (by omega) ?_) | (refine CalF in_ok (by decide) (by omega) ?_) | (refine CalT (isPlace_ok um hR) (by decide) (by omega) ?_) | (refine CalF (isPlace_ok um hR) (by decide) (by omega) ?_) | (refine CalT (isPerson_ok um hR) (by decide) (by omega) ?_) | (refine CalF (isPerson_ok um hR) (by decide) (by omega) ?_) | (refine CalT (isText_ok um hR) (by decide) (by omega) ?_) | (refine CalF (isText_ok um hR) (by decide) (by omega) ?_) | (refine CalT (isPetitionAt_ok um hR) (by decide) (by omega) ?_) | (refine CalF (isPetitionAt_ok um hR) (by decide) (by omega) ?_) | (refine CalT (isLine_ok um hR) (by decide) (by omega) ?_) | (refine CalF (isLine_ok um hR) (by decide) (by omega) ?_) | (refine CalT mIsKnot_ok (by decide) (by omega) ?_) | (refine CalF mIsKnot_ok (by decide) (by omega) ?_) | (refine CalT mIsNight_ok (by decide) (by omega) ?_) | (refine CalF mIsNight_ok (by decide) (by omega) ?_) | (refine bk_175_75 ?_) | (refine CalE.to bounds_ok (by decide) ?_) | (refine CalE.to wrongDays_ok (by decide) ?_) | (exact CalK (fin_rf hT hO uc um (by omega) (by omega)) (by decide)) | (exact CalK (fin_rfF hT hO uc um (by omega) (by omega)) (by decide)) | fail);
    · refine ite_i (fun s => ?_) (fun s => ?_)
      · refine CalI.to (refuse_ok hc hm (by omega)) (by decide) ?_; rintro _ u ⟨rfl, uc, um⟩;
        refine en_207 ?_
        repeat' (first | (rw [if_pos (by omega)]) | (rw [if_neg (by omega)]) | (refine And.intro (by first | omega | exact Or.inl trivial | exact Or.inr trivial | exact ⟨trivial, trivial⟩ | fail) ?_) | (refine CalT in_ok (by decide) (by omega) ?_) | (refine CalF in_ok (by decide) (by omega) ?_) | (refine CalT (isPlace_ok um hR) (by decide) (by omega) ?_) | (refine CalF (isPlace_ok um hR) (by decide) (by omega) ?_) | (refine CalT (isPerson_ok um hR) (by decide) (by omega) ?_) | (refine CalF (isPerson_ok um hR) (by decide) (by omega) ?_) | (refine CalT (isText_ok um hR) (by decide) (by omega) ?_) | (refine CalF (isText_ok um hR) (by decide) (by omega) ?_) | (refine CalT (isPetitionAt_ok um hR) (by decide) (by omega) ?_) | (refine CalF (isPetitionAt_ok um hR) (by decide) (by omega) ?_) | (refine CalT (isLine_ok um hR) (by decide) (by omega) ?_) | (refine CalF (isLine_ok um hR) (by decide) (by omega) ?_) | (refine CalT mIsKnot_ok (by decide) (by omega) ?_) | (refine CalF mIsKnot_ok (by decide) (by omega) ?_) | (refine CalT mIsNight_ok (by decide) (by omega) ?_) | (refine CalF mIsNight_ok (by decide) (by omega) ?_) | (refine bk_175_75 ?_) | (refine CalE.to bounds_ok (by decide) ?_) | (refine CalE.to wrongDays_ok (by decide) ?_) | (exact CalK (fin_rf hT hO uc um (by omega) (by omega)) (by decide)) | (exact CalK (fin_rfF hT hO uc um (by omega) (by omega)) (by decide)) | fail);
      · refine ite_i (fun t => ?_) (fun t => ?_)
        · refine CalI.to (refuse_ok hc hm (by omega)) (by decide) ?_; rintro _ u ⟨rfl, uc, um⟩;
          have e2 := r12_57 um
          refine en_207 ?_
          repeat' (first | (rw [if_pos (by omega)]) | (rw [if_neg (by omega)]) | (refine And.intro (by first | omega | exact Or.inl trivial | exact Or.inr trivial | exact ⟨trivial, trivial⟩ | fail) ?_) | (refine CalT in_ok (by decide) (by omega) ?_) | (refine CalF in_ok (by decide) (by omega) ?_) | (refine CalT (isPlace_ok um hR) (by decide) (by omega) ?_) | (refine CalF (isPlace_ok um hR) (by decide) (by omega) ?_) | (refine CalT (isPerson_ok um hR) (by decide) (by omega) ?_) | (refine CalF (isPerson_ok um hR) (by decide) (by omega) ?_) | (refine CalT (isText_ok um hR) (by decide) (by omega) ?_) | (refine CalF (isText_ok um hR) (by decide) (by omega) ?_) | (refine CalT (isPetitionAt_ok um hR) (by decide) (by omega) ?_) | (refine CalF (isPetitionAt_ok um hR) (by decide) (by omega) ?_) | (refine CalT (isLine_ok um hR) (by decide) (by omega) ?_) | (refine CalF (isLine_ok um hR) (by decide) (by omega) ?_) | (refine CalT mIsKnot_ok (by decide) (by omega) ?_) | (refine CalF mIsKnot_ok (by decide) (by omega) ?_) | (refine CalT mIsNight_ok (by decide) (by omega) ?_) | (refine CalF mIsNight_ok (by decide) (by omega) ?_) | (refine bk_175_75 ?_) | (refine CalE.to bounds_ok (by decide) ?_) | (refine CalE.to wrongDays_ok (by decide) ?_) | (exact CalK (fin_rf hT hO uc um (by omega) (by omega)) (by decide)) | (exact CalK (fin_rfF hT hO uc um (by omega) (by omega)) (by decide)) | fail);
        · obtain ⟨n, hn⟩ : ∃ n : Nat, τ 12 57 = (n : Int) := ⟨(τ 12 57).toNat, by omega⟩
          obtain ⟨sd, rfl⟩ : ∃ sd : Nat, a = (sd : Int) := ⟨a.toNat, by omega⟩
          have hu6 : (n : Int) - ucnt (skN τ n (drN n sd 11) 6) n = 5 := by rw [skN_u (by rw [drN_u n sd 11 (by omega) (by omega)]; omega) 6 (by omega)]; omega
          have fin : ∀ {v : Wd} {K : Int → Wd → Prop}, pm v = τ → (∀ v2, pc v2 = pc v → pm v2 = τ → (b < 5 → ∀ y, JD (skN τ n (drN n sd 11) 6) n b y → K y v2) ∧ (¬ b < 5 → K (b2 (0 < smN τ (skN τ n (drN n sd 11) 6) n)) v2)) → Cal 12 207 [.inr (.inr 12), .inl (sd : Int), .inl b] v (rI K) := by
            intro v K vm hK
            have e2 := r12_57 vm
            refine en_207 ?_
            repeat' (first | (rw [if_pos (by omega)]) | (rw [if_neg (by omega)]) | (refine And.intro (by first | omega | exact Or.inl trivial | exact Or.inr trivial | exact ⟨trivial, trivial⟩ | fail) ?_) | (refine CalT in_ok (by decide) (by omega) ?_) | (refine CalF in_ok (by decide) (by omega) ?_) | (refine CalT (isPlace_ok um hR) (by decide) (by omega) ?_) | (refine CalF (isPlace_ok um hR) (by decide) (by omega) ?_) | (refine CalT (isPerson_ok um hR) (by decide) (by omega) ?_) | (refine CalF (isPerson_ok um hR) (by decide) (by omega) ?_) | (refine CalT (isText_ok um hR) (by decide) (by omega) ?_) | (refine CalF (isText_ok um hR) (by decide) (by omega) ?_) | (refine CalT (isPetitionAt_ok um hR) (by decide) (by omega) ?_) | (refine CalF (isPetitionAt_ok um hR) (by decide) (by omega) ?_) | (refine CalT (isLine_ok um hR) (by decide) (by omega) ?_) | (refine CalF (isLine_ok um hR) (by decide) (by omega) ?_) | (refine CalT mIsKnot_ok (by decide) (by omega) ?_) | (refine CalF mIsKnot_ok (by decide) (by omega) ?_) | (refine CalT mIsNight_ok (by decide) (by omega) ?_) | (refine CalF mIsNight_ok (by decide) (by omega) ?_) | (refine bk_175_75 ?_) | (refine CalE.to bounds_ok (by decide) ?_) | (refine CalE.to wrongDays_ok (by decide) ?_) | (exact CalK (fin_rf hT hO uc um (by omega) (by omega)) (by decide)) | (exact CalK (fin_rfF hT hO uc um (by omega) (by omega)) (by decide)) | fail);
            refine CalV.to (drawLot_ok vm hR hn (by omega) (by omega)) (by decide) ?_
            rintro v2 ⟨vc2, vm2, hv2⟩
            exact mlot_l vm2 hR hn hv2 q hu6 (hK v2 vc2 vm2).1 (hK v2 vc2 vm2).2
          refine CalV.to (draw_ok hc hm hE hR hn (by omega) (by omega)) (by decide) ?_
          rintro u ⟨uc, um, hu⟩
          refine CalV.to (strike_ok uc um hE hR hn hu) (by decide) ?_
          rintro v ⟨vc, vm, hv⟩
          refine ite_i (fun g => ?_) (fun g => ?_)
          · refine CalE.to (verdict_ok vc hE hR hn hv) (by decide) ?_
            refine fin vm (fun v2 c2 m2 => ⟨fun z => by omega, fun _ => ⟨rfl, OKW.of hO (c2.trans vc) m2⟩⟩)
          · refine CalI.to (judge_ok vc hE hR hn hv (by omega)) (by decide) ?_
            rintro x v3 ⟨hx, rfl⟩
            refine fin vm (fun v2 c2 m2 => ⟨fun _ y hy => ⟨JD_u hx hy, OKW.of hO (c2.trans vc) m2⟩, fun z => by omega⟩)
  · rw [if_pos rfl]
    refine CalI.to (refuse_ok hc hm (by omega)) (by decide) ?_; rintro _ u ⟨rfl, uc, um⟩;
    refine en_207 ?_
    repeat' (first | (rw [if_pos (by omega)]) | (rw [if_neg (by omega)]) | (refine And.intro (by first | omega | exact Or.inl trivial | exact Or.inr trivial | exact ⟨trivial, trivial⟩ | fail) ?_) | (refine CalT in_ok (by decide) (by omega) ?_) | (refine CalF in_ok (by decide) (by omega) ?_) | (refine CalT (isPlace_ok um hR) (by decide) (by omega) ?_) | (refine CalF (isPlace_ok um hR) (by decide) (by omega) ?_) | (refine CalT (isPerson_ok um hR) (by decide) (by omega) ?_) | (refine CalF (isPerson_ok um hR) (by decide) (by omega) ?_) | (refine CalT (isText_ok um hR) (by decide) (by omega) ?_) | (refine CalF (isText_ok um hR) (by decide) (by omega) ?_) | (refine CalT (isPetitionAt_ok um hR) (by decide) (by omega) ?_) | (refine CalF (isPetitionAt_ok um hR) (by decide) (by omega) ?_) | (refine CalT (isLine_ok um hR) (by decide) (by omega) ?_) | (refine CalF (isLine_ok um hR) (by decide) (by omega) ?_) | (refine CalT mIsKnot_ok (by decide) (by omega) ?_) | (refine CalF mIsKnot_ok (by decide) (by omega) ?_) | (refine CalT mIsNight_ok (by decide) (by omega) ?_) | (refine CalF mIsNight_ok (by decide) (by omega) ?_) | (refine bk_175_75 ?_) | (refine CalE.to bounds_ok (by decide) ?_) | (refine CalE.to wrongDays_ok (by decide) ?_) | (exact CalK (fin_rf hT hO uc um (by omega) (by omega)) (by decide)) | (exact CalK (fin_rfF hT hO uc um (by omega) (by omega)) (by decide)) | fail);
end
