/-! ends -/
/-- a set of facts that may be, by what is told of the first n -/
def psB (g : Nat → Int) (s : Nat) : Nat → Bool
  | 0 => true
  | n + 1 => psB g s n && (decide (g n = 2) || decide (g n = fS s n))
theorem ps_s (g : Nat → Int) (s n : Nat) : psB g s (n + 1) = (psB g s n && (decide (g n = 2) || decide (g n = fS s n))) := rfl
theorem ps_e (g : Nat → Int) (s n : Nat) : psB g s n = true ↔ ∀ k, k < n → g k = 2 ∨ g k = fS s k := by
  induction n with
  | zero => exact ⟨fun _ k h => absurd h (Nat.not_lt_zero k), fun _ => rfl⟩
  | succ n ih =>
    rw [ps_s, Bool.and_eq_true, ih, Bool.or_eq_true, decide_eq_true_eq, decide_eq_true_eq]
    constructor
    · rintro ⟨h1, h2⟩ k hk
      by_cases q : k = n
      · rw [q]; exact h2
      · exact h1 k (by omega)
    · intro h
      exact ⟨fun k hk => h k (by omega), h n (by omega)⟩
def upG (g : Nat → Int) (k : Nat) (v : Int) (i : Nat) : Int := if i = k then v else g i
theorem ps_up {g : Nat → Int} {k : Nat} {v : Int} (hk : k < 4) (hg : g k = 2) (hv : v = 0 ∨ v = 1) (s : Nat) : psB (upG g k v) s 4 = (psB g s 4 && decide (fS s k = v)) := by
  rw [Bool.eq_iff_iff, Bool.and_eq_true, ps_e, ps_e, decide_eq_true_eq]
  unfold upG
  constructor
  · intro h
    refine ⟨fun i hi => ?_, ?_⟩
    · have := h i hi
      by_cases q : i = k
      · rw [q]; exact Or.inl hg
      · rw [if_neg q] at this; exact this
    · have := h k hk
      rw [if_pos rfl] at this
      omega
  · rintro ⟨h1, h2⟩ i hi
    by_cases q : i = k
    · rw [if_pos q, q]; exact Or.inr h2.symm
    · rw [if_neg q]; exact h1 i hi
def alG (g : Nat → Int) : Nat := cbN (fun s => psB g s 4) 16
def hoG (g : Nat → Int) (z : Nat) : Nat := cbN (fun s => z.testBit s && psB g s 4) 16
/-- DOUBT -/
def doG (g : Nat → Int) (z : Nat) : Int := min (hoG g z : Int) ((alG g : Int) - (hoG g z : Int))
def db2 (g : Nat → Int) (z k : Nat) : Int := doG (upG g k 0) z + doG (upG g k 1) z
def wiG (g : Nat → Int) (z : Nat) : Nat → Int
  | 0 => -9
  | n + 1 => if g n = 2 ∧ (wiG g z n < 0 ∨ db2 g z n < db2 g z (wiG g z n).toNat) then (n : Int) else wiG g z n
theorem wi_s (g : Nat → Int) (z n : Nat) : wiG g z (n + 1) = if g n = 2 ∧ (wiG g z n < 0 ∨ db2 g z n < db2 g z (wiG g z n).toNat) then (n : Int) else wiG g z n := rfl
theorem wi_b (g : Nat → Int) (z n : Nat) : wiG g z n = -9 ∨ (0 ≤ wiG g z n ∧ wiG g z n < n) := by
  induction n with
  | zero => exact Or.inl rfl
  | succ n ih => rw [wi_s]; split <;> omega
theorem cb_2 (P Q : Nat → Bool) (n : Nat) : cbN (fun s => Q s && P s) n + cbN (fun s => P s && !Q s) n = cbN P n := by
  induction n with
  | zero => rfl
  | succ n ih =>
    rw [cb_s, cb_s, cb_s, ← ih]
    cases P n <;> cases Q n <;> simp <;> omega
/-- the sets in which a fact is so (1) or not (0) -/
def swN (k : Nat) (so : Int) : Nat → Nat
  | 0 => 0
  | n + 1 => if fS n k = so then swN k so n ||| 2 ^ n else swN k so n
theorem sw_s (k : Nat) (so : Int) (n : Nat) : swN k so (n + 1) = if fS n k = so then swN k so n ||| 2 ^ n else swN k so n := rfl
theorem sw_b (k : Nat) (so : Int) (n : Nat) : swN k so n < 2 ^ n ∧ ∀ s, s < n → (swN k so n).testBit s = decide (fS s k = so) := by
  induction n with
  | zero => exact ⟨show (0 : Nat) < 1 by decide, fun s h => absurd h (Nat.not_lt_zero s)⟩
  | succ n ih =>
    have hp : 2 ^ (n + 1) = 2 ^ n * 2 := Nat.pow_succ ..
    rw [sw_s]
    by_cases q : fS n k = so
    · rw [if_pos q]
      refine ⟨Nat.or_lt_two_pow (by omega) (by omega), fun s hs => ?_⟩
      rw [or_t]
      by_cases e : s = n
      · rw [e, decide_eq_true q, decide_eq_true rfl, Bool.or_true]
      · rw [ih.2 s (by omega), decide_eq_false (show ¬ n = s by omega), Bool.or_false]
    · rw [if_neg q]
      refine ⟨by omega, fun s hs => ?_⟩
      by_cases e : s = n
      · rw [e, decide_eq_false q, Nat.testBit_lt_two_pow ih.1]
      · exact ih.2 s (by omega)
section
variable {w κ τ : Wd}
theorem setsWith_c {k : Nat} (hk : k < 4) {so : Int} (hso : so = 0 ∨ so = 1) : Cal 1 94 [.inl (k : Int), .inl so] w (rI fun y u => y = (swN k so 16 : Int) ∧ u = w) := by
  generalize hQ : (rI fun y u => y = (swN k so 16 : Int) ∧ u = w) = Q
  have key := Ev.count (sc := none) (C := Cal 0) (cdk := cd 94) (Q := Q) (N := 16) (S := fun i => (4, [some (.inl (k : Int)), some (.inl so), some (.inl (swN k so i : Int)), some (.inl (i : Int))], [], w)) (fun i hi h => ?_) ?_ 0 (Nat.zero_le _)
  · exact en_94 key
  · refine bk_94_4 ?_
    have hs := sw_s k so i
    have hb := (sw_b k so i).1
    have h16 : 2 ^ i < 2 ^ 16 := Nat.pow_lt_pow_right (by decide) hi
    rw [if_pos (by omega), wr_s (show i < 2000000 by omega), ishl_n i (by omega), ior_n (by omega) (by omega)]
    have e1 : (iand (ishr (i : Int) (k : Int)) 1 = 1) ↔ fS i k = 1 := by
      rw [bit_n (by omega) (by omega)]
      unfold fS
      cases i.testBit k <;> simp
    have e0 : (iand (ishr (i : Int) (k : Int)) 1 = 0) ↔ fS i k = 0 := by
      rw [bit_0 (by omega) (by omega)]
      unfold fS
      cases i.testBit k <;> simp
    rcases hso with rfl | rfl
    · rw [if_pos rfl]
      refine ite_i (fun q => ?_) (fun q => ?_)
      · rw [if_pos (e0.1 q)] at hs
        exact h.cast (by rw [hs])
      · rw [if_neg (fun z => q (e0.2 z))] at hs
        exact h.cast (by rw [hs])
    · rw [if_neg (by decide)]
      refine ite_i (fun q => ?_) (fun q => ?_)
      · rw [if_pos (e1.1 q)] at hs
        exact h.cast (by rw [hs])
      · rw [if_neg (fun z => q (e1.2 z))] at hs
        exact h.cast (by rw [hs])
  · refine bk_94_4 ?_
    rw [if_neg (by omega), ← hQ]
    exact ⟨rfl, rfl⟩
def tdG (τ : Wd) (p k : Nat) : Int := τ 179 (4 * p + k)
theorem rd_told (hc : pc w = κ) (hE : EQ κ τ) {p k : Nat} (hp : p < 10) (hk : k < 4) : w (68 + p) k = tdG τ p k := by
  rw [mk_rd hc (isC_told p hp k).1]
  exact hE.told p k hp hk
theorem possible_c (hc : pc w = κ) (hE : EQ κ τ) (hR : RNG τ) {p : Nat} (hp : p < 10) : Cal 2 93 [.inr (.inr 4), .inl (p : Int)] w (rI fun y u => (∃ x : Nat, y = (x : Int) ∧ x < 65536 ∧ ∀ s, s < 16 → x.testBit s = psB (tdG τ p) s 4) ∧ u = w) := by
  generalize hQ : (rI fun y u => (∃ x : Nat, y = (x : Int) ∧ x < 65536 ∧ ∀ s, s < 16 → x.testBit s = psB (tdG τ p) s 4) ∧ u = w) = Q
  have key := Ev.inv (sc := none) (C := Cal 1) (cdk := cd 93) (Q := Q) (N := 4) (I := fun i t => ∃ x : Nat, t = (5, [some (.inr (.inr 4)), some (.inl (p : Int)), some (.inl (x : Int)), some (.inl (i : Int))], [], w) ∧ x < 65536 ∧ ∀ s, s < 16 → x.testBit s = psB (tdG τ p) s i) (fun i hi t ht h => ?_) (fun t ht => ?_) 0 (Nat.zero_le _)
  · refine en_93 (key _ ⟨65535, rfl, by decide, fun s hs => ?_⟩)
    rw [show (65535 : Nat) = 2 ^ 16 - 1 from rfl, Nat.testBit_two_pow_sub_one, decide_eq_true hs]
    rfl
  · obtain ⟨x, rfl, hx, hxs⟩ := ht
    refine bk_93_5 ?_
    have hr := hR.M_toldFact (4 * p + i)
    have hrd := rd_told hc hE hp hi
    rw [if_pos (by omega), tn, wr_s (show i < 2000000 by omega)]
    refine ⟨by omega, aR_i (shq_told p hp) ⟨by omega, ?_⟩⟩
    rw [tn, hrd]
    have hps : ∀ s, psB (tdG τ p) s (i + 1) = (psB (tdG τ p) s i && (decide (tdG τ p i = 2) || decide (tdG τ p i = fS s i))) := fun s => ps_s _ s i
    have hle : ∀ y : Nat, x &&& y ≤ x := fun y => Nat.and_le_left
    have go : ∀ so : Int, tdG τ p i = so → (so = 0 ∨ so = 1) → Ev none (Cal 1) (cd 93) Q (5, [some (.inr (.inr 4)), some (.inl (p : Int)), some (.inl (iand (x : Int) (swN i so 16 : Int))), some (.inl ((i + 1 : Nat) : Int))], [], w) := by
      intro so h1 h2
      have hb := sw_b i so 16
      have := hle (swN i so 16)
      have h3 : swN i so 16 < 65536 := hb.1
      rw [iand_n (by omega) (by omega)]
      refine h _ ⟨x &&& swN i so 16, rfl, by omega, fun s hs => ?_⟩
      rw [Nat.testBit_and, hxs s hs, hb.2 s hs, hps, h1, decide_eq_false (show ¬ so = 2 by omega), Bool.false_or]
      congr 1
      rw [Bool.eq_iff_iff, decide_eq_true_eq, decide_eq_true_eq]
      exact ⟨Eq.symm, Eq.symm⟩
    refine ite_i (fun q => ?_) (fun q => ?_)
    · refine h _ ⟨x, rfl, hx, fun s hs => ?_⟩
      rw [hxs s hs, hps, decide_eq_true q, Bool.true_or, Bool.and_true]
    · refine ⟨by omega, aR_i (shq_told p hp) ⟨by omega, ?_⟩⟩
      rw [tn, hrd]
      have hr2 : 0 ≤ tdG τ p i ∧ tdG τ p i ≤ 2 := hr
      refine ite_i (fun r => ?_) (fun r => ?_)
      · refine CalE.to (setsWith_c hi (Or.inr rfl)) (by decide) ?_
        exact go 1 r (Or.inr rfl)
      · refine CalE.to (setsWith_c hi (Or.inl rfl)) (by decide) ?_
        exact go 0 (by omega) (Or.inl rfl)
  · obtain ⟨x, rfl, hx, hxs⟩ := ht
    refine bk_93_5 ?_
    rw [if_neg (by omega), ← hQ]
    exact ⟨⟨x, rfl, hx, hxs⟩, rfl⟩
theorem doubt_c {z x : Nat} (hz : z < 65536) (hx : x < 65536) : Cal 2 97 [.inl (z : Int), .inl (x : Int)] w (rI fun y u => y = min (cbN (fun s => z.testBit s && x.testBit s) 16 : Int) ((cbN (fun s => x.testBit s) 16 : Int) - (cbN (fun s => z.testBit s && x.testBit s) 16 : Int)) ∧ u = w) := by
  have h1 : x &&& z ≤ x := Nat.and_le_left
  have h2 := nd_le x z
  refine en_97 ?_
  rw [iand_n (by omega) (by omega), nand_n (by omega) (by omega)]
  refine CalE.to (bitCount_16 (by omega)) (by decide) ?_
  refine CalE.to (bitCount_16 (by omega)) (by decide) ?_
  rw [pop_cb, pop_cb]
  have e1 : cbN (fun s => (x &&& z).testBit s) 16 = cbN (fun s => z.testBit s && x.testBit s) 16 := cb_c (fun s _ => by rw [Nat.testBit_and, Bool.and_comm])
  have e2 : cbN (fun s => (nd x z).testBit s) 16 = cbN (fun s => x.testBit s && !z.testBit s) 16 := cb_c (fun s _ => nd_t (by omega) s)
  have e3 := cb_2 (fun s => x.testBit s) (fun s => z.testBit s) 16
  rw [e1, e2]
  refine ⟨?_, rfl⟩
  omega
theorem witness_c (hc : pc w = κ) (hE : EQ κ τ) (hR : RNG τ) {p : Nat} (hp : p < 10) {z : Nat} (hz : z < 65536) (hzt : κ 66 p = (z : Int)) : Cal 3 96 [.inr (.inr 4), .inl (p : Int)] w (rI fun y u => y = wiG (tdG τ p) z 4 ∧ u = w) := by
  generalize hQ : (rI fun y u => y = wiG (tdG τ p) z 4 ∧ u = w) = Q
  have e66 : w 66 p = (z : Int) := (r66 hc p).trans hzt
  refine en_96 ?_
  refine CalI.to (possible_c hc hE hR hp) (by decide) ?_
  rintro _ u ⟨⟨x, rfl, hx, hxs⟩, rfl⟩
  rw [tn, e66]
  refine ⟨by omega, ?_⟩
  have dbb : ∀ k, 0 ≤ db2 (tdG τ p) z k ∧ db2 (tdG τ p) z k ≤ 32 := by
    intro k
    have c1 := cb_b (fun s => psB (upG (tdG τ p) k 0) s 4) 16
    have c2 := cb_b (fun s => z.testBit s && psB (upG (tdG τ p) k 0) s 4) 16
    have c3 := cb_b (fun s => psB (upG (tdG τ p) k 1) s 4) 16
    have c4 := cb_b (fun s => z.testBit s && psB (upG (tdG τ p) k 1) s 4) 16
    have c5 := cb_2 (fun s => psB (upG (tdG τ p) k 0) s 4) (fun s => z.testBit s) 16
    have c6 := cb_2 (fun s => psB (upG (tdG τ p) k 1) s 4) (fun s => z.testBit s) 16
    unfold db2 doG hoG alG
    omega
  have key := Ev.count (sc := none) (C := Cal 2) (cdk := cd 96) (Q := Q) (N := 4) (S := fun i => (23, [some (.inr (.inr 4)), some (.inl (p : Int)), some (.inl (x : Int)), some (.inl (z : Int)), some (.inl (wiG (tdG τ p) z i)), some (.inl (if wiG (tdG τ p) z i < 0 then 0 else db2 (tdG τ p) z (wiG (tdG τ p) z i).toNat)), some (.inl (i : Int)), none], [], u)) (fun i hi h => ?_) ?_ 0 (Nat.zero_le _)
  · exact key
  · refine bk_96_23 ?_
    have hs := wi_s (tdG τ p) z i
    have hb := wi_b (tdG τ p) z i
    have hrd := rd_told hc hE hp hi
    have hr : 0 ≤ tdG τ p i ∧ tdG τ p i ≤ 2 := hR.M_toldFact (4 * p + i)
    have s1 := sw_b i 1 16
    have s0 := sw_b i 0 16
    have s1' : swN i 1 16 < 65536 := s1.1
    have s0' : swN i 0 16 < 65536 := s0.1
    have l1 : x &&& swN i 1 16 ≤ x := Nat.and_le_left
    have l0 : x &&& swN i 0 16 ≤ x := Nat.and_le_left
    rw [if_pos (by omega)]
    refine CalE.to (setsWith_c hi (Or.inr rfl)) (by decide) ?_
    rw [iand_n (by omega) (by omega)]
    refine CalE.to (doubt_c hz (by omega)) (by decide) ?_
    refine CalE.to (setsWith_c hi (Or.inl rfl)) (by decide) ?_
    rw [iand_n (by omega) (by omega)]
    refine CalE.to (doubt_c hz (by omega)) (by decide) ?_
    rw [tn, wr_s (show i < 2000000 by omega)]
    refine ⟨by omega, aR_i (shq_told p hp) ⟨by omega, ?_⟩⟩
    rw [tn, hrd]
    have dd : tdG τ p i = 2 → ∀ so : Int, (so = 0 ∨ so = 1) → min (cbN (fun s => z.testBit s && (x &&& swN i so 16).testBit s) 16 : Int) ((cbN (fun s => (x &&& swN i so 16).testBit s) 16 : Int) - (cbN (fun s => z.testBit s && (x &&& swN i so 16).testBit s) 16 : Int)) = doG (upG (tdG τ p) i so) z := by
      intro h2 so hso
      have hsw := sw_b i so 16
      have hb : ∀ s, s < 16 → (x &&& swN i so 16).testBit s = psB (upG (tdG τ p) i so) s 4 := by
        intro s hs
        rw [Nat.testBit_and, hxs s hs, hsw.2 s hs, ps_up hi h2 hso]
      unfold doG alG hoG
      rw [cb_c (P' := fun s => psB (upG (tdG τ p) i so) s 4) hb, cb_c (P := fun s => z.testBit s && (x &&& swN i so 16).testBit s) (P' := fun s => z.testBit s && psB (upG (tdG τ p) i so) s 4) (fun s hs => by rw [hb s hs])]
    refine ite_i (fun q => ?_) (fun q => ?_)
    · have d1 := dd q 1 (Or.inr rfl)
      have d0 := dd q 0 (Or.inl rfl)
      rw [d1, d0]
      have dbe : doG (upG (tdG τ p) i 1) z + doG (upG (tdG τ p) i 0) z = db2 (tdG τ p) z i := Int.add_comm _ _
      have dbi := dbb i
      rw [dbe, wr_id (by omega) (by omega)]
      have yes : (wiG (tdG τ p) z i < 0 ∨ db2 (tdG τ p) z i < db2 (tdG τ p) z (wiG (tdG τ p) z i).toNat) → Ev none (Cal 2) (cd 96) Q (23, [some (.inr (.inr 4)), some (.inl (p : Int)), some (.inl (x : Int)), some (.inl (z : Int)), some (.inl (i : Int)), some (.inl (db2 (tdG τ p) z i)), some (.inl ((i + 1 : Nat) : Int)), none], [], u) := by
        intro g
        rw [if_pos ⟨q, g⟩] at hs
        refine h.cast ?_
        rw [hs, if_neg (by omega), tn]
      refine ite_i (fun a => yes (Or.inl (by omega))) (fun a => ?_)
      have a2 : ¬ wiG (tdG τ p) z i < 0 := by omega
      rw [if_neg a2]
      refine ite_i (fun b => yes (Or.inr b)) (fun b => ?_)
      rw [if_neg (fun y => by rcases y.2 with y | y; exact a2 y; exact b y)] at hs
      refine h.cast ?_
      rw [hs, if_neg a2]
    · rw [if_neg (fun y => q y.1)] at hs
      exact h.cast (by rw [hs])
  · refine bk_96_23 ?_
    rw [if_neg (by omega), ← hQ]
    exact ⟨rfl, rfl⟩
end
