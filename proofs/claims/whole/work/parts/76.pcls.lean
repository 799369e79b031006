/-! the class reads a rule -/
def FRT (w0 u : Wd) : Prop := (∀ c, ¬ c = 9 → ¬ c = 118 → u c = w0 c) ∧ ∀ j, ¬ j = 3 → ¬ j = 4 → u 9 j = w0 9 j
def HTP (w0 : Wd) (n : Nat) (h : Nat → Int) (pt : Int) : Prop := w0 9 1 = (n : Int) ∧ n ≤ 40 ∧ (∀ i, i < n → w0 117 i = h i) ∧ HOK h n ∧ w0 9 5 = pt ∧ (pt = 0 ∨ pt = 1)
def TPS (w0 u : Wd) (i : Nat) : Prop := FRT w0 u ∧ u 9 4 = (i : Int) ∧ 0 ≤ u 9 3 ∧ u 9 3 ≤ 40
def STP (u : Wd) (L : List Int) : Prop := u 9 3 = (L.length : Int) ∧ ∀ k x, L[k]? = some x → u 118 k = x
def SMT (u v : Wd) : Prop := v 9 3 = u 9 3 ∧ v 118 = u 118
theorem SMT.stp {u v : Wd} {L : List Int} (h : SMT u v) (hs : STP u L) : STP v L := ⟨h.1.trans hs.1, fun k x q => by rw [h.2]; exact hs.2 k x q⟩
theorem SMT.tr {u v x : Wd} (h : SMT u v) (h2 : SMT v x) : SMT u x := ⟨h2.1.trans h.1, h2.2.trans h.2⟩
/-- a byte on -/
theorem TPS.nx {w0 u : Wd} {i : Nat} (h : TPS w0 u i) (hi : i < 1000) : TPS w0 (wst u 9 4 (wr (u 9 4 + 1))) (i + 1) ∧ SMT u (wst u 9 4 (wr (u 9 4 + 1))) := by
  obtain ⟨⟨h1, h2⟩, h3, h4, h5⟩ := h
  rw [h3, wr_s (by omega)]
  refine ⟨⟨⟨fun c c1 c2 => ?_, fun j j1 j2 => ?_⟩, rfl, h4, h5⟩, rfl, rfl⟩
  · rw [← h1 c c1 c2]
    funext j
    rw [wst_ap, if_neg (fun q => c1 q.1)]
  · rw [← h2 j j1 j2, wst_ap, if_neg (fun q => j2 q.2)]
theorem emit_w {w0 u : Wd} {i : Nat} {x : Int} (h : TPS w0 u i) (hl : u 9 3 < 40) : TPS w0 (wst (wst u 118 (u 9 3).toNat x) 9 3 (wr ((wst u 118 (u 9 3).toNat x) 9 3 + 1))) i := by
  obtain ⟨⟨h1, h2⟩, h3, h4, h5⟩ := h
  have e : (wst u 118 (u 9 3).toNat x) 9 3 = u 9 3 := rfl
  rw [e, wr_id (by omega) (by omega)]
  refine ⟨⟨fun c c1 c2 => ?_, fun j j1 j2 => ?_⟩, h3, ?_, ?_⟩
  · rw [← h1 c c1 c2]
    funext j
    rw [wst_ap, if_neg (fun q => c1 q.1), wst_ap, if_neg (fun q => c2 q.1)]
  · rw [← h2 j j1 j2, wst_ap, if_neg (fun q => j1 q.2)]
    rfl
  · show 0 ≤ u 9 3 + 1
    omega
  · show u 9 3 + 1 ≤ 40
    omega
theorem emit_s {u : Wd} {L : List Int} {x : Int} (h : STP u L) (hl : L.length < 40) : STP (wst (wst u 118 (u 9 3).toNat x) 9 3 (wr ((wst u 118 (u 9 3).toNat x) 9 3 + 1))) (L ++ [x]) := by
  obtain ⟨h1, h2⟩ := h
  have e : (wst u 118 (u 9 3).toNat x) 9 3 = u 9 3 := rfl
  rw [e, h1, tn, wr_s (by omega)]
  refine ⟨?_, fun k y hk => ?_⟩
  · rw [List.length_append]
    rfl
  · show (wst u 118 L.length x) 118 k = y
    rw [wst_ap]
    by_cases q : k = L.length
    · subst q
      rw [List.getElem?_append_right (Nat.le_refl _), Nat.sub_self] at hk
      rw [if_pos ⟨rfl, rfl⟩]
      exact Option.some.inj hk
    · rw [if_neg (fun z => q z.2)]
      have hlt : k < L.length := by
        rcases Nat.lt_or_ge k L.length with g | g
        · exact g
        · rw [List.getElem?_append_right g] at hk
          have : k - L.length ≥ 1 := by omega
          rw [List.getElem?_eq_none (by simpa using this)] at hk
          exact absurd hk (by simp)
      rw [List.getElem?_append_left hlt] at hk
      exact h2 k y hk
theorem ch_0 : ∀ x : Nat, x < 5 → faI 0 (chA 1000 (x : Int)) = (x : Int) := by decide
theorem ch_1 : ∀ x : Nat, x < 4 → faI 1 (chA 1001 (x : Int)) = (x : Int) := by decide
theorem ch_n0 {c : Int} (h : ∀ x : Nat, x < 5 → ¬ chA 1000 (x : Int) = c) : ¬ 0 ≤ faI 0 c := by
  have h0 : ¬ (104 : Int) = c := h 0 (by decide)
  have h1 : ¬ (112 : Int) = c := h 1 (by decide)
  have h2 : ¬ (103 : Int) = c := h 2 (by decide)
  have h3 : ¬ (100 : Int) = c := h 3 (by decide)
  have h4 : ¬ (121 : Int) = c := h 4 (by decide)
  unfold faI
  rw [if_pos rfl, if_neg (by omega), if_neg (by omega), if_neg (by omega), if_neg (by omega), if_neg (by omega)]
  decide
theorem ch_n1 {c : Int} (h : ∀ x : Nat, x < 4 → ¬ chA 1001 (x : Int) = c) : ¬ 0 ≤ faI 1 c := by
  have h0 : ¬ (97 : Int) = c := h 0 (by decide)
  have h1 : ¬ (98 : Int) = c := h 1 (by decide)
  have h2 : ¬ (99 : Int) = c := h 2 (by decide)
  have h3 : ¬ (100 : Int) = c := h 3 (by decide)
  unfold faI
  rw [if_neg (by decide)]
  split
  · decide
  · split
    · decide
    · omega
def bI (ok : Bool) : Int := cond ok 1 0
section
variable {w0 : Wd} {n : Nat} {h : Nat → Int} {pt : Int}
theorem next_ok (hw : HTP w0 n h pt) {u : Wd} {i : Nat} (hu : TPS w0 u i) : Cal 1 50 [.inr (.inr 9)] u (rI fun y v => y = h i ∧ v = u) := by
  obtain ⟨⟨f1, f2⟩, u4, u3⟩ := hu
  obtain ⟨g1, g2, g3, g4, g5⟩ := hw
  have e1 : u 9 1 = (n : Int) := (f2 1 (by decide) (by decide)).trans g1
  have e2 : u 117 = w0 117 := f1 117 (by decide) (by decide)
  have hi := g4 i
  refine en_50 ?_
  simp only [u4, e1, e2, tn]
  refine ite_i (fun q => ?_) (fun q => ?_)
  · rw [if_pos (by omega)]
    exact ⟨by omega, g3 i (by omega), rfl⟩
  · exact ⟨by omega, rfl⟩
theorem emit_f {u : Wd} {i : Nat} {x : Int} {K : Wd → Prop} (hu : TPS w0 u i) (hK : ∀ v, TPS w0 v i → K v) : Cal 1 65 [.inr (.inr 9), .inl x] u (rV K) := by
  refine en_65 ?_
  refine ite_i (fun q => ?_) (fun q => hK _ hu)
  exact ⟨⟨hu.2.2.1, q⟩, hK _ (emit_w hu q)⟩
theorem emit_o {u : Wd} {i : Nat} {x : Int} {L : List Int} {K : Wd → Prop} (hu : TPS w0 u i) (hs : STP u L) (hl : L.length < 40) (hK : ∀ v, TPS w0 v i → STP v (L ++ [x]) → K v) : Cal 1 65 [.inr (.inr 9), .inl x] u (rV K) := by
  have h1 := hs.1
  refine en_65 ?_
  refine ite_i (fun q => ?_) (fun q => by omega)
  exact ⟨⟨hu.2.2.1, q⟩, hK _ (emit_w hu q) (emit_s hs hl)⟩
theorem digs_l (hw : HTP w0 n h pt) {w : Wd} {K : Int → Wd → Prop} : ∀ (f k i : Nat) (v : Int) (u : Wd), k + f = 4 → TPS w0 u i → SMT w u → i ≤ n → -1 ≤ v → (k = 0 → v < 1) → (k = 1 → v < 10) → (k = 2 → v < 100) → (k = 3 → v < 1000) → (∀ u', TPS w0 u' (dgR h f i v).2 → SMT w u' → K (dgR h f i v).1 u') → Ev none (Cal 1) (cd 53) (rI K) (54, [some (.inr (.inr 9)), some (.inl v), some (.inl (k : Int))], [], u) := by
  intro f
  induction f with
  | zero =>
    intro k i v u hk hu hs hi h1 _ _ _ _ hK
    refine bk_53_54 ?_
    rw [if_neg (by omega)]
    exact hK u hu hs
  | succ f ih =>
    intro k i v u hk hu hs hi h1 k0 k1 k2 k3 hK
    rw [dgR_s] at hK
    have hn := hw.2.1
    have hh := hw.2.2.2.1 i
    refine bk_53_54 ?_
    rw [if_pos (by omega)]
    refine CalE.to (next_ok hw hu) (by decide) ?_
    refine ite_i (fun q => ?_) (fun q => ?_)
    · rw [if_neg (by omega)] at hK
      exact hK u hu hs
    · refine CalE.to (next_ok hw hu) (by decide) ?_
      refine ite_i (fun q2 => ?_) (fun q2 => ?_)
      · rw [if_neg (by omega)] at hK
        exact hK u hu hs
      · rw [if_pos (by omega)] at hK
        refine CalE.to (next_ok hw hu) (by decide) ?_
        rw [wr_id (x := max 0 v * 10) (by omega) (by omega), wr_id (x := max 0 v * 10 + h i) (by omega) (by omega), wr_id (x := max 0 v * 10 + h i - 48) (by omega) (by omega), wr_s (by omega)]
        have hx := hu.nx (by omega)
        exact ih (k + 1) (i + 1) _ _ (by omega) hx.1 (hs.tr hx.2) (by omega) (by omega) (by omega) (by omega) (by omega) (by omega) hK
theorem unit_c (hw : HTP w0 n h pt) {u : Wd} {i : Nat} {K : Int → Wd → Prop} (hu : TPS w0 u i) (hi : i ≤ n) (hK : ∀ v, TPS w0 v (unF pt h i).2 → SMT u v → K (unF pt h i).1 v) : Cal 2 53 [.inr (.inr 9)] u (rI K) := by
  have hn := hw.2.1
  have e5 : u 9 5 = pt := (hu.1.2 5 (by decide) (by decide)).trans hw.2.2.2.2.1
  have fin : ¬ 0 ≤ faI pt (h i) → Ev none (Cal 1) (cd 53) (rI K) (54, [some (.inr (.inr 9)), some (.inl (-1)), some (.inl 0)], [], u) := by
    intro q
    unfold unF at hK
    rw [if_neg q] at hK
    exact digs_l hw 4 0 i (-1) u rfl hu ⟨rfl, rfl⟩ hi (by decide) (by decide) (by decide) (by decide) (by decide) hK
  have hit : ∀ x : Nat, x < 5 → faI pt (h i) = (x : Int) → K (wr (10000 + (x : Int))) (wst u 9 4 (wr (u 9 4 + 1))) := by
    intro x hx q
    unfold unF at hK
    rw [if_pos (by omega), q] at hK
    have hx := hu.nx (by omega)
    rw [wr_id (by omega) (by omega)]
    exact hK _ hx.1 hx.2
  refine en_53 ?_
  rcases hw.2.2.2.2.2 with rfl | rfl
  · have b1 : Nat.beq (1000 + (u 9 5).toNat) 1000 = true := by rw [e5]; rfl
    have b2' : 1000 + (u 9 5).toNat = 1000 := by rw [e5]; rfl
    have lp : ∀ f x : Nat, x + f = 5 → (∀ y, y < x → ¬ chA 1000 (y : Int) = h i) → Ev none (Cal 1) (cd 53) (rI K) (2, [some (.inr (.inr 9)), some (.inl (x : Int)), none], [], u) := by
      intro f
      induction f with
      | zero =>
        intro x hx hy
        obtain rfl : x = 5 := by omega
        refine bk_53_2 ?_
        simp only [b1, cond_true]
        rw [if_neg (by decide)]
        exact fin (ch_n0 hy)
      | succ f ih =>
        intro x hx hy
        refine bk_53_2 ?_
        simp only [b1, cond_true]
        rw [if_pos (by omega)]
        refine ⟨by omega, ?_⟩
        refine CalE.to (next_ok hw hu) (by decide) ?_
        rw [b2']
        refine ite_i (fun q => ?_) (fun q => ?_)
        · exact hit x (by omega) (by rw [← q]; exact ch_0 x (by omega))
        · rw [wr_s (by omega)]
          refine ih (x + 1) (by omega) (fun y hy2 => ?_)
          rcases Nat.lt_or_ge y x with g | g
          · exact hy y g
          · obtain rfl : y = x := by omega
            exact q
    exact lp 5 0 rfl (fun y hy => absurd hy (Nat.not_lt_zero y))
  · have b1 : Nat.beq (1000 + (u 9 5).toNat) 1000 = false := by rw [e5]; rfl
    have b3 : Nat.beq (1000 + (u 9 5).toNat) 1001 = true := by rw [e5]; rfl
    have b2' : 1000 + (u 9 5).toNat = 1001 := by rw [e5]; rfl
    have lp : ∀ f x : Nat, x + f = 4 → (∀ y, y < x → ¬ chA 1001 (y : Int) = h i) → Ev none (Cal 1) (cd 53) (rI K) (2, [some (.inr (.inr 9)), some (.inl (x : Int)), none], [], u) := by
      intro f
      induction f with
      | zero =>
        intro x hx hy
        obtain rfl : x = 4 := by omega
        refine bk_53_2 ?_
        simp only [b1, b3, cond_true, cond_false]
        rw [if_neg (by decide)]
        exact fin (ch_n1 hy)
      | succ f ih =>
        intro x hx hy
        refine bk_53_2 ?_
        simp only [b1, b3, cond_true, cond_false]
        rw [if_pos (by omega)]
        refine ⟨by omega, ?_⟩
        refine CalE.to (next_ok hw hu) (by decide) ?_
        rw [b2']
        refine ite_i (fun q => ?_) (fun q => ?_)
        · exact hit x (by omega) (by rw [← q]; exact ch_1 x (by omega))
        · rw [wr_s (by omega)]
          refine ih (x + 1) (by omega) (fun y hy2 => ?_)
          rcases Nat.lt_or_ge y x with g | g
          · exact hy y g
          · obtain rfl : y = x := by omega
            exact q
    exact lp 4 0 rfl (fun y hy => absurd hy (Nat.not_lt_zero y))
theorem comp_c (hw : HTP w0 n h pt) {u : Wd} {i : Nat} {L : List Int} {K : Int → Wd → Prop} (hu : TPS w0 u i) (hi : i ≤ n) (hs : STP u L) (hl : L.length ≤ i) (h1 : ∀ v j s, CMO pt h i j s → TPS w0 v j → STP v (L ++ [s]) → K 1 v) (h0 : ∀ v j, CMB pt h i j → TPS w0 v j → K 0 v) : Cal 3 52 [.inr (.inr 9)] u (rI K) := by
  have hn := hw.2.1
  have hh := hw.2.2.2.1
  refine en_52 ?_
  have b1 := unF_b hh pt hi
  refine CalK (unit_c hw hu hi (fun v hv hsm => ?_)) (by decide)
  refine CalE.to (next_ok hw hv) (by decide) ?_
  have hy := hh (unF pt h i).2
  refine ite_i (fun q1 => ⟨by decide, h0 _ _ (Or.inl ⟨Or.inl q1, rfl⟩) hv⟩) (fun q1 => ?_)
  refine ite_i (fun q2 => ⟨by decide, h0 _ _ (Or.inl ⟨Or.inr (Or.inl q2), rfl⟩) hv⟩) (fun q2 => ?_)
  refine ite_i (fun q3 => ⟨by decide, h0 _ _ (Or.inl ⟨Or.inr (Or.inr q3), rfl⟩) hv⟩) (fun q3 => ?_)
  have hx := hv.nx (by omega)
  have b2' := unF_b hh pt (i := (unF pt h i).2 + 1) (by omega)
  refine CalK (unit_c hw hx.1 (by omega) (fun x hxv hsm2 => ?_)) (by decide)
  refine ite_i (fun q4 => ⟨by decide, h0 _ _ (Or.inr ⟨by omega, by omega, by omega, q4, rfl⟩) hxv⟩) (fun q4 => ?_)
  have hc : CMO pt h i (unF pt h ((unF pt h i).2 + 1)).2 (enc (unF pt h i).1 (unF pt h ((unF pt h i).2 + 1)).1 (h (unF pt h i).2 - 60)) := ⟨by omega, by omega, by omega, by omega, rfl, rfl⟩
  have hcb := CMO_b hh hi hc
  rw [wr_id (by omega) (by omega)]
  refine CalK (emit_o hxv ((hsm.tr hx.2).tr hsm2 |>.stp hs) (by omega) (fun y hy1 hy2 => ⟨by decide, h1 y _ _ hc hy1 hy2⟩)) (by decide)
/-- what reading by mode m at depth d asks and gives -/
def RDC (w0 : Wd) (n : Nat) (h : Nat → Int) (pt : Int) (k m a d : Nat) : Prop := ∀ (i : Nat) (u : Wd) (L : List Int) (K : Int → Wd → Prop), TPS w0 u i → i ≤ n → STP u L → L.length ≤ i → (∀ v ok j T, DER pt h m d i ok j T → TPS w0 v j → (ok = true → STP v (L ++ T)) → K (bI ok) v) → Cal a k [.inr (.inr 9), .inl (d : Int)] u (rI K)
theorem brack_c (hw : HTP w0 n h pt) {a d : Nat} (hd : d ≤ 4) (hr : d < 4 → RDC w0 n h pt 47 3 a (d + 1)) (ha : 1 ≤ a) {u : Wd} {i : Nat} {L : List Int} {K : Int → Wd → Prop} (hu : TPS w0 u i) (hi : i < n) (hs : STP u L) (hl : L.length ≤ i) (k4 : d = 4 → ∀ v, TPS w0 v i → K 0 v) (kf : d < 4 → ∀ v j T, DER pt h 3 (d + 1) (i + 1) false j T → TPS w0 v j → K 0 v) (kn : d < 4 → ∀ v j T, DER pt h 3 (d + 1) (i + 1) true j T → ¬ h j = 41 → TPS w0 v j → K 0 v) (ky : d < 4 → ∀ v j T, DER pt h 3 (d + 1) (i + 1) true j T → h j = 41 → TPS w0 v (j + 1) → STP v (L ++ T) → K 1 v) : Cal (a + 1) 51 [.inr (.inr 9), .inl (d : Int)] u (rI K) := by
  have hn := hw.2.1
  have hh := hw.2.2.2.1
  refine en_51 ?_
  refine ite_i (fun q => ?_) (fun q => ⟨by decide, k4 (by omega) u hu⟩)
  have hx := hu.nx (by omega)
  rw [wr_s (show d < 2000000 by omega)]
  refine hr (by omega) (i + 1) _ L _ hx.1 (by omega) (hx.2.stp hs) (by omega) (fun v ok j T hd hv hvs => ?_)
  have hb := der_b hh hd (by omega)
  cases ok
  · rw [show bI false = 0 from rfl, if_pos rfl]
    exact ⟨by decide, kf (by omega) v j T hd hv⟩
  · rw [show bI true = 1 from rfl, if_neg (by decide)]
    refine CalE.to (next_ok hw hv) ha ?_
    refine ite_i (fun q2 => ?_) (fun q2 => ⟨by decide, kn (by omega) v j T hd q2 hv⟩)
    have hy := hv.nx (by omega)
    exact ⟨by decide, ky (by omega) _ j T hd q2 hy.1 (hy.2.stp (hvs rfl))⟩
theorem part_c (hw : HTP w0 n h pt) {a d : Nat} (hd : d ≤ 4) (hr : ∀ d', d < d' → d' ≤ 4 → RDC w0 n h pt 47 3 a d') (ha : 2 ≤ a) : RDC w0 n h pt 49 0 (a + 2) d := by
  intro i u0 L K hu0 hi hs0 hl hK
  have hn := hw.2.1
  have hh := hw.2.2.2.1
  have clo := DER.clo pt h
  refine en_49 ?_
  have key : ∀ (e m : Nat) (u : Wd), d + m + e = 4 → BNG h i m → TPS w0 u (i + m) → SMT u0 u → Ev none (Cal (a + 1)) (cd 49) (rI K) (2, [some (.inr (.inr 9)), some (.inl (d : Int)), some (.inl ((d + m : Nat) : Int)), none], [], u) := by
    intro e
    induction e with
    | zero =>
      intro m u hm hb hu hsm
      have hbn := bng_n hh hb hi
      have hs := hsm.stp hs0
      have e2 : wr (((d + m : Nat) : Int) - (d : Int)) = (m : Int) := by rw [wr_id (by omega) (by omega)]; omega
      have e3 : imd (m : Int) 2 = ((m % 2 : Nat) : Int) := imd_n (b := 2) (by omega) (by omega)
      have tail0 : ∀ v j, DER pt h 0 d i false j [] → TPS w0 v j → (if ((m % 2 : Nat) : Int) = 1 then Cal (a + 1) 65 [.inr (.inr 9), .inl (-1)] v (rV fun w6 => ((0 : Int) = 0 ∨ (0 : Int) = 1) ∧ K 0 w6) else ((0 : Int) = 0 ∨ (0 : Int) = 1) ∧ K 0 v) := by
        intro v j hder hv
        refine ite_i (fun g => ?_) (fun g => ⟨by decide, hK v false j [] hder hv (fun q => absurd q (by decide))⟩)
        exact CalK (emit_f hv (fun y hy => ⟨by decide, hK y false j [] hder hy (fun q => absurd q (by decide))⟩)) (by omega)
      have tail1 : ∀ v j T, DER pt h 0 d i true j (T ++ nots m) → L.length + T.length + m ≤ j → j ≤ n → TPS w0 v j → STP v (L ++ T) → (if ((m % 2 : Nat) : Int) = 1 then Cal (a + 1) 65 [.inr (.inr 9), .inl (-1)] v (rV fun w6 => ((1 : Int) = 0 ∨ (1 : Int) = 1) ∧ K 1 w6) else ((1 : Int) = 0 ∨ (1 : Int) = 1) ∧ K 1 v) := by
        intro v j T hder hlen hjn hv hvs
        refine ite_i (fun g => ?_) (fun g => ⟨by decide, hK v true j _ hder hv (fun _ => ?_)⟩)
        · refine CalK (emit_o hv hvs (by rw [List.length_append]; omega) (fun y hy hys => ⟨by decide, hK y true j _ hder hy (fun _ => ?_)⟩)) (by omega)
          rw [show nots m = [-1] from if_pos (by omega), ← List.append_assoc]
          exact hys
        · rw [show nots m = [] from if_neg (by omega), List.append_nil]
          exact hvs
      refine bk_49_2 ?_
      rw [if_neg (by omega)]
      refine CalE.to (next_ok hw hu) (by omega) ?_
      have hy := hh (i + m)
      refine ite_i (fun q => ?_) (fun q => ?_)
      · refine CalK (brack_c (a := a) hw (d := d + m) (by omega) (fun g => hr (d + m + 1) (by omega) (by omega)) (by omega) hu (by omega) hs (by omega) (fun g v hv => ?_) (fun g => by omega) (fun g => by omega) (fun g => by omega)) (Nat.le_refl _)
        rw [e2, e3]
        exact ⟨by decide, tail0 v _ (clo.2.2.1 d m i (by omega) hb q) hv⟩
      · refine CalK (comp_c hw hu (by omega) hs (by omega) (fun v j s hc hv hvs => ?_) (fun v j hc hv => ?_)) (by omega)
        · rw [e2, e3]
          have hcb := CMO_b hh hbn hc
          exact ⟨by decide, tail1 v j [s] (clo.1 d m i j s (by omega) hb (Or.inl (by omega)) q hc) (by show L.length + 1 + m ≤ j; omega) (by omega) hv hvs⟩
        · rw [e2, e3]
          exact ⟨by decide, tail0 v j (clo.2.1 d m i j (by omega) hb (Or.inl (by omega)) q hc) hv⟩
    | succ e ih =>
      intro m u hm hb hu hsm
      have hbn := bng_n hh hb hi
      have hs := hsm.stp hs0
      have e2 : wr (((d + m : Nat) : Int) - (d : Int)) = (m : Int) := by rw [wr_id (by omega) (by omega)]; omega
      have e3 : imd (m : Int) 2 = ((m % 2 : Nat) : Int) := imd_n (b := 2) (by omega) (by omega)
      have tail0 : ∀ v j, DER pt h 0 d i false j [] → TPS w0 v j → (if ((m % 2 : Nat) : Int) = 1 then Cal (a + 1) 65 [.inr (.inr 9), .inl (-1)] v (rV fun w6 => ((0 : Int) = 0 ∨ (0 : Int) = 1) ∧ K 0 w6) else ((0 : Int) = 0 ∨ (0 : Int) = 1) ∧ K 0 v) := by
        intro v j hder hv
        refine ite_i (fun g => ?_) (fun g => ⟨by decide, hK v false j [] hder hv (fun q => absurd q (by decide))⟩)
        exact CalK (emit_f hv (fun y hy => ⟨by decide, hK y false j [] hder hy (fun q => absurd q (by decide))⟩)) (by omega)
      have tail1 : ∀ v j T, DER pt h 0 d i true j (T ++ nots m) → L.length + T.length + m ≤ j → j ≤ n → TPS w0 v j → STP v (L ++ T) → (if ((m % 2 : Nat) : Int) = 1 then Cal (a + 1) 65 [.inr (.inr 9), .inl (-1)] v (rV fun w6 => ((1 : Int) = 0 ∨ (1 : Int) = 1) ∧ K 1 w6) else ((1 : Int) = 0 ∨ (1 : Int) = 1) ∧ K 1 v) := by
        intro v j T hder hlen hjn hv hvs
        refine ite_i (fun g => ?_) (fun g => ⟨by decide, hK v true j _ hder hv (fun _ => ?_)⟩)
        · refine CalK (emit_o hv hvs (by rw [List.length_append]; omega) (fun y hy hys => ⟨by decide, hK y true j _ hder hy (fun _ => ?_)⟩)) (by omega)
          rw [show nots m = [-1] from if_pos (by omega), ← List.append_assoc]
          exact hys
        · rw [show nots m = [] from if_neg (by omega), List.append_nil]
          exact hvs
      refine bk_49_2 ?_
      rw [if_pos (by omega)]
      refine CalE.to (next_ok hw hu) (by omega) ?_
      have hy := hh (i + m)
      refine ite_i (fun q0 => ?_) (fun q0 => ?_)
      · have hx := hu.nx (by omega)
        rw [wr_s (show d + m < 2000000 by omega)]
        exact ih (m + 1) _ (by omega) (fun k hk => by
          rcases Nat.lt_or_ge k m with g | g
          · exact hb k g
          · obtain rfl : k = m := by omega
            exact q0) hx.1 (hsm.tr hx.2)
      · refine CalE.to (next_ok hw hu) (by omega) ?_
        refine ite_i (fun q => ?_) (fun q => ?_)
        · refine CalK (brack_c (a := a) hw (d := d + m) (by omega) (fun g => hr (d + m + 1) (by omega) (by omega)) (by omega) hu (by omega) hs (by omega) (fun g v hv => ?_) (fun g v j T hder hv => ?_) (fun g v j T hder g2 hv => ?_) (fun g v j T hder g2 hv hvs => ?_)) (Nat.le_refl _)
          · omega
          · rw [e2, e3]
            exact ⟨by decide, tail0 v _ (clo.2.2.2.1 d m i j T (by omega) hb q hder) hv⟩
          · rw [e2, e3]
            exact ⟨by decide, tail0 v _ (clo.2.2.2.2.1 d m i j T (by omega) hb q hder g2) hv⟩
          · rw [e2, e3]
            have hdb := der_b hh hder (by omega)
            have hdl := hdb.2.2 rfl
            have hy2 := hh j
            exact ⟨by decide, tail1 v (j + 1) T (clo.2.2.2.2.2.1 d m i j T (by omega) hb q hder g2) (by omega) (by omega) hv hvs⟩
        · refine CalK (comp_c hw hu (by omega) hs (by omega) (fun v j s hc hv hvs => ?_) (fun v j hc hv => ?_)) (by omega)
          · rw [e2, e3]
            have hcb := CMO_b hh hbn hc
            exact ⟨by decide, tail1 v j [s] (clo.1 d m i j s (by omega) hb (Or.inr q0) q hc) (by show L.length + 1 + m ≤ j; omega) (by omega) hv hvs⟩
          · rw [e2, e3]
            exact ⟨by decide, tail0 v j (clo.2.1 d m i j (by omega) hb (Or.inr q0) q hc) hv⟩
  exact key (4 - d) 0 u0 (by omega) (fun k hk => absurd hk (Nat.not_lt_zero k)) hu0 ⟨rfl, rfl⟩
theorem term_c (hw : HTP w0 n h pt) {a d : Nat} (hp : RDC w0 n h pt 49 0 a d) (ha : 1 ≤ a) : RDC w0 n h pt 48 1 (a + 1) d := by
  intro i u0 L0 K hu0 hi hs0 hl0 hK
  have hn := hw.2.1
  have hh := hw.2.2.2.1
  have clo := DER.clo pt h
  have lp : ∀ (r j : Nat) (u : Wd) (L : List Int) (K : Int → Wd → Prop), n - j ≤ r → TPS w0 u j → j ≤ n → STP u L → L.length ≤ j → (∀ v ok j' T', DER pt h 2 d j ok j' T' → TPS w0 v j' → (ok = true → STP v (L ++ T')) → K (bI ok) v) → Ev none (Cal a) (cd 48) (rI K) (6, [some (.inr (.inr 9)), some (.inl (d : Int)), some (.inl 1)], [], u) := by
    intro r
    induction r with
    | zero =>
      intro j u L K hr hu hj hs hl hK
      have e4 := hu.2.1
      have e1 : u 9 1 = (n : Int) := (hu.1.2 1 (by decide) (by decide)).trans hw.1
      have hy := hh j
      refine bk_48_6 ?_
      rw [if_neg (by decide), e4, e1, if_neg (by omega)]
      exact ⟨by decide, hK u true j [] (clo.2.2.2.2.2.2.2.2.1 d j (by omega)) hu (fun _ => by rw [List.append_nil]; exact hs)⟩
    | succ r ih =>
      intro j u L K hr hu hj hs hl hK
      have e4 := hu.2.1
      have e1 : u 9 1 = (n : Int) := (hu.1.2 1 (by decide) (by decide)).trans hw.1
      have hy := hh j
      refine bk_48_6 ?_
      rw [if_neg (by decide), e4, e1]
      refine ite_i (fun q => ?_) (fun q => ⟨by decide, hK u true j [] (clo.2.2.2.2.2.2.2.2.1 d j (by omega)) hu (fun _ => by rw [List.append_nil]; exact hs)⟩)
      refine CalE.to (next_ok hw hu) ha ?_
      refine ite_i (fun q2 => ?_) (fun q2 => ⟨by decide, hK u true j [] (clo.2.2.2.2.2.2.2.2.1 d j q2) hu (fun _ => by rw [List.append_nil]; exact hs)⟩)
      have hx := hu.nx (by omega)
      refine hp (j + 1) _ L _ hx.1 (by omega) (hx.2.stp hs) (by omega) (fun v ok j1 T hder hv hvs => ?_)
      have hdb := der_b hh hder (by omega)
      cases ok
      · refine CalK (emit_f hv (fun y hy => ?_)) ha
        refine bk_48_6 ?_
        rw [show bI false = 0 from rfl, if_pos rfl]
        exact ⟨by decide, hK y false j1 [] (clo.2.2.2.2.2.2.2.2.2.1 d j j1 T q2 hder) hy (fun q => absurd q (by decide))⟩
      · have hdl := hdb.2.2 rfl
        refine CalK (emit_o hv (hvs rfl) (by rw [List.length_append]; omega) (fun y hy hys => ?_)) ha
        refine ih j1 y (L ++ T ++ [-2]) K (by omega) hy (by omega) hys (by rw [List.length_append, List.length_append]; show _ + 1 ≤ _; omega) (fun x ok j' T' hder2 hx2 hxs => ?_)
        refine hK x ok j' _ (clo.2.2.2.2.2.2.2.2.2.2.1 d j j1 T ok j' T' q2 hder hder2) hx2 (fun g => ?_)
        have := hxs g
        rw [List.append_assoc, List.append_assoc] at this
        exact this
  refine en_48 ?_
  refine hp i u0 L0 _ hu0 hi hs0 hl0 (fun v ok j T hder hv hvs => ?_)
  have hdb := der_b hh hder hi
  cases ok
  · refine bk_48_6 ?_
    rw [show bI false = 0 from rfl, if_pos rfl]
    exact ⟨by decide, hK v false j [] (clo.2.2.2.2.2.2.1 d i j T hder) hv (fun q => absurd q (by decide))⟩
  · have hdl := hdb.2.2 rfl
    refine lp (n - j) j v (L0 ++ T) K (Nat.le_refl _) hv hdb.2.1 (hvs rfl) (by rw [List.length_append]; omega) (fun x ok j' T' hder2 hx2 hxs => ?_)
    refine hK x ok j' _ (clo.2.2.2.2.2.2.2.1 d i j T ok j' T' hder hder2) hx2 (fun g => ?_)
    have := hxs g
    rw [List.append_assoc] at this
    exact this
theorem rule_c (hw : HTP w0 n h pt) {a d : Nat} (hp : RDC w0 n h pt 48 1 a d) (ha : 1 ≤ a) : RDC w0 n h pt 47 3 (a + 1) d := by
  intro i u0 L0 K hu0 hi hs0 hl0 hK
  have hn := hw.2.1
  have hh := hw.2.2.2.1
  have clo := DER.clo pt h
  have lp : ∀ (r j : Nat) (u : Wd) (L : List Int) (K : Int → Wd → Prop), n - j ≤ r → TPS w0 u j → j ≤ n → STP u L → L.length ≤ j → (∀ v ok j' T', DER pt h 4 d j ok j' T' → TPS w0 v j' → (ok = true → STP v (L ++ T')) → K (bI ok) v) → Ev none (Cal a) (cd 47) (rI K) (6, [some (.inr (.inr 9)), some (.inl (d : Int)), some (.inl 1)], [], u) := by
    intro r
    induction r with
    | zero =>
      intro j u L K hr hu hj hs hl hK
      have e4 := hu.2.1
      have e1 : u 9 1 = (n : Int) := (hu.1.2 1 (by decide) (by decide)).trans hw.1
      have hy := hh j
      refine bk_47_6 ?_
      rw [if_neg (by decide), e4, e1, if_neg (by omega)]
      exact ⟨by decide, hK u true j [] (clo.2.2.2.2.2.2.2.2.2.2.2.2.2.1 d j (by omega)) hu (fun _ => by rw [List.append_nil]; exact hs)⟩
    | succ r ih =>
      intro j u L K hr hu hj hs hl hK
      have e4 := hu.2.1
      have e1 : u 9 1 = (n : Int) := (hu.1.2 1 (by decide) (by decide)).trans hw.1
      have hy := hh j
      refine bk_47_6 ?_
      rw [if_neg (by decide), e4, e1]
      refine ite_i (fun q => ?_) (fun q => ⟨by decide, hK u true j [] (clo.2.2.2.2.2.2.2.2.2.2.2.2.2.1 d j (by omega)) hu (fun _ => by rw [List.append_nil]; exact hs)⟩)
      refine CalE.to (next_ok hw hu) ha ?_
      refine ite_i (fun q2 => ?_) (fun q2 => ⟨by decide, hK u true j [] (clo.2.2.2.2.2.2.2.2.2.2.2.2.2.1 d j q2) hu (fun _ => by rw [List.append_nil]; exact hs)⟩)
      have hx := hu.nx (by omega)
      refine hp (j + 1) _ L _ hx.1 (by omega) (hx.2.stp hs) (by omega) (fun v ok j1 T hder hv hvs => ?_)
      have hdb := der_b hh hder (by omega)
      cases ok
      · refine CalK (emit_f hv (fun y hy => ?_)) ha
        refine bk_47_6 ?_
        rw [show bI false = 0 from rfl, if_pos rfl]
        exact ⟨by decide, hK y false j1 [] (clo.2.2.2.2.2.2.2.2.2.2.2.2.2.2.1 d j j1 T q2 hder) hy (fun q => absurd q (by decide))⟩
      · have hdl := hdb.2.2 rfl
        refine CalK (emit_o hv (hvs rfl) (by rw [List.length_append]; omega) (fun y hy hys => ?_)) ha
        refine ih j1 y (L ++ T ++ [-3]) K (by omega) hy (by omega) hys (by rw [List.length_append, List.length_append]; show _ + 1 ≤ _; omega) (fun x ok j' T' hder2 hx2 hxs => ?_)
        refine hK x ok j' _ (clo.2.2.2.2.2.2.2.2.2.2.2.2.2.2.2 d j j1 T ok j' T' q2 hder hder2) hx2 (fun g => ?_)
        have := hxs g
        rw [List.append_assoc, List.append_assoc] at this
        exact this
  refine en_47 ?_
  refine hp i u0 L0 _ hu0 hi hs0 hl0 (fun v ok j T hder hv hvs => ?_)
  have hdb := der_b hh hder hi
  cases ok
  · refine bk_47_6 ?_
    rw [show bI false = 0 from rfl, if_pos rfl]
    exact ⟨by decide, hK v false j [] (clo.2.2.2.2.2.2.2.2.2.2.2.1 d i j T hder) hv (fun q => absurd q (by decide))⟩
  · have hdl := hdb.2.2 rfl
    refine lp (n - j) j v (L0 ++ T) K (Nat.le_refl _) hv hdb.2.1 (hvs rfl) (by rw [List.length_append]; omega) (fun x ok j' T' hder2 hx2 hxs => ?_)
    refine hK x ok j' _ (clo.2.2.2.2.2.2.2.2.2.2.2.2.1 d i j T ok j' T' hder hder2) hx2 (fun g => ?_)
    have := hxs g
    rw [List.append_assoc] at this
    exact this
theorem RDC.up {k m a a' d : Nat} (hr : RDC w0 n h pt k m a d) (ha : a ≤ a') : RDC w0 n h pt k m a' d := fun i u L K h1 h2 h3 h4 h5 => CalK (hr i u L K h1 h2 h3 h4 h5) ha
theorem rule_all (hw : HTP w0 n h pt) : ∀ e d : Nat, d + e = 4 → RDC w0 n h pt 47 3 (6 + 4 * e) d := by
  intro e
  induction e using Nat.strongRecOn with
  | _ e ih =>
    intro d hd
    have h1 : RDC w0 n h pt 49 0 ((2 + 4 * e) + 2) d := part_c hw (by omega) (fun d' g1 g2 => (ih (4 - d') (by omega) d' (by omega)).up (by omega)) (by omega)
    have h2 := term_c hw h1 (by omega)
    have h3 := rule_c hw h2 (by omega)
    exact h3.up (by omega)
end
