/-! the reference reads a rule -/
def FRR (w0 u : Wd) : Prop := (∀ c, ¬ c = 12 → ¬ c = 171 → ¬ c = 172 → u c = w0 c) ∧ ∀ j, ¬ j = 39 → ¬ j = 40 → ¬ j = 41 → ¬ j = 43 → ¬ j = 45 → u 12 j = w0 12 j
theorem FRR.st {w0 u : Wd} (h : FRR w0 u) {i : Nat} (hi : i = 39 ∨ i = 40 ∨ i = 41 ∨ i = 43 ∨ i = 45) {x : Int} : FRR w0 (wst u 12 i x) := by
  refine ⟨fun c c1 c2 c3 => ?_, fun j j1 j2 j3 j4 j5 => ?_⟩
  · rw [← h.1 c c1 c2 c3]
    funext j
    rw [wst_ap, if_neg (fun q => c1 q.1)]
  · rw [← h.2 j j1 j2 j3 j4 j5, wst_ap, if_neg (by omega)]
theorem FRR.a {w0 u : Wd} (h : FRR w0 u) {c i : Nat} (hc : c = 171 ∨ c = 172) {x : Int} : FRR w0 (wst u c i x) := by
  refine ⟨fun a c1 c2 c3 => ?_, fun j j1 j2 j3 j4 j5 => ?_⟩
  · rw [← h.1 a c1 c2 c3]
    funext j
    rw [wst_ap, if_neg (by omega)]
  · rw [← h.2 j j1 j2 j3 j4 j5, wst_ap, if_neg (by omega)]
def stk (f : Nat → Int) : List Int → Prop
  | [] => True
  | x :: L => f L.length = x ∧ stk f L
def stb (f : Nat → Int) : List Bool → Prop
  | [] => True
  | v :: L => f L.length = bI v ∧ stb f L
theorem stk_w {f g : Nat → Int} {L : List Int} (h : stk f L) (hg : ∀ j, j < L.length → g j = f j) : stk g L := by
  induction L with
  | nil => exact trivial
  | cons x L ih =>
    have e : (x :: L).length = L.length + 1 := rfl
    exact ⟨(hg _ (by omega)).trans h.1, ih h.2 (fun j hj => hg j (by omega))⟩
theorem stb_w {f g : Nat → Int} {L : List Bool} (h : stb f L) (hg : ∀ j, j < L.length → g j = f j) : stb g L := by
  induction L with
  | nil => exact trivial
  | cons x L ih =>
    have e : (x :: L).length = L.length + 1 := rfl
    exact ⟨(hg _ (by omega)).trans h.1, ih h.2 (fun j hj => hg j (by omega))⟩
def top (S : List Int) : Int := S.headD 0
/-- the reference's reading stands at i: fault, depth, signs, values -/
def RSt (w0 : Wd) (n : Nat) (u : Wd) (i : Nat) (e : Int) (d : Nat) (S : List Int) (V : List Bool) : Prop := FRR w0 u ∧ u 12 39 = (i : Int) ∧ u 12 40 = e ∧ u 12 41 = (d : Int) ∧ u 12 43 = (V.length : Int) ∧ u 12 45 = (S.length : Int) ∧ stk (u 172) S ∧ stb (u 171) V ∧ i ≤ n ∧ S.length ≤ i ∧ V.length ≤ i + 1 ∧ (e = 0 → V.length ≤ i)
def mF (pt : Int) : Int := if pt = 0 then 5 else 4
def HTR (w0 : Wd) (n : Nat) (h : Nat → Int) (pt : Int) (f : Nat → Int) : Prop := w0 12 38 = (n : Int) ∧ n ≤ 40 ∧ ((w0 12 35 = 0 ∧ ∀ i, i < n → w0 168 i = h i) ∨ (¬ w0 12 35 = 0 ∧ 0 ≤ w0 12 37 ∧ w0 12 37 ≤ 1160 ∧ ∀ i : Nat, i < n → w0 169 (w0 12 37 + i).toNat = h i)) ∧ HOK h n ∧ w0 12 36 = pt ∧ (pt = 0 ∨ pt = 1) ∧ ∀ k, k < 5 → w0 167 k = f k
theorem dgR_0 (h : Nat → Int) (i : Nat) (hi : 48 ≤ h i ∧ h i ≤ 57) : dgR h 4 i 0 = dgR h 4 i (-1) := by
  rw [dgR_s h 3 i 0, dgR_s h 3 i (-1), if_pos hi, if_pos hi]
  rfl
theorem dgR_p (h : Nat → Int) (f : Nat) : ∀ (i : Nat) (v : Int), 0 ≤ v → 0 ≤ (dgR h f i v).1 := by
  induction f with
  | zero => intro i v hv; exact hv
  | succ f ih =>
    intro i v hv
    rw [dgR_s]
    split
    · exact ih _ _ (by omega)
    · exact hv
theorem faI_4 {pt c : Int} (hp : pt = 0 ∨ pt = 1) : faI pt c < mF pt := by
  unfold faI mF
  rcases hp with rfl | rfl
  · rw [if_pos rfl, if_pos rfl]
    repeat' split
    all_goals omega
  · rw [if_neg (show ¬ (1 : Int) = 0 by decide), if_neg (show ¬ (1 : Int) = 0 by decide)]
    repeat' split
    all_goals omega
section
variable {w0 : Wd} {n : Nat} {h : Nat → Int} {pt : Int} {f : Nat → Int}
theorem hereR_ok (hw : HTR w0 n h pt f) {u : Wd} {i : Nat} (hF : FRR w0 u) (h39 : u 12 39 = (i : Int)) (hi : i ≤ n) : Cal 1 180 [.inr (.inr 12)] u (rI fun y v => y = h i ∧ v = u) := by
  obtain ⟨g1, g2, g3, g4, g5⟩ := hw
  have e38 : u 12 38 = (n : Int) := (hF.2 38 (by decide) (by decide) (by decide) (by decide) (by decide)).trans g1
  have e35 : u 12 35 = w0 12 35 := hF.2 35 (by decide) (by decide) (by decide) (by decide) (by decide)
  have e37 : u 12 37 = w0 12 37 := hF.2 37 (by decide) (by decide) (by decide) (by decide) (by decide)
  have e168 : u 168 = w0 168 := hF.1 168 (by decide) (by decide) (by decide)
  have e169 : u 169 = w0 169 := hF.1 169 (by decide) (by decide) (by decide)
  have hh := g4 i
  refine en_180 ?_
  simp only [h39, e38, e35, e37, e168, e169, tn]
  refine ite_i (fun q => ?_) (fun q => ⟨by omega, rfl⟩)
  rcases g3 with ⟨k1, k2⟩ | ⟨k1, k2, k3, k4⟩
  · rw [if_pos k1]
    exact ⟨by omega, k2 i (by omega), rfl⟩
  · rw [if_neg k1, wr_id (by omega) (by omega)]
    exact ⟨by omega, k4 i (by omega), rfl⟩
theorem factOf_ok (hw : HTR w0 n h pt f) {u : Wd} (hF : FRR w0 u) {c : Int} (hc : -1 ≤ c ∧ c ≤ 255) : Cal 1 183 [.inr (.inr 12), .inl c] u (rI fun y v => y = faI pt c ∧ v = u) := by
  have e36 : u 12 36 = pt := (hF.2 36 (by decide) (by decide) (by decide) (by decide) (by decide)).trans hw.2.2.2.2.1
  refine en_183 ?_
  rw [e36, wr_id (by omega) (by omega)]
  unfold faI
  refine ite_i (fun q => ?_) (fun q => ?_)
  · rw [if_pos q]
    refine ite_i (fun a => ?_) (fun a => ite_i (fun b => ?_) (fun b => ite_i (fun c' => ?_) (fun c' => ite_i (fun e => ?_) (fun e => ite_i (fun g => ?_) (fun g => ?_)))))
    · rw [if_neg (by omega), if_neg (by omega), if_neg (by omega), if_pos a]; exact ⟨rfl, rfl⟩
    · rw [if_neg (by omega), if_neg (by omega), if_pos b]; exact ⟨rfl, rfl⟩
    · rw [if_pos c']; exact ⟨rfl, rfl⟩
    · rw [if_neg (by omega), if_pos e]; exact ⟨rfl, rfl⟩
    · rw [if_neg (by omega), if_neg (by omega), if_neg (by omega), if_neg (by omega), if_pos g]; exact ⟨rfl, rfl⟩
    · rw [if_neg (by omega), if_neg (by omega), if_neg (by omega), if_neg (by omega), if_neg (by omega)]; exact ⟨rfl, rfl⟩
  · rw [if_neg q]
    refine ite_i (fun a => ?_) (fun a => ite_i (fun b => ?_) (fun b => ?_))
    · rw [if_pos a]; exact ⟨rfl, rfl⟩
    · rw [if_neg a, if_pos b]; exact ⟨rfl, rfl⟩
    · rw [if_neg a, if_neg b]; exact ⟨rfl, rfl⟩
/-- nothing but place and fault -/
def KPR (u v : Wd) : Prop := (∀ c, ¬ c = 12 → v c = u c) ∧ ∀ j, ¬ j = 39 → ¬ j = 40 → v 12 j = u 12 j
theorem KPR.fr {u v : Wd} (h : KPR u v) (hF : FRR w0 u) : FRR w0 v := ⟨fun c c1 c2 c3 => (h.1 c c1).trans (hF.1 c c1 c2 c3), fun j j1 j2 j3 j4 j5 => (h.2 j j1 j2).trans (hF.2 j j1 j2 j3 j4 j5)⟩
theorem KPR.st {u v : Wd} (h : KPR u v) {i : Nat} (hi : i = 39 ∨ i = 40) {x : Int} : KPR u (wst v 12 i x) := by
  refine ⟨fun c c1 => ?_, fun j j1 j2 => ?_⟩
  · rw [← h.1 c c1]
    funext j
    rw [wst_ap, if_neg (fun q => c1 q.1)]
  · rw [← h.2 j j1 j2, wst_ap, if_neg (by omega)]
theorem KPR.refl (u : Wd) : KPR u u := ⟨fun _ _ => rfl, fun _ _ _ => rfl⟩
theorem rdigs_l (hw : HTR w0 n h pt f) {w : Wd} (hF : FRR w0 w) {e : Int} {K : Int → Wd → Prop} : ∀ (g k i : Nat) (v : Int) (u : Wd), k + g = 4 → KPR w u → u 12 39 = (i : Int) → u 12 40 = e → i ≤ n → 0 ≤ v → (k = 0 → v < 1) → (k = 1 → v < 10) → (k = 2 → v < 100) → (k = 3 → v < 1000) → (∀ u', KPR w u' → u' 12 39 = ((dgR h g i v).2 : Int) → u' 12 40 = e → K (dgR h g i v).1 u') → Ev none (Cal 1) (cd 182) (rI K) (58, [some (.inr (.inr 12)), none, some (.inl v), some (.inl (k : Int))], [], u) := by
  intro g
  induction g with
  | zero =>
    intro k i v u hk hu h39 h40 hi h1 _ _ _ _ hK
    refine bk_182_58 ?_
    rw [if_neg (by omega)]
    exact hK u hu h39 h40
  | succ g ih =>
    intro k i v u hk hu h39 h40 hi h1 k0 k1 k2 k3 hK
    rw [dgR_s] at hK
    have hn := hw.2.1
    have hh := hw.2.2.2.1 i
    refine bk_182_58 ?_
    rw [if_pos (by omega)]
    refine CalE.to (hereR_ok hw (hu.fr hF) h39 hi) (by decide) ?_
    refine CalB in_ok (by decide) (fun q => ?_) (fun q => ?_)
    · rw [if_neg (by decide)]
      rw [if_pos q] at hK
      refine CalE.to (hereR_ok hw (hu.fr hF) h39 hi) (by decide) ?_
      rw [wr_id (x := 10 * v) (by omega) (by omega), wr_id (x := 10 * v + h i) (by omega) (by omega), wr_id (x := 10 * v + h i - 48) (by omega) (by omega), wr_s (by omega), h39, wr_s (by omega)]
      rw [show max 0 v * 10 + h i - 48 = 10 * v + h i - 48 by omega] at hK
      exact ih (k + 1) (i + 1) _ _ (by omega) (hu.st (Or.inl rfl)) rfl h40 (by omega) (by omega) (by omega) (by omega) (by omega) (by omega) hK
    · rw [if_pos rfl]
      rw [if_neg q] at hK
      exact hK u hu h39 h40
theorem runit_c (hw : HTR w0 n h pt f) {u : Wd} {i : Nat} {K : Int → Wd → Prop} (hF : FRR w0 u) (h39 : u 12 39 = (i : Int)) (h40 : u 12 40 = 0) (hi : i ≤ n) (h1 : 0 ≤ (unF pt h i).1 → ∀ v, KPR u v → v 12 39 = ((unF pt h i).2 : Int) → v 12 40 = 0 → K (valU f (mF pt) (unF pt h i).1) v) (h0 : (unF pt h i).1 < 0 → ∀ y v, KPR u v → v 12 39 = ((unF pt h i).2 : Int) → v 12 40 = 1 → K y v) : Cal 2 182 [.inr (.inr 12)] u (rI K) := by
  have hn := hw.2.1
  have hh := hw.2.2.2.1 i
  have hfb := faI_b pt (h i)
  have e167 : u 167 = w0 167 := hF.1 167 (by decide) (by decide) (by decide)
  refine en_182 ?_
  refine CalE.to (hereR_ok hw hF h39 hi) (by decide) ?_
  refine CalE.to (factOf_ok hw hF (by omega)) (by decide) ?_
  unfold unF at h1 h0
  refine ite_i (fun q => ?_) (fun q => ?_)
  · rw [if_neg (by omega)] at h1 h0
    refine CalB in_ok (by decide) (fun r => ?_) (fun r => ?_)
    · rw [if_neg (by decide)]
      refine ⟨by decide, ?_⟩
      refine rdigs_l hw hF (e := 0) 4 0 i 0 _ rfl ((KPR.refl u).st (Or.inr rfl)) h39 rfl hi (by decide) (by decide) (by decide) (by decide) (by decide) (fun u' g1 g2 g3 => ?_)
      rw [dgR_0 h i r] at g2 ⊢
      have hp := dgR_p h 4 i 0 (by decide)
      rw [dgR_0 h i r] at hp
      have hb := dgR_b h 4 i (-1) 0 (by decide) (by decide)
      have h3 : max 1 (0 : Int) * 10 ^ 4 = 10000 := rfl
      rw [h3] at hb
      have := h1 hp u' g1 g2 g3
      unfold valU at this
      rw [if_pos (by omega)] at this
      exact this
    · rw [if_pos rfl]
      refine ⟨by decide, ?_⟩
      have hd : ∀ v, dgR h 4 i v = (v, i) := fun v => by rw [dgR_s, if_neg r]
      refine rdigs_l hw hF (e := 1) 4 0 i 0 _ rfl ((KPR.refl u).st (Or.inr rfl)) h39 rfl hi (by decide) (by decide) (by decide) (by decide) (by decide) (fun u' g1 g2 g3 => ?_)
      rw [hd] at g2
      rw [hd] at h0
      exact h0 (show (-1 : Int) < 0 by decide) _ u' g1 g2 g3
  · rw [if_pos (by omega)] at h1
    rw [h39, wr_s (by omega)]
    refine CalE.to (factOf_ok hw (hF.st (Or.inl rfl)) (by omega)) (by decide) ?_
    refine ⟨by omega, ?_⟩
    have hm := faI_4 (pt := pt) (c := h i) hw.2.2.2.2.2.1
    have := h1 (by show 0 ≤ 10000 + faI pt (h i); omega) _ ((KPR.refl u).st (Or.inl rfl)) rfl h40
    unfold valU at this
    rw [show 10000 + faI pt (h i) - 10000 = faI pt (h i) by omega, if_neg (by omega), if_pos hm] at this
    have e2 : (wst u 12 39 ((i + 1 : Nat) : Int)) 167 (faI pt (h i)).toNat = f (faI pt (h i)).toNat := by
      show u 167 _ = _
      rw [e167]
      exact hw.2.2.2.2.2.2 _ (by omega)
    rw [e2]
    exact this
theorem rtest_c (hw : HTR w0 n h pt f) {u : Wd} {i : Nat} {K : Int → Wd → Prop} (hF : FRR w0 u) (h39 : u 12 39 = (i : Int)) (h40 : u 12 40 = 0) (hi : i ≤ n) (h1 : ∀ j s, CMO pt h i j s → ∀ v, KPR u v → v 12 39 = (j : Int) → v 12 40 = 0 → K (bI (cmpV f (mF pt) s)) v) (h0 : ∀ j, CMB pt h i j → ∀ b v, KPR u v → v 12 39 = (j : Int) → v 12 40 = 1 → K (bI b) v) : Cal 3 181 [.inr (.inr 12)] u (rI K) := by
  have hn := hw.2.1
  have hh := hw.2.2.2.1
  have b1 := unF_b hh pt hi
  have hy := hh (unF pt h i).2
  refine en_181 ?_
  refine CalK (runit_c hw hF h39 h40 hi (fun q v kv v39 v40 => ?_) (fun q y v kv v39 v40 => ?_)) (by decide)
  · refine CalE.to (hereR_ok hw (kv.fr hF) v39 b1.2.2.2.1) (by decide) ?_
    rw [if_pos v40]
    have go : 60 ≤ h (unF pt h i).2 → h (unF pt h i).2 ≤ 62 → Ev none (Cal 2) (cd 181) (rI K) (42, [some (.inr (.inr 12)), some (.inl (valU f (mF pt) (unF pt h i).1)), some (.inl (h (unF pt h i).2)), none], [], v) := by
      intro q1 q2
      refine bk_181_42 ?_
      have hlt : (unF pt h i).2 < n := by omega
      have b2' := unF_b hh pt (i := (unF pt h i).2 + 1) (by omega)
      rw [v39, wr_s (by omega)]
      have kx := kv.st (Or.inl rfl) (x := (((unF pt h i).2 + 1 : Nat) : Int))
      have tr : ∀ {x : Wd}, KPR (wst v 12 39 (((unF pt h i).2 + 1 : Nat) : Int)) x → KPR u x := fun hx => ⟨fun c c1 => (hx.1 c c1).trans (kx.1 c c1), fun j j1 j2 => (hx.2 j j1 j2).trans (kx.2 j j1 j2)⟩
      refine CalK (runit_c hw (kx.fr hF) rfl v40 (by omega) (fun q3 x xk x39 x40 => ?_) (fun q3 y x xk x39 x40 => ?_)) (by decide)
      · have hc : CMO pt h i (unF pt h ((unF pt h i).2 + 1)).2 (enc (unF pt h i).1 (unF pt h ((unF pt h i).2 + 1)).1 (h (unF pt h i).2 - 60)) := ⟨q, q1, q2, q3, rfl, rfl⟩
        have hk := h1 _ _ hc x (tr xk) x39 x40
        obtain ⟨l, hl⟩ : ∃ l : Nat, (unF pt h i).1 = (l : Int) := ⟨_, (Int.toNat_of_nonneg q).symm⟩
        obtain ⟨r, hr⟩ : ∃ l : Nat, (unF pt h ((unF pt h i).2 + 1)).1 = (l : Int) := ⟨_, (Int.toNat_of_nonneg q3).symm⟩
        obtain ⟨o, ho⟩ : ∃ l : Nat, h (unF pt h i).2 - 60 = (l : Int) := ⟨(h (unF pt h i).2 - 60).toNat, by omega⟩
        have hed := enc_d (l := l) (r := r) (o := o) (by omega) (by omega) (by omega)
        unfold cmpV at hk
        rw [hl, hr, ho, hed.1, hed.2.1, hed.2.2] at hk
        rw [hl, hr]
        generalize valU f (mF pt) (l : Int) = a at hk ⊢
        generalize valU f (mF pt) (r : Int) = b at hk ⊢
        unfold cmp3 at hk
        refine ite_i (fun g => ?_) (fun g => ite_i (fun g2 => ?_) (fun g2 => ?_))
        · rw [if_pos (by omega)] at hk
          refine ite_i (fun z => ?_) (fun z => ?_)
          · rw [decide_eq_true z] at hk; exact ⟨by decide, hk⟩
          · rw [decide_eq_false z] at hk; exact ⟨by decide, hk⟩
        · rw [if_neg (by omega), if_pos (by omega)] at hk
          refine ite_i (fun z => ?_) (fun z => ?_)
          · rw [decide_eq_true z] at hk; exact ⟨by decide, hk⟩
          · rw [decide_eq_false z] at hk; exact ⟨by decide, hk⟩
        · rw [if_neg (by omega), if_neg (by omega)] at hk
          refine ite_i (fun z => ?_) (fun z => ?_)
          · rw [decide_eq_true z] at hk; exact ⟨by decide, hk⟩
          · rw [decide_eq_false z] at hk; exact ⟨by decide, hk⟩
      · have hc : CMB pt h i (unF pt h ((unF pt h i).2 + 1)).2 := Or.inr ⟨q, q1, q2, q3, rfl⟩
        have hk0 : K 0 x := h0 _ hc false x (tr xk) x39 x40
        have hk1 : K 1 x := h0 _ hc true x (tr xk) x39 x40
        refine ite_i (fun g => ?_) (fun g => ite_i (fun g2 => ?_) (fun g2 => ?_))
        all_goals exact ite_i (fun z => ⟨by decide, hk1⟩) (fun z => ⟨by decide, hk0⟩)
    refine ite_i (fun c1 => go (by omega) (by omega)) (fun c1 => ite_i (fun c2 => go (by omega) (by omega)) (fun c2 => ite_i (fun c3 => go (by omega) (by omega)) (fun c3 => ?_)))
    exact ⟨by decide, by decide, h0 _ (Or.inl ⟨Or.inr (by omega), rfl⟩) false _ (kv.st (Or.inr rfl)) v39 rfl⟩
  · refine CalE.to (hereR_ok hw (kv.fr hF) v39 b1.2.2.2.1) (by decide) ?_
    rw [if_neg (by omega)]
    exact ⟨by decide, by decide, h0 _ (Or.inl ⟨Or.inl q, rfl⟩) false _ (kv.st (Or.inr rfl)) v39 rfl⟩
theorem topSign_ok {u : Wd} {i d : Nat} {e : Int} {S : List Int} {V : List Bool} (hn : n ≤ 40) (hu : RSt w0 n u i e d S V) : Cal 1 185 [.inr (.inr 12)] u (rI fun y v => y = top S ∧ v = u) := by
  obtain ⟨hF, h39, h40, h41, h43, h45, hS, hV, g1, g2, g3⟩ := hu
  refine en_185 ?_
  rw [h45]
  cases S with
  | nil => rw [if_pos (show (([] : List Int).length : Int) = 0 from rfl)]; exact ⟨rfl, rfl⟩
  | cons x L =>
    have e1 : (x :: L).length = L.length + 1 := rfl
    rw [if_neg (by omega), e1, show wr (((L.length + 1 : Nat) : Int) - 1) = (L.length : Int) by rw [wr_id (by omega) (by omega)]; omega, tn]
    exact ⟨by omega, hS.1, rfl⟩
theorem en0_join {d : Nat} {Q : Option AV → Wd → Prop} {x : Int} {w : Wd} (h : Ev none (Cal d) (cd 186) Q (0, [some (.inr (.inr 12)), some (.inl x)], [], w)) : Cal (d + 1) 186 [.inr (.inr 12), .inl x] w Q := h
theorem en0_ends {d : Nat} {Q : Option AV → Wd → Prop} {w : Wd} (h : Ev none (Cal d) (cd 184) Q (0, [some (.inr (.inr 12))], [], w)) : Cal (d + 1) 184 [.inr (.inr 12)] w Q := h
theorem ends_l (hn : n ≤ 40) {K : Wd → Prop} {i d : Nat} {e : Int} {S : List Int} {V : List Bool} (hS : ¬ top S = 33) : ∀ (k : Nat) (v : Bool) (u : Wd), d + k ≤ 100 → RSt w0 n u i e (d + k) (List.replicate k 33 ++ S) (v :: V) → (∀ u', RSt w0 n u' i e d S (fl k v :: V) → K u') → Ev none (Cal 1) (cd 184) (rV K) (0, [some (.inr (.inr 12))], [], u) := by
  intro k
  induction k with
  | zero =>
    intro v u hdk hu hK
    refine bk_184_0 ?_
    refine CalE.to (topSign_ok hn hu) (by decide) ?_
    rw [if_neg (show ¬ top (List.replicate 0 33 ++ S) = 33 from hS)]
    exact hK u hu
  | succ k ih =>
    intro v u hdk hu hK
    refine bk_184_0 ?_
    refine CalE.to (topSign_ok hn hu) (by decide) ?_
    rw [if_pos (show top (List.replicate (k + 1) 33 ++ S) = 33 from rfl)]
    obtain ⟨hF, h39, h40, h41, h43, h45, hst, hV, g1, g2, g3⟩ := hu
    have e1 : (v :: V).length = V.length + 1 := rfl
    have e2 : (List.replicate (k + 1) (33 : Int) ++ S).length = (List.replicate k (33 : Int) ++ S).length + 1 := rfl
    rw [e1] at h43 g3
    rw [e2] at h45 g2
    have w1 : wr (((V.length + 1 : Nat) : Int) - 1) = (V.length : Int) := by rw [wr_id (by omega) (by omega)]; omega
    have w2 : wr ((((List.replicate k (33 : Int) ++ S).length + 1 : Nat) : Int) - 1) = ((List.replicate k (33 : Int) ++ S).length : Int) := by rw [wr_id (by omega) (by omega)]; omega
    have w3 : wr (((d + (k + 1) : Nat) : Int) - 1) = ((d + k : Nat) : Int) := by rw [wr_id (by omega) (by omega)]; omega
    have hv1 : u 171 V.length = bI v := hV.1
    have nxt : ∀ y : Int, y = bI (!v) → Ev none (Cal 1) (cd 184) (rV K) (0, [some (.inr (.inr 12))], [], wst (wst (wst u 171 V.length y) 12 45 ((List.replicate k (33 : Int) ++ S).length : Int)) 12 41 ((d + k : Nat) : Int)) := by
      intro y hy
      refine ih (!v) _ (by omega) ⟨((hF.a (Or.inl rfl)).st (by omega)).st (by omega), h39, h40, rfl, ?_, rfl, hst.2, ?_, g1, by omega, ?_⟩ (fun u' hu' => hK u' ?_)
      · show u 12 43 = _
        rw [h43]; rfl
      · refine ⟨?_, stb_w hV.2 (fun j hj => ?_)⟩
        · show (if 171 = 171 ∧ V.length = V.length then y else u 171 V.length) = _
          rw [if_pos ⟨rfl, rfl⟩, hy]
        · show (if 171 = 171 ∧ j = V.length then y else u 171 j) = _
          rw [if_neg (by omega)]
      · exact g3
      · have : fl k (!v) = fl (k + 1) v := by
          unfold fl
          rcases Nat.mod_two_eq_zero_or_one k with g | g
          · rw [if_neg (by omega), if_pos (by omega)]
          · rw [if_pos g, if_neg (by omega), Bool.not_not]
        rw [← this]
        exact hu'
    simp only [wst_ap, Nat.reduceEqDiff, false_and, and_false, if_false, and_self, if_true, h43, h45, h41, w1, w2, w3, tn, hv1]
    refine ⟨by omega, ?_⟩
    cases v
    · rw [show bI false = 0 from rfl, if_pos rfl]
      exact ⟨by omega, by decide, nxt 1 rfl⟩
    · rw [show bI true = 1 from rfl, if_neg (by decide)]
      exact ⟨by omega, by decide, nxt 0 rfl⟩
end
